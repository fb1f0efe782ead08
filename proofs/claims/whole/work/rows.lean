section
-- ===== PART A: goes FIRST, ahead of the names: the tables' words, and 'selects' of the private methods out of them =====
/-- a private method of a class that the tables say can be made, by its rows of tables_1 -/
def lw_okq (q : MethodName × Nat) : Prop := (q.1.cls ≠ "java/lang/invoke/MethodHandle" ∧ q.1.cls ≠ "java/lang/invoke/VarHandle") ∧ Cond.instantiable q.1.cls q.2 ∈ tables_1 ∧ Cond.privateMethod q.1 ∈ tables_1 ∧ Cond.instanceMethod q.1 ∈ tables_1
theorem lw_p0 : lw_okq (⟨"GradeGraph$Graph", "arrange", "()V"⟩, 5) := ⟨⟨by decide +kernel, by decide +kernel⟩, List.mem_of_getElem? (i := 29) (by decide +kernel), List.mem_of_getElem? (i := 255) (by decide +kernel), List.mem_of_getElem? (i := 256) (by decide +kernel)⟩
theorem lw_p1 : lw_okq (⟨"GradeGraph$Graph", "firstReady", "(I)I"⟩, 5) := ⟨⟨by decide +kernel, by decide +kernel⟩, List.mem_of_getElem? (i := 29) (by decide +kernel), List.mem_of_getElem? (i := 259) (by decide +kernel), List.mem_of_getElem? (i := 260) (by decide +kernel)⟩
theorem lw_p2 : lw_okq (⟨"GradeGraph$Graph", "depthBehindInputs", "(LGradeGraph$Node;)I"⟩, 5) := ⟨⟨by decide +kernel, by decide +kernel⟩, List.mem_of_getElem? (i := 29) (by decide +kernel), List.mem_of_getElem? (i := 270) (by decide +kernel), List.mem_of_getElem? (i := 271) (by decide +kernel)⟩
theorem lw_p3 : lw_okq (⟨"GradeGraph$Cache", "remove", "(I)V"⟩, 8) := ⟨⟨by decide +kernel, by decide +kernel⟩, List.mem_of_getElem? (i := 90) (by decide +kernel), List.mem_of_getElem? (i := 316) (by decide +kernel), List.mem_of_getElem? (i := 317) (by decide +kernel)⟩
theorem lw_p4 : lw_okq (⟨"GradeGraph", "ask", "(III)[I"⟩, 6) := ⟨⟨by decide +kernel, by decide +kernel⟩, List.mem_of_getElem? (i := 21) (by decide +kernel), List.mem_of_getElem? (i := 380) (by decide +kernel), List.mem_of_getElem? (i := 381) (by decide +kernel)⟩
theorem lw_p5 : lw_okq (⟨"GradeGraph$Cache", "touch", "(LGradeGraph$Picture;)V"⟩, 8) := ⟨⟨by decide +kernel, by decide +kernel⟩, List.mem_of_getElem? (i := 90) (by decide +kernel), List.mem_of_getElem? (i := 392) (by decide +kernel), List.mem_of_getElem? (i := 393) (by decide +kernel)⟩
theorem lw_p6 : lw_okq (⟨"GradeGraph$Cache", "dropOldest", "()V"⟩, 8) := ⟨⟨by decide +kernel, by decide +kernel⟩, List.mem_of_getElem? (i := 90) (by decide +kernel), List.mem_of_getElem? (i := 400) (by decide +kernel), List.mem_of_getElem? (i := 401) (by decide +kernel)⟩
theorem lw_p7 : lw_okq (⟨"GradeGraph$Reader", "expression", "(I)I"⟩, 7) := ⟨⟨by decide +kernel, by decide +kernel⟩, List.mem_of_getElem? (i := 148) (by decide +kernel), List.mem_of_getElem? (i := 513) (by decide +kernel), List.mem_of_getElem? (i := 514) (by decide +kernel)⟩
theorem lw_p8 : lw_okq (⟨"GradeGraph$Reader", "kindHere", "()I"⟩, 7) := ⟨⟨by decide +kernel, by decide +kernel⟩, List.mem_of_getElem? (i := 148) (by decide +kernel), List.mem_of_getElem? (i := 517) (by decide +kernel), List.mem_of_getElem? (i := 518) (by decide +kernel)⟩
theorem lw_p9 : lw_okq (⟨"GradeGraph$Reader", "expect", "(I)V"⟩, 7) := ⟨⟨by decide +kernel, by decide +kernel⟩, List.mem_of_getElem? (i := 148) (by decide +kernel), List.mem_of_getElem? (i := 609) (by decide +kernel), List.mem_of_getElem? (i := 610) (by decide +kernel)⟩
theorem lw_p10 : lw_okq (⟨"GradeGraph$Reader", "readNumber", "(II)I"⟩, 7) := ⟨⟨by decide +kernel, by decide +kernel⟩, List.mem_of_getElem? (i := 148) (by decide +kernel), List.mem_of_getElem? (i := 613) (by decide +kernel), List.mem_of_getElem? (i := 614) (by decide +kernel)⟩
theorem lw_p11 : lw_okq (⟨"GradeGraph$Reader", "readDigits", "()I"⟩, 7) := ⟨⟨by decide +kernel, by decide +kernel⟩, List.mem_of_getElem? (i := 148) (by decide +kernel), List.mem_of_getElem? (i := 617) (by decide +kernel), List.mem_of_getElem? (i := 618) (by decide +kernel)⟩
theorem lw_p12 : lw_okq (⟨"GradeGraph$Reader", "newNode", "(II)I"⟩, 7) := ⟨⟨by decide +kernel, by decide +kernel⟩, List.mem_of_getElem? (i := 148) (by decide +kernel), List.mem_of_getElem? (i := 622) (by decide +kernel), List.mem_of_getElem? (i := 623) (by decide +kernel)⟩
theorem lw_p13 : lw_okq (⟨"GradeGraph$Reader", "nextExpression", "(I)I"⟩, 7) := ⟨⟨by decide +kernel, by decide +kernel⟩, List.mem_of_getElem? (i := 148) (by decide +kernel), List.mem_of_getElem? (i := 627) (by decide +kernel), List.mem_of_getElem? (i := 628) (by decide +kernel)⟩
theorem lw_p14 : lw_okq (⟨"GradeGraph$Reader", "fill", "(LGradeGraph$Node;IIII)V"⟩, 7) := ⟨⟨by decide +kernel, by decide +kernel⟩, List.mem_of_getElem? (i := 148) (by decide +kernel), List.mem_of_getElem? (i := 638) (by decide +kernel), List.mem_of_getElem? (i := 639) (by decide +kernel)⟩
theorem lw_p15 : lw_okq (⟨"GradeGraph", "mixNode", "(JI)J"⟩, 6) := ⟨⟨by decide +kernel, by decide +kernel⟩, List.mem_of_getElem? (i := 21) (by decide +kernel), List.mem_of_getElem? (i := 689) (by decide +kernel), List.mem_of_getElem? (i := 690) (by decide +kernel)⟩
def lw_privs_1 : List (MethodName × Nat) := [(⟨"GradeGraph$Graph", "arrange", "()V"⟩, 5), (⟨"GradeGraph$Graph", "firstReady", "(I)I"⟩, 5), (⟨"GradeGraph$Graph", "depthBehindInputs", "(LGradeGraph$Node;)I"⟩, 5), (⟨"GradeGraph$Cache", "remove", "(I)V"⟩, 8), (⟨"GradeGraph", "ask", "(III)[I"⟩, 6), (⟨"GradeGraph$Cache", "touch", "(LGradeGraph$Picture;)V"⟩, 8), (⟨"GradeGraph$Cache", "dropOldest", "()V"⟩, 8), (⟨"GradeGraph$Reader", "expression", "(I)I"⟩, 7), (⟨"GradeGraph$Reader", "kindHere", "()I"⟩, 7), (⟨"GradeGraph$Reader", "expect", "(I)V"⟩, 7), (⟨"GradeGraph$Reader", "readNumber", "(II)I"⟩, 7), (⟨"GradeGraph$Reader", "readDigits", "()I"⟩, 7), (⟨"GradeGraph$Reader", "newNode", "(II)I"⟩, 7), (⟨"GradeGraph$Reader", "nextExpression", "(I)I"⟩, 7), (⟨"GradeGraph$Reader", "fill", "(LGradeGraph$Node;IIII)V"⟩, 7), (⟨"GradeGraph", "mixNode", "(JI)J"⟩, 6)]
theorem lw_r1 : ∀ q ∈ lw_privs_1, lw_okq q := List.forall_mem_cons.mpr ⟨lw_p0, List.forall_mem_cons.mpr ⟨lw_p1, List.forall_mem_cons.mpr ⟨lw_p2, List.forall_mem_cons.mpr ⟨lw_p3, List.forall_mem_cons.mpr ⟨lw_p4, List.forall_mem_cons.mpr ⟨lw_p5, List.forall_mem_cons.mpr ⟨lw_p6, List.forall_mem_cons.mpr ⟨lw_p7, List.forall_mem_cons.mpr ⟨lw_p8, List.forall_mem_cons.mpr ⟨lw_p9, List.forall_mem_cons.mpr ⟨lw_p10, List.forall_mem_cons.mpr ⟨lw_p11, List.forall_mem_cons.mpr ⟨lw_p12, List.forall_mem_cons.mpr ⟨lw_p13, List.forall_mem_cons.mpr ⟨lw_p14, List.forall_mem_cons.mpr ⟨lw_p15, fun _ h => absurd h List.not_mem_nil⟩⟩⟩⟩⟩⟩⟩⟩⟩⟩⟩⟩⟩⟩⟩⟩
theorem lw_p16 : lw_okq (⟨"GradeGraphModel", "adds", "(I)I"⟩, 28) := ⟨⟨by decide +kernel, by decide +kernel⟩, List.mem_of_getElem? (i := 700) (by decide +kernel), List.mem_of_getElem? (i := 802) (by decide +kernel), List.mem_of_getElem? (i := 803) (by decide +kernel)⟩
theorem lw_p17 : lw_okq (⟨"GradeGraphModel", "isInput", "(II)Z"⟩, 28) := ⟨⟨by decide +kernel, by decide +kernel⟩, List.mem_of_getElem? (i := 700) (by decide +kernel), List.mem_of_getElem? (i := 816) (by decide +kernel), List.mem_of_getElem? (i := 817) (by decide +kernel)⟩
theorem lw_p18 : lw_okq (⟨"GradeGraphModel", "isNode", "(I)Z"⟩, 28) := ⟨⟨by decide +kernel, by decide +kernel⟩, List.mem_of_getElem? (i := 700) (by decide +kernel), List.mem_of_getElem? (i := 820) (by decide +kernel), List.mem_of_getElem? (i := 821) (by decide +kernel)⟩
theorem lw_p19 : lw_okq (⟨"GradeGraphModel", "kind", "(I)I"⟩, 28) := ⟨⟨by decide +kernel, by decide +kernel⟩, List.mem_of_getElem? (i := 700) (by decide +kernel), List.mem_of_getElem? (i := 824) (by decide +kernel), List.mem_of_getElem? (i := 825) (by decide +kernel)⟩
theorem lw_p20 : lw_okq (⟨"GradeGraphModel", "dependents", "(I)I"⟩, 28) := ⟨⟨by decide +kernel, by decide +kernel⟩, List.mem_of_getElem? (i := 700) (by decide +kernel), List.mem_of_getElem? (i := 828) (by decide +kernel), List.mem_of_getElem? (i := 829) (by decide +kernel)⟩
theorem lw_p21 : lw_okq (⟨"GradeGraphModel", "voids", "(IIIII)I"⟩, 28) := ⟨⟨by decide +kernel, by decide +kernel⟩, List.mem_of_getElem? (i := 700) (by decide +kernel), List.mem_of_getElem? (i := 832) (by decide +kernel), List.mem_of_getElem? (i := 833) (by decide +kernel)⟩
theorem lw_p22 : lw_okq (⟨"GradeGraphModel", "drops", "(I)V"⟩, 28) := ⟨⟨by decide +kernel, by decide +kernel⟩, List.mem_of_getElem? (i := 700) (by decide +kernel), List.mem_of_getElem? (i := 836) (by decide +kernel), List.mem_of_getElem? (i := 837) (by decide +kernel)⟩
theorem lw_p23 : lw_okq (⟨"GradeGraphModel", "isParameter", "(II)Z"⟩, 28) := ⟨⟨by decide +kernel, by decide +kernel⟩, List.mem_of_getElem? (i := 700) (by decide +kernel), List.mem_of_getElem? (i := 844) (by decide +kernel), List.mem_of_getElem? (i := 845) (by decide +kernel)⟩
theorem lw_p24 : lw_okq (⟨"GradeGraphModel", "nodeTells", "(II)I"⟩, 28) := ⟨⟨by decide +kernel, by decide +kernel⟩, List.mem_of_getElem? (i := 700) (by decide +kernel), List.mem_of_getElem? (i := 866) (by decide +kernel), List.mem_of_getElem? (i := 867) (by decide +kernel)⟩
theorem lw_p25 : lw_okq (⟨"GradeGraphModel", "placeOf", "(I)I"⟩, 28) := ⟨⟨by decide +kernel, by decide +kernel⟩, List.mem_of_getElem? (i := 700) (by decide +kernel), List.mem_of_getElem? (i := 873) (by decide +kernel), List.mem_of_getElem? (i := 874) (by decide +kernel)⟩
theorem lw_p26 : lw_okq (⟨"GradeGraphModel", "isReady", "(II)Z"⟩, 28) := ⟨⟨by decide +kernel, by decide +kernel⟩, List.mem_of_getElem? (i := 700) (by decide +kernel), List.mem_of_getElem? (i := 877) (by decide +kernel), List.mem_of_getElem? (i := 878) (by decide +kernel)⟩
theorem lw_p27 : lw_okq (⟨"GradeGraphModel", "depthOf", "(I)I"⟩, 28) := ⟨⟨by decide +kernel, by decide +kernel⟩, List.mem_of_getElem? (i := 700) (by decide +kernel), List.mem_of_getElem? (i := 881) (by decide +kernel), List.mem_of_getElem? (i := 882) (by decide +kernel)⟩
theorem lw_p28 : lw_okq (⟨"GradeGraphModel", "isPicture", "(II)Z"⟩, 28) := ⟨⟨by decide +kernel, by decide +kernel⟩, List.mem_of_getElem? (i := 700) (by decide +kernel), List.mem_of_getElem? (i := 897) (by decide +kernel), List.mem_of_getElem? (i := 898) (by decide +kernel)⟩
theorem lw_p29 : lw_okq (⟨"GradeGraphModel", "picture", "(II)I"⟩, 28) := ⟨⟨by decide +kernel, by decide +kernel⟩, List.mem_of_getElem? (i := 700) (by decide +kernel), List.mem_of_getElem? (i := 901) (by decide +kernel), List.mem_of_getElem? (i := 902) (by decide +kernel)⟩
theorem lw_p30 : lw_okq (⟨"GradeGraphModel", "asks", "(II)V"⟩, 28) := ⟨⟨by decide +kernel, by decide +kernel⟩, List.mem_of_getElem? (i := 700) (by decide +kernel), List.mem_of_getElem? (i := 905) (by decide +kernel), List.mem_of_getElem? (i := 906) (by decide +kernel)⟩
theorem lw_p31 : lw_okq (⟨"GradeGraphModel", "find", "(II)I"⟩, 28) := ⟨⟨by decide +kernel, by decide +kernel⟩, List.mem_of_getElem? (i := 700) (by decide +kernel), List.mem_of_getElem? (i := 909) (by decide +kernel), List.mem_of_getElem? (i := 910) (by decide +kernel)⟩
def lw_privs_2 : List (MethodName × Nat) := [(⟨"GradeGraphModel", "adds", "(I)I"⟩, 28), (⟨"GradeGraphModel", "isInput", "(II)Z"⟩, 28), (⟨"GradeGraphModel", "isNode", "(I)Z"⟩, 28), (⟨"GradeGraphModel", "kind", "(I)I"⟩, 28), (⟨"GradeGraphModel", "dependents", "(I)I"⟩, 28), (⟨"GradeGraphModel", "voids", "(IIIII)I"⟩, 28), (⟨"GradeGraphModel", "drops", "(I)V"⟩, 28), (⟨"GradeGraphModel", "isParameter", "(II)Z"⟩, 28), (⟨"GradeGraphModel", "nodeTells", "(II)I"⟩, 28), (⟨"GradeGraphModel", "placeOf", "(I)I"⟩, 28), (⟨"GradeGraphModel", "isReady", "(II)Z"⟩, 28), (⟨"GradeGraphModel", "depthOf", "(I)I"⟩, 28), (⟨"GradeGraphModel", "isPicture", "(II)Z"⟩, 28), (⟨"GradeGraphModel", "picture", "(II)I"⟩, 28), (⟨"GradeGraphModel", "asks", "(II)V"⟩, 28), (⟨"GradeGraphModel", "find", "(II)I"⟩, 28)]
theorem lw_r2 : ∀ q ∈ lw_privs_2, lw_okq q := List.forall_mem_cons.mpr ⟨lw_p16, List.forall_mem_cons.mpr ⟨lw_p17, List.forall_mem_cons.mpr ⟨lw_p18, List.forall_mem_cons.mpr ⟨lw_p19, List.forall_mem_cons.mpr ⟨lw_p20, List.forall_mem_cons.mpr ⟨lw_p21, List.forall_mem_cons.mpr ⟨lw_p22, List.forall_mem_cons.mpr ⟨lw_p23, List.forall_mem_cons.mpr ⟨lw_p24, List.forall_mem_cons.mpr ⟨lw_p25, List.forall_mem_cons.mpr ⟨lw_p26, List.forall_mem_cons.mpr ⟨lw_p27, List.forall_mem_cons.mpr ⟨lw_p28, List.forall_mem_cons.mpr ⟨lw_p29, List.forall_mem_cons.mpr ⟨lw_p30, List.forall_mem_cons.mpr ⟨lw_p31, fun _ h => absurd h List.not_mem_nil⟩⟩⟩⟩⟩⟩⟩⟩⟩⟩⟩⟩⟩⟩⟩⟩
theorem lw_p32 : lw_okq (⟨"GradeGraphModel", "uses", "(I)V"⟩, 28) := ⟨⟨by decide +kernel, by decide +kernel⟩, List.mem_of_getElem? (i := 700) (by decide +kernel), List.mem_of_getElem? (i := 913) (by decide +kernel), List.mem_of_getElem? (i := 914) (by decide +kernel)⟩
theorem lw_p33 : lw_okq (⟨"GradeGraphModel", "isInRange", "(II)Z"⟩, 28) := ⟨⟨by decide +kernel, by decide +kernel⟩, List.mem_of_getElem? (i := 700) (by decide +kernel), List.mem_of_getElem? (i := 917) (by decide +kernel), List.mem_of_getElem? (i := 918) (by decide +kernel)⟩
theorem lw_p34 : lw_okq (⟨"GradeGraphModel", "makes", "(II)V"⟩, 28) := ⟨⟨by decide +kernel, by decide +kernel⟩, List.mem_of_getElem? (i := 700) (by decide +kernel), List.mem_of_getElem? (i := 921) (by decide +kernel), List.mem_of_getElem? (i := 922) (by decide +kernel)⟩
theorem lw_p35 : lw_okq (⟨"GradeGraphModel", "makesRoom", "(I)V"⟩, 28) := ⟨⟨by decide +kernel, by decide +kernel⟩, List.mem_of_getElem? (i := 700) (by decide +kernel), List.mem_of_getElem? (i := 925) (by decide +kernel), List.mem_of_getElem? (i := 926) (by decide +kernel)⟩
theorem lw_p36 : lw_okq (⟨"GradeGraphModel", "oldest", "()I"⟩, 28) := ⟨⟨by decide +kernel, by decide +kernel⟩, List.mem_of_getElem? (i := 700) (by decide +kernel), List.mem_of_getElem? (i := 929) (by decide +kernel), List.mem_of_getElem? (i := 930) (by decide +kernel)⟩
theorem lw_p37 : lw_okq (⟨"GradeGraphModel", "made", "(III)I"⟩, 28) := ⟨⟨by decide +kernel, by decide +kernel⟩, List.mem_of_getElem? (i := 700) (by decide +kernel), List.mem_of_getElem? (i := 933) (by decide +kernel), List.mem_of_getElem? (i := 934) (by decide +kernel)⟩
theorem lw_p38 : lw_okq (⟨"GradeGraphModel", "seen", "(IIII)I"⟩, 28) := ⟨⟨by decide +kernel, by decide +kernel⟩, List.mem_of_getElem? (i := 700) (by decide +kernel), List.mem_of_getElem? (i := 937) (by decide +kernel), List.mem_of_getElem? (i := 938) (by decide +kernel)⟩
theorem lw_p39 : lw_okq (⟨"GradeGraphModel", "blurred", "(IIII)I"⟩, 28) := ⟨⟨by decide +kernel, by decide +kernel⟩, List.mem_of_getElem? (i := 700) (by decide +kernel), List.mem_of_getElem? (i := 944) (by decide +kernel), List.mem_of_getElem? (i := 945) (by decide +kernel)⟩
theorem lw_p40 : lw_okq (⟨"GradeGraphModel", "sums", "(II)I"⟩, 28) := ⟨⟨by decide +kernel, by decide +kernel⟩, List.mem_of_getElem? (i := 700) (by decide +kernel), List.mem_of_getElem? (i := 959) (by decide +kernel), List.mem_of_getElem? (i := 960) (by decide +kernel)⟩
theorem lw_p41 : lw_okq (⟨"GradeGraphModel", "countOf", "(I)I"⟩, 28) := ⟨⟨by decide +kernel, by decide +kernel⟩, List.mem_of_getElem? (i := 700) (by decide +kernel), List.mem_of_getElem? (i := 979) (by decide +kernel), List.mem_of_getElem? (i := 980) (by decide +kernel)⟩
theorem lw_p42 : lw_okq (⟨"GradeGraphModel", "isText", "()Z"⟩, 28) := ⟨⟨by decide +kernel, by decide +kernel⟩, List.mem_of_getElem? (i := 700) (by decide +kernel), List.mem_of_getElem? (i := 995) (by decide +kernel), List.mem_of_getElem? (i := 996) (by decide +kernel)⟩
theorem lw_p43 : lw_okq (⟨"GradeGraphModel", "begins", "()Z"⟩, 28) := ⟨⟨by decide +kernel, by decide +kernel⟩, List.mem_of_getElem? (i := 700) (by decide +kernel), List.mem_of_getElem? (i := 999) (by decide +kernel), List.mem_of_getElem? (i := 1000) (by decide +kernel)⟩
theorem lw_p44 : lw_okq (⟨"GradeGraphModel", "kindHere", "()I"⟩, 28) := ⟨⟨by decide +kernel, by decide +kernel⟩, List.mem_of_getElem? (i := 700) (by decide +kernel), List.mem_of_getElem? (i := 1003) (by decide +kernel), List.mem_of_getElem? (i := 1004) (by decide +kernel)⟩
theorem lw_p45 : lw_okq (⟨"GradeGraphModel", "here", "()I"⟩, 28) := ⟨⟨by decide +kernel, by decide +kernel⟩, List.mem_of_getElem? (i := 700) (by decide +kernel), List.mem_of_getElem? (i := 1007) (by decide +kernel), List.mem_of_getElem? (i := 1008) (by decide +kernel)⟩
theorem lw_p46 : lw_okq (⟨"GradeGraphModel", "takes", "(I)Z"⟩, 28) := ⟨⟨by decide +kernel, by decide +kernel⟩, List.mem_of_getElem? (i := 700) (by decide +kernel), List.mem_of_getElem? (i := 1011) (by decide +kernel), List.mem_of_getElem? (i := 1012) (by decide +kernel)⟩
theorem lw_p47 : lw_okq (⟨"GradeGraphModel", "ends", "(I)Z"⟩, 28) := ⟨⟨by decide +kernel, by decide +kernel⟩, List.mem_of_getElem? (i := 700) (by decide +kernel), List.mem_of_getElem? (i := 1015) (by decide +kernel), List.mem_of_getElem? (i := 1016) (by decide +kernel)⟩
def lw_privs_3 : List (MethodName × Nat) := [(⟨"GradeGraphModel", "uses", "(I)V"⟩, 28), (⟨"GradeGraphModel", "isInRange", "(II)Z"⟩, 28), (⟨"GradeGraphModel", "makes", "(II)V"⟩, 28), (⟨"GradeGraphModel", "makesRoom", "(I)V"⟩, 28), (⟨"GradeGraphModel", "oldest", "()I"⟩, 28), (⟨"GradeGraphModel", "made", "(III)I"⟩, 28), (⟨"GradeGraphModel", "seen", "(IIII)I"⟩, 28), (⟨"GradeGraphModel", "blurred", "(IIII)I"⟩, 28), (⟨"GradeGraphModel", "sums", "(II)I"⟩, 28), (⟨"GradeGraphModel", "countOf", "(I)I"⟩, 28), (⟨"GradeGraphModel", "isText", "()Z"⟩, 28), (⟨"GradeGraphModel", "begins", "()Z"⟩, 28), (⟨"GradeGraphModel", "kindHere", "()I"⟩, 28), (⟨"GradeGraphModel", "here", "()I"⟩, 28), (⟨"GradeGraphModel", "takes", "(I)Z"⟩, 28), (⟨"GradeGraphModel", "ends", "(I)Z"⟩, 28)]
theorem lw_r3 : ∀ q ∈ lw_privs_3, lw_okq q := List.forall_mem_cons.mpr ⟨lw_p32, List.forall_mem_cons.mpr ⟨lw_p33, List.forall_mem_cons.mpr ⟨lw_p34, List.forall_mem_cons.mpr ⟨lw_p35, List.forall_mem_cons.mpr ⟨lw_p36, List.forall_mem_cons.mpr ⟨lw_p37, List.forall_mem_cons.mpr ⟨lw_p38, List.forall_mem_cons.mpr ⟨lw_p39, List.forall_mem_cons.mpr ⟨lw_p40, List.forall_mem_cons.mpr ⟨lw_p41, List.forall_mem_cons.mpr ⟨lw_p42, List.forall_mem_cons.mpr ⟨lw_p43, List.forall_mem_cons.mpr ⟨lw_p44, List.forall_mem_cons.mpr ⟨lw_p45, List.forall_mem_cons.mpr ⟨lw_p46, List.forall_mem_cons.mpr ⟨lw_p47, fun _ h => absurd h List.not_mem_nil⟩⟩⟩⟩⟩⟩⟩⟩⟩⟩⟩⟩⟩⟩⟩⟩
theorem lw_p48 : lw_okq (⟨"GradeGraphModel", "number", "(II)Z"⟩, 28) := ⟨⟨by decide +kernel, by decide +kernel⟩, List.mem_of_getElem? (i := 700) (by decide +kernel), List.mem_of_getElem? (i := 1019) (by decide +kernel), List.mem_of_getElem? (i := 1020) (by decide +kernel)⟩
theorem lw_p49 : lw_okq (⟨"GradeGraphModel", "isDigit", "()Z"⟩, 28) := ⟨⟨by decide +kernel, by decide +kernel⟩, List.mem_of_getElem? (i := 700) (by decide +kernel), List.mem_of_getElem? (i := 1023) (by decide +kernel), List.mem_of_getElem? (i := 1024) (by decide +kernel)⟩
theorem lw_p50 : lw_okq (⟨"GradeGraphModel", "tells", "(I)V"⟩, 28) := ⟨⟨by decide +kernel, by decide +kernel⟩, List.mem_of_getElem? (i := 700) (by decide +kernel), List.mem_of_getElem? (i := 1027) (by decide +kernel), List.mem_of_getElem? (i := 1028) (by decide +kernel)⟩
def lw_privs_4 : List (MethodName × Nat) := [(⟨"GradeGraphModel", "number", "(II)Z"⟩, 28), (⟨"GradeGraphModel", "isDigit", "()Z"⟩, 28), (⟨"GradeGraphModel", "tells", "(I)V"⟩, 28)]
theorem lw_r4 : ∀ q ∈ lw_privs_4, lw_okq q := List.forall_mem_cons.mpr ⟨lw_p48, List.forall_mem_cons.mpr ⟨lw_p49, List.forall_mem_cons.mpr ⟨lw_p50, fun _ h => absurd h List.not_mem_nil⟩⟩⟩
def lw_privs : List (MethodName × Nat) := lw_privs_1 ++ (lw_privs_2 ++ (lw_privs_3 ++ (lw_privs_4)))
def lw_tbl : List Cond := k2_sels lw_privs ++ tables_1
theorem lw_privs_ok : ∀ q ∈ lw_privs, lw_okq q := by
  show ∀ q ∈ lw_privs_1 ++ (lw_privs_2 ++ (lw_privs_3 ++ (lw_privs_4))), lw_okq q
  exact List.forall_mem_append.mpr ⟨lw_r1, List.forall_mem_append.mpr ⟨lw_r2, List.forall_mem_append.mpr ⟨lw_r3, lw_r4⟩⟩⟩
-- ===== end of PART A; then your names; then what follows =====
def RX0 : String := "GradeGraph$Cache"
def TX0 : u_T := fun k => match k with
  | 0 => ("GradeGraph$Cache", "pictures", "[LGradeGraph$Picture;", true)
  | 1 => ("GradeGraph$Cache", "uses", "I", false)
  | 2 => ("GradeGraph$Cache", "size", "I", false)
  | 3 => ("GradeGraph$Cache", "room", "I", false)
  | 4 => ("GradeGraph$Cache", "hits", "I", false)
  | 5 => ("GradeGraph$Cache", "misses", "I", false)
  | 6 => ("GradeGraph$Cache", "dropped", "I", false)
  | _ => ("GradeGraph$Cache", "voided", "I", false)
def tyX0 : Nat → FieldType := fun k => match k with
  | 0 => .array (.object "GradeGraph$Picture")
  | 1 => .int
  | 2 => .int
  | 3 => .int
  | 4 => .int
  | 5 => .int
  | 6 => .int
  | _ => .int
abbrev wsX00 : List Cond := u_ws RX0 TX0 8
theorem nmX0 : ∀ a, a < 8 → ∀ b, b < 8 → a ≠ b → (TX0 a).2.1 ≠ (TX0 b).2.1 := by decide +kernel
theorem tyX0_ok : ∀ k, k < 8 → parseFieldDescriptor (TX0 k).2.2.1 = some (tyX0 k) := by decide +kernel
abbrev cX0_init : ByteArray := prog_2_method_1_code
def yX0_init : MethodName := ⟨RX0, "<init>", "()V"⟩
abbrev cX0_empty : ByteArray := prog_2_method_2_code
def yX0_empty : MethodName := ⟨RX0, "empty", "()V"⟩
abbrev cX0_find : ByteArray := prog_2_method_3_code
def yX0_find : MethodName := ⟨RX0, "find", "(II)LGradeGraph$Picture;"⟩
abbrev cX0_hit : ByteArray := prog_2_method_4_code
def yX0_hit : MethodName := ⟨RX0, "hit", "(LGradeGraph$Picture;)V"⟩
abbrev cX0_admit : ByteArray := prog_2_method_5_code
def yX0_admit : MethodName := ⟨RX0, "admit", "(II)LGradeGraph$Picture;"⟩
abbrev cX0_changeRoom : ByteArray := prog_2_method_6_code
def yX0_changeRoom : MethodName := ⟨RX0, "changeRoom", "(I)V"⟩
abbrev cX0_makeVoid : ByteArray := prog_2_method_7_code
def yX0_makeVoid : MethodName := ⟨RX0, "makeVoid", "(III)I"⟩
abbrev cX0_makeVoidInOne : ByteArray := prog_2_method_8_code
def yX0_makeVoidInOne : MethodName := ⟨RX0, "makeVoidInOne", "(IIIII)I"⟩
abbrev cX0_touch : ByteArray := prog_2_method_9_code
def yX0_touch : MethodName := ⟨RX0, "touch", "(LGradeGraph$Picture;)V"⟩
abbrev cX0_dropOldest : ByteArray := prog_2_method_10_code
def yX0_dropOldest : MethodName := ⟨RX0, "dropOldest", "()V"⟩
abbrev cX0_remove : ByteArray := prog_2_method_11_code
def yX0_remove : MethodName := ⟨RX0, "remove", "(I)V"⟩
def RX1 : String := "GradeGraph$Graph"
def TX1 : u_T := fun k => match k with
  | 0 => ("GradeGraph$Graph", "nodes", "[LGradeGraph$Node;", true)
  | 1 => ("GradeGraph$Graph", "size", "I", false)
  | 2 => ("GradeGraph$Graph", "order", "[I", true)
  | 3 => ("GradeGraph$Graph", "places", "[I", true)
  | _ => ("GradeGraph$Graph", "depths", "[I", true)
def tyX1 : Nat → FieldType := fun k => match k with
  | 0 => .array (.object "GradeGraph$Node")
  | 1 => .int
  | 2 => .array .int
  | 3 => .array .int
  | _ => .array .int
abbrev wsX10 : List Cond := u_ws RX1 TX1 5
theorem nmX1 : ∀ a, a < 5 → ∀ b, b < 5 → a ≠ b → (TX1 a).2.1 ≠ (TX1 b).2.1 := by decide +kernel
theorem tyX1_ok : ∀ k, k < 5 → parseFieldDescriptor (TX1 k).2.2.1 = some (tyX1 k) := by decide +kernel
abbrev cX1_init : ByteArray := prog_3_method_1_code
def yX1_init : MethodName := ⟨RX1, "<init>", "()V"⟩
abbrev cX1_has : ByteArray := prog_3_method_2_code
def yX1_has : MethodName := ⟨RX1, "has", "(I)Z"⟩
abbrev cX1_hasInput : ByteArray := prog_3_method_3_code
def yX1_hasInput : MethodName := ⟨RX1, "hasInput", "(II)Z"⟩
abbrev cX1_hasParameter : ByteArray := prog_3_method_4_code
def yX1_hasParameter : MethodName := ⟨RX1, "hasParameter", "(II)Z"⟩
abbrev cX1_removeAll : ByteArray := prog_3_method_5_code
def yX1_removeAll : MethodName := ⟨RX1, "removeAll", "()V"⟩
abbrev cX1_add : ByteArray := prog_3_method_6_code
def yX1_add : MethodName := ⟨RX1, "add", "(I)I"⟩
abbrev cX1_link : ByteArray := prog_3_method_7_code
def yX1_link : MethodName := ⟨RX1, "link", "(III)V"⟩
abbrev cX1_copyFrom : ByteArray := prog_3_method_8_code
def yX1_copyFrom : MethodName := ⟨RX1, "copyFrom", "(LGradeGraph$Graph;)V"⟩
abbrev cX1_addAll : ByteArray := prog_3_method_9_code
def yX1_addAll : MethodName := ⟨RX1, "addAll", "([LGradeGraph$Node;I)V"⟩
abbrev cX1_dependents : ByteArray := prog_3_method_10_code
def yX1_dependents : MethodName := ⟨RX1, "dependents", "(I)I"⟩
abbrev cX1_arrange : ByteArray := prog_3_method_11_code
def yX1_arrange : MethodName := ⟨RX1, "arrange", "()V"⟩
abbrev cX1_firstReady : ByteArray := prog_3_method_12_code
def yX1_firstReady : MethodName := ⟨RX1, "firstReady", "(I)I"⟩
abbrev cX1_depthBehindInputs : ByteArray := prog_3_method_13_code
def yX1_depthBehindInputs : MethodName := ⟨RX1, "depthBehindInputs", "(LGradeGraph$Node;)I"⟩
def RX2 : String := "GradeGraph$Kinds"
def TX2 : u_T := fun k => match k with
  | _ => ("", "", "", false)
def tyX2 : Nat → FieldType := fun k => match k with
  | _ => .int
abbrev wsX20 : List Cond := u_ws RX2 TX2 0
theorem nmX2 : ∀ a, a < 0 → ∀ b, b < 0 → a ≠ b → (TX2 a).2.1 ≠ (TX2 b).2.1 := by decide +kernel
theorem tyX2_ok : ∀ k, k < 0 → parseFieldDescriptor (TX2 k).2.2.1 = some (tyX2 k) := by decide +kernel
abbrev cX2_inputs : ByteArray := prog_4_method_2_code
def yX2_inputs : MethodName := ⟨RX2, "inputs", "(I)I"⟩
abbrev cX2_parameters : ByteArray := prog_4_method_3_code
def yX2_parameters : MethodName := ⟨RX2, "parameters", "(I)I"⟩
abbrev cX2_numbers : ByteArray := prog_4_method_4_code
def yX2_numbers : MethodName := ⟨RX2, "numbers", "(I)I"⟩
abbrev cX2_lowest : ByteArray := prog_4_method_5_code
def yX2_lowest : MethodName := ⟨RX2, "lowest", "(II)I"⟩
abbrev cX2_highest : ByteArray := prog_4_method_6_code
def yX2_highest : MethodName := ⟨RX2, "highest", "(II)I"⟩
abbrev cX2_atFirst : ByteArray := prog_4_method_7_code
def yX2_atFirst : MethodName := ⟨RX2, "atFirst", "(II)I"⟩
abbrev cX2_entry : ByteArray := prog_4_method_8_code
def yX2_entry : MethodName := ⟨RX2, "entry", "([II)I"⟩
def RX3 : String := "GradeGraph$Node"
def TX3 : u_T := fun k => match k with
  | 0 => ("GradeGraph$Node", "kind", "I", false)
  | 1 => ("GradeGraph$Node", "first", "I", false)
  | 2 => ("GradeGraph$Node", "last", "I", false)
  | 3 => ("GradeGraph$Node", "inputs", "[I", true)
  | _ => ("GradeGraph$Node", "parameters", "[I", true)
def tyX3 : Nat → FieldType := fun k => match k with
  | 0 => .int
  | 1 => .int
  | 2 => .int
  | 3 => .array .int
  | _ => .array .int
abbrev wsX30 : List Cond := u_ws RX3 TX3 5
theorem nmX3 : ∀ a, a < 5 → ∀ b, b < 5 → a ≠ b → (TX3 a).2.1 ≠ (TX3 b).2.1 := by decide +kernel
theorem tyX3_ok : ∀ k, k < 5 → parseFieldDescriptor (TX3 k).2.2.1 = some (tyX3 k) := by decide +kernel
abbrev cX3_init : ByteArray := prog_5_method_1_code
def yX3_init : MethodName := ⟨RX3, "<init>", "()V"⟩
abbrev cX3_reset : ByteArray := prog_5_method_2_code
def yX3_reset : MethodName := ⟨RX3, "reset", "(I)V"⟩
abbrev cX3_copyFrom : ByteArray := prog_5_method_3_code
def yX3_copyFrom : MethodName := ⟨RX3, "copyFrom", "(LGradeGraph$Node;)V"⟩
abbrev cX3_inputSet : ByteArray := prog_5_method_4_code
def yX3_inputSet : MethodName := ⟨RX3, "inputSet", "()I"⟩
def RX4 : String := "GradeGraph$Painter"
def TX4 : u_T := fun k => match k with
  | _ => ("", "", "", false)
def tyX4 : Nat → FieldType := fun k => match k with
  | _ => .int
abbrev wsX40 : List Cond := u_ws RX4 TX4 0
theorem nmX4 : ∀ a, a < 0 → ∀ b, b < 0 → a ≠ b → (TX4 a).2.1 ≠ (TX4 b).2.1 := by decide +kernel
theorem tyX4_ok : ∀ k, k < 0 → parseFieldDescriptor (TX4 k).2.2.1 = some (tyX4 k) := by decide +kernel
abbrev cX4_paint : ByteArray := prog_6_method_2_code
def yX4_paint : MethodName := ⟨RX4, "paint", "(LGradeGraph$Node;I[I[I[I[I)V"⟩
abbrev cX4_paintSource : ByteArray := prog_6_method_3_code
def yX4_paintSource : MethodName := ⟨RX4, "paintSource", "(II[I)V"⟩
abbrev cX4_paintAmounts : ByteArray := prog_6_method_4_code
def yX4_paintAmounts : MethodName := ⟨RX4, "paintAmounts", "(LGradeGraph$Node;[I[I)V"⟩
abbrev cX4_paintInverse : ByteArray := prog_6_method_5_code
def yX4_paintInverse : MethodName := ⟨RX4, "paintInverse", "([I[I)V"⟩
abbrev cX4_paintBlur : ByteArray := prog_6_method_6_code
def yX4_paintBlur : MethodName := ⟨RX4, "paintBlur", "(I[I[I)V"⟩
abbrev cX4_paintKey : ByteArray := prog_6_method_7_code
def yX4_paintKey : MethodName := ⟨RX4, "paintKey", "([I[I[I)V"⟩
abbrev cX4_mask : ByteArray := prog_6_method_8_code
def yX4_mask : MethodName := ⟨RX4, "mask", "(IIII)I"⟩
abbrev cX4_paintBlend : ByteArray := prog_6_method_9_code
def yX4_paintBlend : MethodName := ⟨RX4, "paintBlend", "([I[I[I[I)V"⟩
def RX5 : String := "GradeGraph$Picture"
def TX5 : u_T := fun k => match k with
  | 0 => ("GradeGraph$Picture", "node", "I", false)
  | 1 => ("GradeGraph$Picture", "frame", "I", false)
  | 2 => ("GradeGraph$Picture", "lastUse", "I", false)
  | _ => ("GradeGraph$Picture", "values", "[I", true)
def tyX5 : Nat → FieldType := fun k => match k with
  | 0 => .int
  | 1 => .int
  | 2 => .int
  | _ => .array .int
abbrev wsX50 : List Cond := u_ws RX5 TX5 4
theorem nmX5 : ∀ a, a < 4 → ∀ b, b < 4 → a ≠ b → (TX5 a).2.1 ≠ (TX5 b).2.1 := by decide +kernel
theorem tyX5_ok : ∀ k, k < 4 → parseFieldDescriptor (TX5 k).2.2.1 = some (tyX5 k) := by decide +kernel
abbrev cX5_init : ByteArray := prog_7_method_1_code
def yX5_init : MethodName := ⟨RX5, "<init>", "()V"⟩
def RX6 : String := "GradeGraph$Reader"
def TX6 : u_T := fun k => match k with
  | 0 => ("GradeGraph$Reader", "text", "LGradeGraph$Text;", true)
  | 1 => ("GradeGraph$Reader", "numbers", "[I", true)
  | 2 => ("GradeGraph$Reader", "drafts", "[LGradeGraph$Node;", true)
  | 3 => ("GradeGraph$Reader", "found", "I", false)
  | 4 => ("GradeGraph$Reader", "known", "I", false)
  | 5 => ("GradeGraph$Reader", "position", "I", false)
  | _ => ("GradeGraph$Reader", "faulty", "Z", false)
def tyX6 : Nat → FieldType := fun k => match k with
  | 0 => .object "GradeGraph$Text"
  | 1 => .array .int
  | 2 => .array (.object "GradeGraph$Node")
  | 3 => .int
  | 4 => .int
  | 5 => .int
  | _ => .boolean
abbrev wsX60 : List Cond := u_ws RX6 TX6 7
theorem nmX6 : ∀ a, a < 7 → ∀ b, b < 7 → a ≠ b → (TX6 a).2.1 ≠ (TX6 b).2.1 := by decide +kernel
theorem tyX6_ok : ∀ k, k < 7 → parseFieldDescriptor (TX6 k).2.2.1 = some (tyX6 k) := by decide +kernel
abbrev cX6_init : ByteArray := prog_8_method_1_code
def yX6_init : MethodName := ⟨RX6, "<init>", "()V"⟩
abbrev cX6_read : ByteArray := prog_8_method_2_code
def yX6_read : MethodName := ⟨RX6, "read", "(I)I"⟩
abbrev cX6_expression : ByteArray := prog_8_method_3_code
def yX6_expression : MethodName := ⟨RX6, "expression", "(I)I"⟩
abbrev cX6_nextExpression : ByteArray := prog_8_method_4_code
def yX6_nextExpression : MethodName := ⟨RX6, "nextExpression", "(I)I"⟩
abbrev cX6_kindHere : ByteArray := prog_8_method_5_code
def yX6_kindHere : MethodName := ⟨RX6, "kindHere", "()I"⟩
abbrev cX6_newNode : ByteArray := prog_8_method_6_code
def yX6_newNode : MethodName := ⟨RX6, "newNode", "(II)I"⟩
abbrev cX6_fill : ByteArray := prog_8_method_7_code
def yX6_fill : MethodName := ⟨RX6, "fill", "(LGradeGraph$Node;IIII)V"⟩
abbrev cX6_readNumber : ByteArray := prog_8_method_8_code
def yX6_readNumber : MethodName := ⟨RX6, "readNumber", "(II)I"⟩
abbrev cX6_readDigits : ByteArray := prog_8_method_9_code
def yX6_readDigits : MethodName := ⟨RX6, "readDigits", "()I"⟩
abbrev cX6_expect : ByteArray := prog_8_method_10_code
def yX6_expect : MethodName := ⟨RX6, "expect", "(I)V"⟩
def RX7 : String := "GradeGraph$Scopes"
def TX7 : u_T := fun k => match k with
  | _ => ("", "", "", false)
def tyX7 : Nat → FieldType := fun k => match k with
  | _ => .int
abbrev wsX70 : List Cond := u_ws RX7 TX7 0
theorem nmX7 : ∀ a, a < 0 → ∀ b, b < 0 → a ≠ b → (TX7 a).2.1 ≠ (TX7 b).2.1 := by decide +kernel
theorem tyX7_ok : ∀ k, k < 0 → parseFieldDescriptor (TX7 k).2.2.1 = some (tyX7 k) := by decide +kernel
abbrev cX7_inPart : ByteArray := prog_9_method_2_code
def yX7_inPart : MethodName := ⟨RX7, "inPart", "([III)I"⟩
abbrev cX7_least : ByteArray := prog_9_method_3_code
def yX7_least : MethodName := ⟨RX7, "least", "([II)I"⟩
abbrev cX7_greatest : ByteArray := prog_9_method_4_code
def yX7_greatest : MethodName := ⟨RX7, "greatest", "([II)I"⟩
abbrev cX7_total : ByteArray := prog_9_method_5_code
def yX7_total : MethodName := ⟨RX7, "total", "([II)I"⟩
abbrev cX7_different : ByteArray := prog_9_method_6_code
def yX7_different : MethodName := ⟨RX7, "different", "([II)I"⟩
abbrev cX7_standsBefore : ByteArray := prog_9_method_7_code
def yX7_standsBefore : MethodName := ⟨RX7, "standsBefore", "([III)Z"⟩
abbrev cX7_greatestDifference : ByteArray := prog_9_method_8_code
def yX7_greatestDifference : MethodName := ⟨RX7, "greatestDifference", "([I[I)I"⟩
def RX8 : String := "GradeGraph$Text"
def TX8 : u_T := fun k => match k with
  | 0 => ("GradeGraph$Text", "bytes", "[B", true)
  | _ => ("GradeGraph$Text", "length", "I", false)
def tyX8 : Nat → FieldType := fun k => match k with
  | 0 => .array .byte
  | _ => .int
abbrev wsX80 : List Cond := u_ws RX8 TX8 2
theorem nmX8 : ∀ a, a < 2 → ∀ b, b < 2 → a ≠ b → (TX8 a).2.1 ≠ (TX8 b).2.1 := by decide +kernel
theorem tyX8_ok : ∀ k, k < 2 → parseFieldDescriptor (TX8 k).2.2.1 = some (tyX8 k) := by decide +kernel
abbrev cX8_init : ByteArray := prog_10_method_1_code
def yX8_init : MethodName := ⟨RX8, "<init>", "()V"⟩
abbrev cX8_put : ByteArray := prog_10_method_2_code
def yX8_put : MethodName := ⟨RX8, "put", "(I)I"⟩
abbrev cX8_empty : ByteArray := prog_10_method_3_code
def yX8_empty : MethodName := ⟨RX8, "empty", "()V"⟩
abbrev cX8_at : ByteArray := prog_10_method_4_code
def yX8_at : MethodName := ⟨RX8, "at", "(I)I"⟩
abbrev cX8_openAhead : ByteArray := prog_10_method_5_code
def yX8_openAhead : MethodName := ⟨RX8, "openAhead", "(I)I"⟩
def RX9 : String := "GradeGraph"
def TX9 : u_T := fun k => match k with
  | 0 => ("GradeGraph", "graph", "LGradeGraph$Graph;", true)
  | 1 => ("GradeGraph", "cache", "LGradeGraph$Cache;", true)
  | 2 => ("GradeGraph", "reader", "LGradeGraph$Reader;", true)
  | 3 => ("GradeGraph", "slots", "[LGradeGraph$Graph;", true)
  | 4 => ("GradeGraph", "saved", "[Z", true)
  | _ => ("GradeGraph", "black", "[I", true)
def tyX9 : Nat → FieldType := fun k => match k with
  | 0 => .object "GradeGraph$Graph"
  | 1 => .object "GradeGraph$Cache"
  | 2 => .object "GradeGraph$Reader"
  | 3 => .array (.object "GradeGraph$Graph")
  | 4 => .array .boolean
  | _ => .array .int
abbrev wsX90 : List Cond := u_ws RX9 TX9 6
theorem nmX9 : ∀ a, a < 6 → ∀ b, b < 6 → a ≠ b → (TX9 a).2.1 ≠ (TX9 b).2.1 := by decide +kernel
theorem tyX9_ok : ∀ k, k < 6 → parseFieldDescriptor (TX9 k).2.2.1 = some (tyX9 k) := by decide +kernel
abbrev cX9_init : ByteArray := prog_1_method_1_code
def yX9_init : MethodName := ⟨RX9, "<init>", "()V"⟩
abbrev cX9_clear : ByteArray := prog_1_method_2_code
def yX9_clear : MethodName := ⟨RX9, "clear", "()I"⟩
abbrev cX9_addNode : ByteArray := prog_1_method_3_code
def yX9_addNode : MethodName := ⟨RX9, "addNode", "(I)I"⟩
abbrev cX9_connect : ByteArray := prog_1_method_4_code
def yX9_connect : MethodName := ⟨RX9, "connect", "(III)I"⟩
abbrev cX9_set : ByteArray := prog_1_method_5_code
def yX9_set : MethodName := ⟨RX9, "set", "(III)I"⟩
abbrev cX9_setRange : ByteArray := prog_1_method_6_code
def yX9_setRange : MethodName := ⟨RX9, "setRange", "(III)I"⟩
abbrev cX9_nodes : ByteArray := prog_1_method_7_code
def yX9_nodes : MethodName := ⟨RX9, "nodes", "()I"⟩
abbrev cX9_node : ByteArray := prog_1_method_8_code
def yX9_node : MethodName := ⟨RX9, "node", "(II)I"⟩
abbrev cX9_input : ByteArray := prog_1_method_9_code
def yX9_input : MethodName := ⟨RX9, "input", "(II)I"⟩
abbrev cX9_parameter : ByteArray := prog_1_method_10_code
def yX9_parameter : MethodName := ⟨RX9, "parameter", "(II)I"⟩
abbrev cX9_value : ByteArray := prog_1_method_11_code
def yX9_value : MethodName := ⟨RX9, "value", "(IIIII)I"⟩
abbrev cX9_scope : ByteArray := prog_1_method_12_code
def yX9_scope : MethodName := ⟨RX9, "scope", "(IIII)I"⟩
abbrev cX9_sum : ByteArray := prog_1_method_13_code
def yX9_sum : MethodName := ⟨RX9, "sum", "(IIII)I"⟩
abbrev cX9_compare : ByteArray := prog_1_method_14_code
def yX9_compare : MethodName := ⟨RX9, "compare", "(III)I"⟩
abbrev cX9_setRoom : ByteArray := prog_1_method_15_code
def yX9_setRoom : MethodName := ⟨RX9, "setRoom", "(I)I"⟩
abbrev cX9_isCached : ByteArray := prog_1_method_16_code
def yX9_isCached : MethodName := ⟨RX9, "isCached", "(II)I"⟩
abbrev cX9_count : ByteArray := prog_1_method_17_code
def yX9_count : MethodName := ⟨RX9, "count", "(I)I"⟩
abbrev cX9_append : ByteArray := prog_1_method_18_code
def yX9_append : MethodName := ⟨RX9, "append", "(I)I"⟩
abbrev cX9_clearText : ByteArray := prog_1_method_19_code
def yX9_clearText : MethodName := ⟨RX9, "clearText", "()I"⟩
abbrev cX9_faultPosition : ByteArray := prog_1_method_20_code
def yX9_faultPosition : MethodName := ⟨RX9, "faultPosition", "()I"⟩
abbrev cX9_faultDepth : ByteArray := prog_1_method_21_code
def yX9_faultDepth : MethodName := ⟨RX9, "faultDepth", "()I"⟩
abbrev cX9_build : ByteArray := prog_1_method_22_code
def yX9_build : MethodName := ⟨RX9, "build", "()I"⟩
abbrev cX9_save : ByteArray := prog_1_method_23_code
def yX9_save : MethodName := ⟨RX9, "save", "(I)I"⟩
abbrev cX9_restore : ByteArray := prog_1_method_24_code
def yX9_restore : MethodName := ⟨RX9, "restore", "(I)I"⟩
abbrev cX9_checksum : ByteArray := prog_1_method_25_code
def yX9_checksum : MethodName := ⟨RX9, "checksum", "()J"⟩
abbrev cX9_mixNode : ByteArray := prog_1_method_26_code
def yX9_mixNode : MethodName := ⟨RX9, "mixNode", "(JI)J"⟩
abbrev cX9_mix : ByteArray := prog_1_method_27_code
def yX9_mix : MethodName := ⟨RX9, "mix", "(JI)J"⟩
abbrev cX9_ask : ByteArray := prog_1_method_28_code
def yX9_ask : MethodName := ⟨RX9, "ask", "(III)[I"⟩
abbrev cX9_isFrame : ByteArray := prog_1_method_29_code
def yX9_isFrame : MethodName := ⟨RX9, "isFrame", "(I)Z"⟩
abbrev cX9_isChannel : ByteArray := prog_1_method_30_code
def yX9_isChannel : MethodName := ⟨RX9, "isChannel", "(I)Z"⟩
abbrev cX9_isIn : ByteArray := prog_1_method_31_code
def yX9_isIn : MethodName := ⟨RX9, "isIn", "(III)Z"⟩
abbrev cX9_contains : ByteArray := prog_1_method_32_code
def yX9_contains : MethodName := ⟨RX9, "contains", "(II)Z"⟩
def RX10 : String := "GradeGraphModel"
def TX10 : u_T := fun k => match k with
  | 0 => ("GradeGraphModel", "v", "[I", true)
  | 1 => ("GradeGraphModel", "kept", "[I", true)
  | 2 => ("GradeGraphModel", "isKept", "[Z", true)
  | 3 => ("GradeGraphModel", "room", "I", false)
  | 4 => ("GradeGraphModel", "cached", "I", false)
  | 5 => ("GradeGraphModel", "cacheNode", "[I", true)
  | 6 => ("GradeGraphModel", "cacheFrame", "[I", true)
  | 7 => ("GradeGraphModel", "cacheUse", "[I", true)
  | 8 => ("GradeGraphModel", "pictures", "[I", true)
  | 9 => ("GradeGraphModel", "uses", "I", false)
  | 10 => ("GradeGraphModel", "counts", "[I", true)
  | 11 => ("GradeGraphModel", "text", "[I", true)
  | 12 => ("GradeGraphModel", "length", "I", false)
  | 13 => ("GradeGraphModel", "inputMany", "[I", true)
  | 14 => ("GradeGraphModel", "parameterMany", "[I", true)
  | 15 => ("GradeGraphModel", "depths", "[I", true)
  | 16 => ("GradeGraphModel", "waits", "[I", true)
  | 17 => ("GradeGraphModel", "asked", "[I", true)
  | 18 => ("GradeGraphModel", "waiting", "I", false)
  | 19 => ("GradeGraphModel", "place", "I", false)
  | 20 => ("GradeGraphModel", "depth", "I", false)
  | 21 => ("GradeGraphModel", "number", "I", false)
  | 22 => ("GradeGraphModel", "open", "[I", true)
  | 23 => ("GradeGraphModel", "openMany", "[I", true)
  | 24 => ("GradeGraphModel", "told", "[I", true)
  | 25 => ("GradeGraphModel", "tellings", "I", false)
  | 26 => ("GradeGraphModel", "done", "[I", true)
  | _ => ("GradeGraphModel", "dones", "I", false)
def tyX10 : Nat → FieldType := fun k => match k with
  | 0 => .array .int
  | 1 => .array .int
  | 2 => .array .boolean
  | 3 => .int
  | 4 => .int
  | 5 => .array .int
  | 6 => .array .int
  | 7 => .array .int
  | 8 => .array .int
  | 9 => .int
  | 10 => .array .int
  | 11 => .array .int
  | 12 => .int
  | 13 => .array .int
  | 14 => .array .int
  | 15 => .array .int
  | 16 => .array .int
  | 17 => .array .int
  | 18 => .int
  | 19 => .int
  | 20 => .int
  | 21 => .int
  | 22 => .array .int
  | 23 => .array .int
  | 24 => .array .int
  | 25 => .int
  | 26 => .array .int
  | _ => .int
abbrev wsX100 : List Cond := u_ws RX10 TX10 28
theorem nmX10 : ∀ a, a < 28 → ∀ b, b < 28 → a ≠ b → (TX10 a).2.1 ≠ (TX10 b).2.1 := by decide +kernel
theorem tyX10_ok : ∀ k, k < 28 → parseFieldDescriptor (TX10 k).2.2.1 = some (tyX10 k) := by decide +kernel
abbrev cX10_init : ByteArray := prog_12_method_1_code
def yX10_init : MethodName := ⟨RX10, "<init>", "()V"⟩
abbrev cX10_in : ByteArray := prog_12_method_3_code
def yX10_in : MethodName := ⟨RX10, "in", "(III)Z"⟩
abbrev cX10_at : ByteArray := prog_12_method_4_code
def yX10_at : MethodName := ⟨RX10, "at", "(II)I"⟩
abbrev cX10_isNode : ByteArray := prog_12_method_5_code
def yX10_isNode : MethodName := ⟨RX10, "isNode", "(I)Z"⟩
abbrev cX10_kind : ByteArray := prog_12_method_6_code
def yX10_kind : MethodName := ⟨RX10, "kind", "(I)I"⟩
abbrev cX10_isInput : ByteArray := prog_12_method_7_code
def yX10_isInput : MethodName := ⟨RX10, "isInput", "(II)Z"⟩
abbrev cX10_isParameter : ByteArray := prog_12_method_8_code
def yX10_isParameter : MethodName := ⟨RX10, "isParameter", "(II)Z"⟩
abbrev cX10_first : ByteArray := prog_12_method_9_code
def yX10_first : MethodName := ⟨RX10, "first", "(II)I"⟩
abbrev cX10_low : ByteArray := prog_12_method_10_code
def yX10_low : MethodName := ⟨RX10, "low", "(I)I"⟩
abbrev cX10_high : ByteArray := prog_12_method_11_code
def yX10_high : MethodName := ⟨RX10, "high", "(II)I"⟩
abbrev cX10_clear : ByteArray := prog_12_method_12_code
def yX10_clear : MethodName := ⟨RX10, "clear", "()I"⟩
abbrev cX10_adds : ByteArray := prog_12_method_13_code
def yX10_adds : MethodName := ⟨RX10, "adds", "(I)I"⟩
abbrev cX10_addNode : ByteArray := prog_12_method_14_code
def yX10_addNode : MethodName := ⟨RX10, "addNode", "(I)I"⟩
abbrev cX10_dependents : ByteArray := prog_12_method_15_code
def yX10_dependents : MethodName := ⟨RX10, "dependents", "(I)I"⟩
abbrev cX10_drops : ByteArray := prog_12_method_16_code
def yX10_drops : MethodName := ⟨RX10, "drops", "(I)V"⟩
abbrev cX10_voids : ByteArray := prog_12_method_17_code
def yX10_voids : MethodName := ⟨RX10, "voids", "(IIIII)I"⟩
abbrev cX10_connect : ByteArray := prog_12_method_18_code
def yX10_connect : MethodName := ⟨RX10, "connect", "(III)I"⟩
abbrev cX10_set : ByteArray := prog_12_method_19_code
def yX10_set : MethodName := ⟨RX10, "set", "(III)I"⟩
abbrev cX10_setRange : ByteArray := prog_12_method_20_code
def yX10_setRange : MethodName := ⟨RX10, "setRange", "(III)I"⟩
abbrev cX10_nodes : ByteArray := prog_12_method_21_code
def yX10_nodes : MethodName := ⟨RX10, "nodes", "()I"⟩
abbrev cX10_size : ByteArray := prog_12_method_22_code
def yX10_size : MethodName := ⟨RX10, "size", "(I)I"⟩
abbrev cX10_placeOf : ByteArray := prog_12_method_23_code
def yX10_placeOf : MethodName := ⟨RX10, "placeOf", "(I)I"⟩
abbrev cX10_isReady : ByteArray := prog_12_method_24_code
def yX10_isReady : MethodName := ⟨RX10, "isReady", "(II)Z"⟩
abbrev cX10_depthOf : ByteArray := prog_12_method_25_code
def yX10_depthOf : MethodName := ⟨RX10, "depthOf", "(I)I"⟩
abbrev cX10_nodeTells : ByteArray := prog_12_method_26_code
def yX10_nodeTells : MethodName := ⟨RX10, "nodeTells", "(II)I"⟩
abbrev cX10_node : ByteArray := prog_12_method_27_code
def yX10_node : MethodName := ⟨RX10, "node", "(II)I"⟩
abbrev cX10_input : ByteArray := prog_12_method_28_code
def yX10_input : MethodName := ⟨RX10, "input", "(II)I"⟩
abbrev cX10_parameter : ByteArray := prog_12_method_29_code
def yX10_parameter : MethodName := ⟨RX10, "parameter", "(II)I"⟩
abbrev cX10_find : ByteArray := prog_12_method_30_code
def yX10_find : MethodName := ⟨RX10, "find", "(II)I"⟩
abbrev cX10_uses : ByteArray := prog_12_method_31_code
def yX10_uses : MethodName := ⟨RX10, "uses", "(I)V"⟩
abbrev cX10_oldest : ByteArray := prog_12_method_32_code
def yX10_oldest : MethodName := ⟨RX10, "oldest", "()I"⟩
abbrev cX10_makesRoom : ByteArray := prog_12_method_33_code
def yX10_makesRoom : MethodName := ⟨RX10, "makesRoom", "(I)V"⟩
abbrev cX10_isInRange : ByteArray := prog_12_method_34_code
def yX10_isInRange : MethodName := ⟨RX10, "isInRange", "(II)Z"⟩
abbrev cX10_asks : ByteArray := prog_12_method_35_code
def yX10_asks : MethodName := ⟨RX10, "asks", "(II)V"⟩
abbrev cX10_picture : ByteArray := prog_12_method_36_code
def yX10_picture : MethodName := ⟨RX10, "picture", "(II)I"⟩
abbrev cX10_makes : ByteArray := prog_12_method_37_code
def yX10_makes : MethodName := ⟨RX10, "makes", "(II)V"⟩
abbrev cX10_seen : ByteArray := prog_12_method_38_code
def yX10_seen : MethodName := ⟨RX10, "seen", "(IIII)I"⟩
abbrev cX10_limit : ByteArray := prog_12_method_39_code
def yX10_limit : MethodName := ⟨RX10, "limit", "(I)I"⟩
abbrev cX10_made : ByteArray := prog_12_method_40_code
def yX10_made : MethodName := ⟨RX10, "made", "(III)I"⟩
abbrev cX10_blurred : ByteArray := prog_12_method_41_code
def yX10_blurred : MethodName := ⟨RX10, "blurred", "(IIII)I"⟩
abbrev cX10_keyed : ByteArray := prog_12_method_42_code
def yX10_keyed : MethodName := ⟨RX10, "keyed", "(IIII)I"⟩
abbrev cX10_isPicture : ByteArray := prog_12_method_43_code
def yX10_isPicture : MethodName := ⟨RX10, "isPicture", "(II)Z"⟩
abbrev cX10_value : ByteArray := prog_12_method_44_code
def yX10_value : MethodName := ⟨RX10, "value", "(IIIII)I"⟩
abbrev cX10_scope : ByteArray := prog_12_method_45_code
def yX10_scope : MethodName := ⟨RX10, "scope", "(IIII)I"⟩
abbrev cX10_sums : ByteArray := prog_12_method_46_code
def yX10_sums : MethodName := ⟨RX10, "sums", "(II)I"⟩
abbrev cX10_sum : ByteArray := prog_12_method_47_code
def yX10_sum : MethodName := ⟨RX10, "sum", "(IIII)I"⟩
abbrev cX10_compare : ByteArray := prog_12_method_48_code
def yX10_compare : MethodName := ⟨RX10, "compare", "(III)I"⟩
abbrev cX10_setRoom : ByteArray := prog_12_method_49_code
def yX10_setRoom : MethodName := ⟨RX10, "setRoom", "(I)I"⟩
abbrev cX10_isCached : ByteArray := prog_12_method_50_code
def yX10_isCached : MethodName := ⟨RX10, "isCached", "(II)I"⟩
abbrev cX10_countOf : ByteArray := prog_12_method_51_code
def yX10_countOf : MethodName := ⟨RX10, "countOf", "(I)I"⟩
abbrev cX10_count : ByteArray := prog_12_method_52_code
def yX10_count : MethodName := ⟨RX10, "count", "(I)I"⟩
abbrev cX10_append : ByteArray := prog_12_method_53_code
def yX10_append : MethodName := ⟨RX10, "append", "(I)I"⟩
abbrev cX10_clearText : ByteArray := prog_12_method_54_code
def yX10_clearText : MethodName := ⟨RX10, "clearText", "()I"⟩
abbrev cX10_here : ByteArray := prog_12_method_55_code
def yX10_here : MethodName := ⟨RX10, "here", "()I"⟩
abbrev cX10_takes : ByteArray := prog_12_method_56_code
def yX10_takes : MethodName := ⟨RX10, "takes", "(I)Z"⟩
abbrev cX10_isDigit : ByteArray := prog_12_method_57_code
def yX10_isDigit : MethodName := ⟨RX10, "isDigit", "()Z"⟩
abbrev cX10_number : ByteArray := prog_12_method_58_code
def yX10_number : MethodName := ⟨RX10, "number", "(II)Z"⟩
abbrev cX10_kindHere : ByteArray := prog_12_method_59_code
def yX10_kindHere : MethodName := ⟨RX10, "kindHere", "()I"⟩
abbrev cX10_tells : ByteArray := prog_12_method_60_code
def yX10_tells : MethodName := ⟨RX10, "tells", "(I)V"⟩
abbrev cX10_ends : ByteArray := prog_12_method_61_code
def yX10_ends : MethodName := ⟨RX10, "ends", "(I)Z"⟩
abbrev cX10_begins : ByteArray := prog_12_method_62_code
def yX10_begins : MethodName := ⟨RX10, "begins", "()Z"⟩
abbrev cX10_isText : ByteArray := prog_12_method_63_code
def yX10_isText : MethodName := ⟨RX10, "isText", "()Z"⟩
abbrev cX10_faultPosition : ByteArray := prog_12_method_64_code
def yX10_faultPosition : MethodName := ⟨RX10, "faultPosition", "()I"⟩
abbrev cX10_faultDepth : ByteArray := prog_12_method_65_code
def yX10_faultDepth : MethodName := ⟨RX10, "faultDepth", "()I"⟩
abbrev cX10_build : ByteArray := prog_12_method_66_code
def yX10_build : MethodName := ⟨RX10, "build", "()I"⟩
abbrev cX10_save : ByteArray := prog_12_method_67_code
def yX10_save : MethodName := ⟨RX10, "save", "(I)I"⟩
abbrev cX10_restore : ByteArray := prog_12_method_68_code
def yX10_restore : MethodName := ⟨RX10, "restore", "(I)I"⟩
abbrev cX10_more : ByteArray := prog_12_method_69_code
def yX10_more : MethodName := ⟨RX10, "more", "(JI)J"⟩
abbrev cX10_checksum : ByteArray := prog_12_method_70_code
def yX10_checksum : MethodName := ⟨RX10, "checksum", "()J"⟩
def RJ11 : String := "java/lang/Character"
def TJ11 : u_T := fun k => match k with
  | _ => ("", "", "", false)
def tyJ11 : Nat → FieldType := fun k => match k with
  | _ => .int
abbrev wsJ110 : List Cond := u_ws RJ11 TJ11 0
theorem nmJ11 : ∀ a, a < 0 → ∀ b, b < 0 → a ≠ b → (TJ11 a).2.1 ≠ (TJ11 b).2.1 := by decide +kernel
theorem tyJ11_ok : ∀ k, k < 0 → parseFieldDescriptor (TJ11 k).2.2.1 = some (tyJ11 k) := by decide +kernel
abbrev cJ11_isValidCodePoint_9a6ad : ByteArray := prog_13_method_11_code
def yJ11_isValidCodePoint_9a6ad : MethodName := ⟨RJ11, "isValidCodePoint", "(I)Z"⟩
abbrev cJ11_highSurrogate_5068e : ByteArray := prog_13_method_28_code
def yJ11_highSurrogate_5068e : MethodName := ⟨RJ11, "highSurrogate", "(I)C"⟩
abbrev cJ11_lowSurrogate_5068e : ByteArray := prog_13_method_29_code
def yJ11_lowSurrogate_5068e : MethodName := ⟨RJ11, "lowSurrogate", "(I)C"⟩
def RJ6 : String := "java/lang/Integer"
def TJ6 : u_T := fun k => match k with
  | _ => ("", "", "", false)
def tyJ6 : Nat → FieldType := fun k => match k with
  | _ => .int
abbrev wsJ60 : List Cond := u_ws RJ6 TJ6 0
theorem nmJ6 : ∀ a, a < 0 → ∀ b, b < 0 → a ≠ b → (TJ6 a).2.1 ≠ (TJ6 b).2.1 := by decide +kernel
theorem tyJ6_ok : ∀ k, k < 0 → parseFieldDescriptor (TJ6 k).2.2.1 = some (tyJ6 k) := by decide +kernel
abbrev cJ6_bitCount_0f7a4 : ByteArray := prog_14_method_49_code
def yJ6_bitCount_0f7a4 : MethodName := ⟨RJ6, "bitCount", "(I)I"⟩
def RJ9 : String := "java/lang/Math"
def TJ9 : u_T := fun k => match k with
  | _ => ("", "", "", false)
def tyJ9 : Nat → FieldType := fun k => match k with
  | _ => .int
abbrev wsJ90 : List Cond := u_ws RJ9 TJ9 0
theorem nmJ9 : ∀ a, a < 0 → ∀ b, b < 0 → a ≠ b → (TJ9 a).2.1 ≠ (TJ9 b).2.1 := by decide +kernel
theorem tyJ9_ok : ∀ k, k < 0 → parseFieldDescriptor (TJ9 k).2.2.1 = some (tyJ9 k) := by decide +kernel
abbrev cJ9_abs_0f7a4 : ByteArray := prog_15_method_59_code
def yJ9_abs_0f7a4 : MethodName := ⟨RJ9, "abs", "(I)I"⟩
abbrev cJ9_max_7cf53 : ByteArray := prog_15_method_65_code
def yJ9_max_7cf53 : MethodName := ⟨RJ9, "max", "(II)I"⟩
abbrev cJ9_min_7cf53 : ByteArray := prog_15_method_69_code
def yJ9_min_7cf53 : MethodName := ⟨RJ9, "min", "(II)I"⟩
def RJ0 : String := "java/lang/String"
def TJ0 : u_T := fun k => match k with
  | _ => ("", "", "", false)
def tyJ0 : Nat → FieldType := fun k => match k with
  | _ => .int
abbrev wsJ00 : List Cond := u_ws RJ0 TJ0 0
theorem nmJ0 : ∀ a, a < 0 → ∀ b, b < 0 → a ≠ b → (TJ0 a).2.1 ≠ (TJ0 b).2.1 := by decide +kernel
theorem tyJ0_ok : ∀ k, k < 0 → parseFieldDescriptor (TJ0 k).2.2.1 = some (tyJ0 k) := by decide +kernel
abbrev cJ0_length_8abf5 : ByteArray := prog_16_method_54_code
def yJ0_length_8abf5 : MethodName := ⟨RJ0, "length", "()I"⟩
abbrev cJ0_indexOf_0f7a4 : ByteArray := prog_16_method_79_code
def yJ0_indexOf_0f7a4 : MethodName := ⟨RJ0, "indexOf", "(I)I"⟩
abbrev cJ0_indexOf_7cf53 : ByteArray := prog_16_method_80_code
def yJ0_indexOf_7cf53 : MethodName := ⟨RJ0, "indexOf", "(II)I"⟩
abbrev cJ0_coder_7d493 : ByteArray := prog_16_method_152_code
def yJ0_coder_7d493 : MethodName := ⟨RJ0, "coder", "()B"⟩
abbrev cJ0_isLatin1_aae02 : ByteArray := prog_16_method_154_code
def yJ0_isLatin1_aae02 : MethodName := ⟨RJ0, "isLatin1", "()Z"⟩
abbrev cJ0_checkBoundsBeginEnd_23922 : ByteArray := prog_16_method_158_code
def yJ0_checkBoundsBeginEnd_23922 : MethodName := ⟨RJ0, "checkBoundsBeginEnd", "(III)V"⟩
def RJ1 : String := "java/lang/StringLatin1"
def TJ1 : u_T := fun k => match k with
  | _ => ("", "", "", false)
def tyJ1 : Nat → FieldType := fun k => match k with
  | _ => .int
abbrev wsJ10 : List Cond := u_ws RJ1 TJ1 0
theorem nmJ1 : ∀ a, a < 0 → ∀ b, b < 0 → a ≠ b → (TJ1 a).2.1 ≠ (TJ1 b).2.1 := by decide +kernel
theorem tyJ1_ok : ∀ k, k < 0 → parseFieldDescriptor (TJ1 k).2.2.1 = some (tyJ1 k) := by decide +kernel
abbrev cJ1_canEncode_9a6ad : ByteArray := prog_17_method_4_code
def yJ1_canEncode_9a6ad : MethodName := ⟨RJ1, "canEncode", "(I)Z"⟩
abbrev cJ1_indexOf_4cfef : ByteArray := prog_17_method_22_code
def yJ1_indexOf_4cfef : MethodName := ⟨RJ1, "indexOf", "([BIII)I"⟩
abbrev cJ1_indexOfChar_4cfef : ByteArray := prog_17_method_23_code
def yJ1_indexOfChar_4cfef : MethodName := ⟨RJ1, "indexOfChar", "([BIII)I"⟩
def RJ2 : String := "java/lang/StringUTF16"
def TJ2 : u_T := fun k => match k with
  | _ => ("", "", "", false)
def tyJ2 : Nat → FieldType := fun k => match k with
  | _ => .int
abbrev wsJ20 : List Cond := u_ws RJ2 TJ2 0
theorem nmJ2 : ∀ a, a < 0 → ∀ b, b < 0 → a ≠ b → (TJ2 a).2.1 ≠ (TJ2 b).2.1 := by decide +kernel
theorem tyJ2_ok : ∀ k, k < 0 → parseFieldDescriptor (TJ2 k).2.2.1 = some (tyJ2 k) := by decide +kernel
abbrev cJ2_getChar_3b067 : ByteArray := prog_18_method_5_code
def yJ2_getChar_3b067 : MethodName := ⟨RJ2, "getChar", "([BI)C"⟩
abbrev cJ2_length_9d52b : ByteArray := prog_18_method_6_code
def yJ2_length_9d52b : MethodName := ⟨RJ2, "length", "([B)I"⟩
abbrev cJ2_indexOf_4cfef : ByteArray := prog_18_method_40_code
def yJ2_indexOf_4cfef : MethodName := ⟨RJ2, "indexOf", "([BIII)I"⟩
abbrev cJ2_indexOfChar_4cfef : ByteArray := prog_18_method_47_code
def yJ2_indexOfChar_4cfef : MethodName := ⟨RJ2, "indexOfChar", "([BIII)I"⟩
abbrev cJ2_indexOfCharUnsafe_4cfef : ByteArray := prog_18_method_48_code
def yJ2_indexOfCharUnsafe_4cfef : MethodName := ⟨RJ2, "indexOfCharUnsafe", "([BIII)I"⟩
abbrev cJ2_indexOfSupplementary_4cfef : ByteArray := prog_18_method_49_code
def yJ2_indexOfSupplementary_4cfef : MethodName := ⟨RJ2, "indexOfSupplementary", "([BIII)I"⟩
abbrev cJ2_checkBoundsBeginEnd_d044e : ByteArray := prog_18_method_93_code
def yJ2_checkBoundsBeginEnd_d044e : MethodName := ⟨RJ2, "checkBoundsBeginEnd", "(II[B)V"⟩
def RJ10 : String := "java/lang/System"
def TJ10 : u_T := fun k => match k with
  | _ => ("", "", "", false)
def tyJ10 : Nat → FieldType := fun k => match k with
  | _ => .int
abbrev wsJ100 : List Cond := u_ws RJ10 TJ10 0
theorem nmJ10 : ∀ a, a < 0 → ∀ b, b < 0 → a ≠ b → (TJ10 a).2.1 ≠ (TJ10 b).2.1 := by decide +kernel
theorem tyJ10_ok : ∀ k, k < 0 → parseFieldDescriptor (TJ10 k).2.2.1 = some (tyJ10 k) := by decide +kernel
def RJ3 : String := "jdk/internal/util/Preconditions"
def TJ3 : u_T := fun k => match k with
  | _ => ("", "", "", false)
def tyJ3 : Nat → FieldType := fun k => match k with
  | _ => .int
abbrev wsJ30 : List Cond := u_ws RJ3 TJ3 0
theorem nmJ3 : ∀ a, a < 0 → ∀ b, b < 0 → a ≠ b → (TJ3 a).2.1 ≠ (TJ3 b).2.1 := by decide +kernel
theorem tyJ3_ok : ∀ k, k < 0 → parseFieldDescriptor (TJ3 k).2.2.1 = some (tyJ3 k) := by decide +kernel
abbrev cJ3_checkFromToIndex_8c36e : ByteArray := prog_20_method_12_code
def yJ3_checkFromToIndex_8c36e : MethodName := ⟨RJ3, "checkFromToIndex", "(IIILjava/util/function/BiFunction;)I"⟩
def RL : String := "GradeGraphLaw"
abbrev cL_law : ByteArray := code
def yL_law : MethodName := ⟨RL, "law", "([I)Z"⟩
abbrev vwCl : List vw_C := [(RX0, TX0, 8), (RX1, TX1, 5), (RX3, TX3, 5), (RX5, TX5, 4), (RX6, TX6, 7), (RX8, TX8, 2), (RX9, TX9, 6), (RX10, TX10, 28)]
end
section
/-! ===== an abstract store, and how the heap holds it ===== -/
abbrev ax_V : Type := Int32 ⊕ (Int64 ⊕ Option Nat)
abbrev av_i (x : Int32) : ax_V := .inl x
abbrev av_l (x : Int64) : ax_V := .inr (.inl x)
abbrev av_r (r : Option Nat) : ax_V := .inr (.inr r)
def ax_cv (ρ : Nat → Nat) : ax_V → Value
  | .inl x => .int x
  | .inr (.inl x) => .long x
  | .inr (.inr r) => va_rf (r.map ρ)
/-- shapes (kind, length) by address; ints; references -/
abbrev ax_S : Type := List (Nat × Nat) × (Nat → Nat → Int32) × (Nat → Nat → Option Nat)
def ax_ty (t k : Nat) : FieldType := match t with
  | 0 => tyX0 k
  | 1 => tyX1 k
  | 2 => tyX3 k
  | 3 => tyX5 k
  | 4 => tyX6 k
  | 5 => tyX8 k
  | 6 => tyX9 k
  | 7 => tyX10 k
  | 8 => .byte
  | 9 => .int
  | 10 => .boolean
  | 11 => .object RX1
  | 12 => .object RX3
  | _ => .object RX5
def ax_isI (t k : Nat) : Bool := match ax_ty t k with
  | .int => true
  | .boolean => true
  | .byte => true
  | _ => false
def ax_sv (σ : ax_S) (t a k : Nat) : ax_V := if ax_isI t k = true then av_i (σ.2.1 a k) else av_r (σ.2.2 a k)
/-- the context: classes and slots; array classes; addresses; the static cells; the first own address -/
abbrev ax_X : Type := va_G × (Nat → ClassId) × (Nat → Nat) × (Nat → Cell) × Nat
abbrev ax_ρ (X : ax_X) : Nat → Nat := X.2.2.1
abbrev ax_c (X : ax_X) : Nat → Cell := X.2.2.2.1
abbrev ax_b (X : ax_X) : Nat := X.2.2.2.2
def ax_A (X : ax_X) : Nat → Prop := fun q => ax_b X ≤ q
def ax_ok (X : ax_X) : Prop := (∀ a : Nat, 9 ≤ a → ax_ρ X a = ax_b X + (a - 9)) ∧ ∀ a : Nat, a < 9 → ax_ρ X a < ax_b X
def ax_at (X : ax_X) (σ : ax_S) (H : Heap) (a t n : Nat) : Prop :=
  if a < 8 then t = (if a = 7 then 8 else 9) ∧ H[ax_ρ X a]? = some (ax_c X a) ∧ (ax_c X a).slots.size = n ∧ (ax_c X a).vm ≠ .unknown ∧ ∀ j : Nat, j < n → (ax_c X a).slots[j]? = some (ax_cv (ax_ρ X) (ax_sv σ t a j))
  else if a = 8 then t = 99
  else if t < 8 then ∃ r : vw_C, vwCl[t]? = some r ∧ n = r.2.2 ∧ t_OB (ax_ρ X a) (X.1.1 t) r.2.2 (X.1.2 t) H (fun k => ax_cv (ax_ρ X) (ax_sv σ t a k))
  else t < 14 ∧ H[ax_ρ X a]? = some (arrV (X.2.1 t) n (fun j => ax_cv (ax_ρ X) (ax_sv σ t a j)))
def ax_H (X : ax_X) (σ : ax_S) (H : Heap) : Prop := 9 ≤ σ.1.length ∧ H.size = ax_b X + (σ.1.length - 9) ∧ ∀ a t n : Nat, σ.1[a]? = some (t, n) → ax_at X σ H a t n
def ax_isN : Cond → Bool
  | .methodLinkNest .. => true
  | .fieldLinkNest .. => true
  | _ => false
def ax_NW : List Cond := lw_tbl.filter ax_isN
def ax_WS : List Cond := lw_tbl.filter goodWord
def ax_K (X : ax_X) (s : State) : Prop := va_K X.1 vwCl [] s ∧ (∀ t : Nat, 8 ≤ t → t < 14 → ArrOfT s (X.2.1 t) (ax_ty t 0) ∧ va_RA s (X.2.1 t) (ax_ty t 0)) ∧ (∀ a : Nat, a < 8 → s.isArrayOf (ax_c X a) (if a = 7 then .byte else .int)) ∧ (∀ w ∈ ax_NW, va_Nw w s) ∧ vk_R RX6 68 "sgtilkbn" (ax_ρ X 8) s
theorem ax_K.moved {X : ax_X} {s U : State} (hW : s.WarmedH U.vm) (h : ax_K X s) : ax_K X U := by
  obtain ⟨h1, h2, h3, h4, h5⟩ := h
  refine ⟨va_K.moved hW.alike h1, fun t a b => ⟨arrOfT_moved hW.alike (h2 t a b).1, (h2 t a b).2.moved hW.alike⟩, fun a ha => State.isArrayOf_alike hW.alike (h3 a ha), fun w hw => ?_, h5.warm hW⟩
  have hn := (List.mem_filter.mp hw).2
  have hz := h4 w hw
  cases w with
  | methodLinkNest a i x h => exact va_Nw.warmM hW hz
  | fieldLinkNest a i b n d h => exact va_Nw.warmF hW hz
  | _ => cases hn
def ax_kn : Nat → String
  | 0 => "INPUTS"
  | 1 => "PARAMETERS"
  | 2 => "NUMBERS"
  | 3 => "LOWEST"
  | 4 => "HIGHEST"
  | _ => "AT_FIRST"
def ax_G (X : ax_X) (U : State) (H : Heap) : Prop := (∀ i : Nat, i < 6 → va_Z RX2 (ax_kn i) "[I" (.ref (ax_ρ X i)) (ax_A X) U H) ∧ va_Z "java/lang/String" "COMPACT_STRINGS" "Z" (.int 1) (ax_A X) U H ∧ va_O "java/lang/String" (ax_ρ X 8) (ax_A X) U H ∧ va_OF "java/lang/String" "coder" "B" (.int 0) (ax_ρ X 8) (ax_A X) U H ∧ va_OF "java/lang/String" "value" "[B" (.ref (ax_ρ X 7)) (ax_ρ X 8) (ax_A X) U H
theorem ax_G.moved {X : ax_X} {u U : State} {H : Heap} (hvm : u.vm.Alike U.vm) (h : ax_G X u H) : ax_G X U H := ⟨fun i hi => (h.1 i hi).moved hvm, va_Z.moved hvm h.2.1, va_O.moved hvm h.2.2.1, va_OF.moved hvm h.2.2.2.1, va_OF.moved hvm h.2.2.2.2⟩
theorem ax_G.kept {X : ax_X} {U : State} {H H1 : Heap} (h : ax_G X U H) (hq : ∀ a : Nat, a < H.size → ¬ ax_A X a → H1[a]? = H[a]?) : ax_G X U H1 := ⟨fun i hi => (h.1 i hi).kept hq, h.2.1.kept hq, h.2.2.1.kept hq, h.2.2.2.1.kept hq, h.2.2.2.2.kept hq⟩
def ax_L (X : ax_X) (nL : Nat) (ls : Array Slot) (L : List (Option ax_V)) : Prop := ls.size = nL ∧ lv_wf ls ∧ ∀ (i : Nat) (v : ax_V), L[i]? = some (some v) → ls[i]? = some (.val (ax_cv (ax_ρ X) v))
def ax_lv (ρ : Nat → Nat) (L : List (Option ax_V)) : List (Nat × Value) := (List.range L.length).filterMap (fun j => match L[j]? with
  | some (some v) => some (j, ax_cv ρ v)
  | _ => none)
theorem ax_lv_mem {ρ : Nat → Nat} {L : List (Option ax_V)} {q : Nat × Value} : q ∈ ax_lv ρ L ↔ ∃ v, L[q.1]? = some (some v) ∧ q.2 = ax_cv ρ v := by
  unfold ax_lv
  rw [List.mem_filterMap]
  constructor
  · rintro ⟨j, -, h⟩
    split at h
    · rename_i v hv
      cases h
      exact ⟨v, hv, rfl⟩
    · cases h
  · rintro ⟨v, hv, e⟩
    refine ⟨q.1, List.mem_range.mpr (List.getElem?_eq_some_iff.mp hv).1, ?_⟩
    rw [hv]
    obtain ⟨a, b⟩ := q
    cases e
    rfl
theorem ax_lv_has {X : ax_X} {nL : Nat} {ls : Array Slot} {L : List (Option ax_V)} (h : ax_L X nL ls L) : lv_has ls nL (ax_lv (ax_ρ X) L) := by
  refine ⟨h.1, h.2.1, fun q hq => ?_⟩
  obtain ⟨v, hv, e⟩ := ax_lv_mem.mp hq
  rw [e]
  exact h.2.2 _ _ hv
theorem ax_cat (ρ : Nat → Nat) (v : ax_V) : (ax_cv ρ v).category = match v with
    | .inr (.inl _) => 2
    | _ => 1 := by
  rcases v with x | x | r
  · rfl
  · rfl
  · cases r <;> rfl
/-- the place before isn't a long's -/
def ax_st (L : List (Option ax_V)) : Nat → Bool
  | 0 => true
  | j + 1 => match L[j]? with
    | some (some (.inr (.inl _))) => false
    | _ => true
theorem ax_L.set1 {X : ax_X} {nL i : Nat} {ls : Array Slot} {L : List (Option ax_V)} {v : ax_V} (hst : ax_st L i = true) (h : lv_has ls nL ((i, ax_cv (ax_ρ X) v) :: (ax_lv (ax_ρ X) L).filter (fun q => !(q.1 == i) && !(q.1 + 1 == i && q.2.category == 2)))) : ax_L X nL ls (L.set i (some v)) := by
  refine ⟨h.1, h.2.1, fun j w hw => ?_⟩
  by_cases hj : j = i
  · subst hj
    have hl : j < L.length := by
      have := (List.getElem?_eq_some_iff.mp hw).1
      simpa using this
    rw [List.getElem?_set_self hl] at hw
    cases hw
    exact h.2.2 (j, _) List.mem_cons_self
  · rw [List.getElem?_set_ne (fun q => hj q.symm)] at hw
    refine h.2.2 (j, ax_cv (ax_ρ X) w) (List.mem_cons_of_mem _ (List.mem_filter.mpr ⟨ax_lv_mem.mpr ⟨w, hw, rfl⟩, ?_⟩))
    have h1 : ((j == i) : Bool) = false := by simp [hj]
    show (!(j == i) && !(j + 1 == i && (ax_cv (ax_ρ X) w).category == 2)) = true
    rw [h1]
    by_cases hji : j + 1 = i
    · subst hji
      have hc : (ax_cv (ax_ρ X) w).category = 1 := by
        rw [ax_cat]
        simp only [ax_st, hw] at hst
        rcases w with x | x | r
        · rfl
        · simp at hst
        · rfl
      rw [hc]
      simp
    · have h2 : ((j + 1 == i) : Bool) = false := by simp [hji]
      rw [h2]
      rfl
theorem ax_L.set2 {X : ax_X} {nL i : Nat} {ls : Array Slot} {L : List (Option ax_V)} {v : ax_V} (hst : ax_st L i = true) (h : lv_has ls nL ((i, ax_cv (ax_ρ X) v) :: (ax_lv (ax_ρ X) L).filter (fun q => !(q.1 == i) && (!(q.1 == i + 1) && !(q.1 + 1 == i && q.2.category == 2))))) : ax_L X nL ls ((L.set i (some v)).set (i + 1) none) := by
  refine ⟨h.1, h.2.1, fun j w hw => ?_⟩
  have hj1 : j ≠ i + 1 := by
    intro e
    subst e
    have hl : i + 1 < ((L.set i (some v)).set (i + 1) none).length := (List.getElem?_eq_some_iff.mp hw).1
    rw [List.getElem?_set_self (by simpa using hl)] at hw
    cases hw
  rw [List.getElem?_set_ne (fun q => hj1 q.symm)] at hw
  by_cases hj : j = i
  · subst hj
    have hl : j < L.length := by
      have := (List.getElem?_eq_some_iff.mp hw).1
      simpa using this
    rw [List.getElem?_set_self hl] at hw
    cases hw
    exact h.2.2 (j, _) List.mem_cons_self
  · rw [List.getElem?_set_ne (fun q => hj q.symm)] at hw
    refine h.2.2 (j, ax_cv (ax_ρ X) w) (List.mem_cons_of_mem _ (List.mem_filter.mpr ⟨ax_lv_mem.mpr ⟨w, hw, rfl⟩, ?_⟩))
    have h1 : ((j == i) : Bool) = false := by simp [hj]
    have h3 : ((j == i + 1) : Bool) = false := by simp [hj1]
    show (!(j == i) && (!(j == i + 1) && !(j + 1 == i && (ax_cv (ax_ρ X) w).category == 2))) = true
    rw [h1, h3]
    by_cases hji : j + 1 = i
    · subst hji
      have hc : (ax_cv (ax_ρ X) w).category = 1 := by
        rw [ax_cat]
        simp only [ax_st, hw] at hst
        rcases w with x | x | r
        · rfl
        · simp at hst
        · rfl
      rw [hc]
      simp
    · have h2 : ((j + 1 == i) : Bool) = false := by simp [hji]
      rw [h2]
      rfl
/-- a method: its class, its code, what it returns, its locals, whether it is a constructor -/
abbrev ax_M : Type := String × ByteArray × Option FieldType × Nat × Bool
def ax_C (X : ax_X) (M : ax_M) (d : Nat) (p : Program) (R : Room) (s : State) (m : MethodId) (args : Array Value) (meth : Method) (c : Code) : Prop :=
  p.tables.exec = Jvm.exec ∧ c.code = M.2.1 ∧ c.maxLocals = M.2.2.2.1 ∧ s.vm.findClass M.1 = some m.cls ∧ (∀ w ∈ ax_WS, w.before args s = true) ∧ meth.sig.returnType = M.2.2.1 ∧ meth.locks = false ∧ (M.2.2.2.2 = true → meth.name = "<init>") ∧ d ≤ R.frames ∧ 64 * d ≤ R.locals ∧ ax_ok X ∧ ax_K X s ∧ ax_G X s s.heap
def ax_ri : Option FieldType → Instr
  | none => .return_
  | some .long => .lreturn
  | some (.object _) => .areturn
  | some (.array _) => .areturn
  | _ => .ireturn
def AW (M : ax_M) (d bc bs pc : Nat) (L : List (Option ax_V)) (st : List ax_V) (σ : ax_S) (z : Option ax_V × ax_S) : Prop :=
  ∀ (X : ax_X) (p : Program) (l : Launch) (e : Env) (R : Room) (s : State) (m : MethodId) (args : Array Value) (below : List Frame) (meth : Method) (c : Code) (H : Heap) (locs : List Loc) (cells slots : Nat) (Q : State → Prop) (ls : Array Slot),
    ax_C X M d p R s m args meth c → cells + bc ≤ R.cells → slots + bs ≤ R.slots → ax_H X σ H → va_S (ax_A X) s.heap H locs → ax_L X M.2.2.2.1 ls L →
    (∀ (pc' : Nat) (ls' : Array Slot) (H' : Heap) (locs' : List Loc), ax_H X z.2 H' → va_S (ax_A X) s.heap H' locs' → decode M.2.1 pc' = .ok (ax_ri M.2.2.1, 1) → W p l e R s m args below meth c H' locs' R.cells R.slots Q (F0 m pc' ls' (z.1.toList.map (ax_cv (ax_ρ X))))) →
    W p l e R s m args below meth c H locs cells slots Q (F0 m pc ls (st.map (ax_cv (ax_ρ X))))
end
section
section AXR
variable {M : ax_M} {d bc bs pc : Nat} {L : List (Option ax_V)} {st : List ax_V} {σ : ax_S} {z : Option ax_V × ax_S}

theorem ax_iconst {n : Int} {v : Int32} (hd : decode M.2.1 pc = .ok (.iconst n, 1)) (hv : Int32.ofInt n = v)
    (kk : AW M d bc bs (pc + 1) L (av_i v :: st) σ z) : AW M d bc bs pc L st σ z := by
  intro X p l e R s m args below meth c H locs cells slots Q ls C hc hs hH hS hL hE
  obtain ⟨hx, hb, hml, hown, hts, hret, hlk, hin, hdf, hdl, hok, hK, hG⟩ := id C
  exact lv_iconst hx hb hd hv (kk X p l e R s m args below meth c H locs cells slots Q ls C hc hs hH hS hL hE)

theorem ax_bipush {n : Int} {v : Int32} (hd : decode M.2.1 pc = .ok (.bipush n, 2)) (hv : (Int8.ofInt n).toInt32 = v)
    (kk : AW M d bc bs (pc + 2) L (av_i v :: st) σ z) : AW M d bc bs pc L st σ z := by
  intro X p l e R s m args below meth c H locs cells slots Q ls C hc hs hH hS hL hE
  obtain ⟨hx, hb, hml, hown, hts, hret, hlk, hin, hdf, hdl, hok, hK, hG⟩ := id C
  exact lv_bipush hx hb hd hv (kk X p l e R s m args below meth c H locs cells slots Q ls C hc hs hH hS hL hE)

theorem ax_sipush {n : Int} {v : Int32} (hd : decode M.2.1 pc = .ok (.sipush n, 3)) (hv : (Int16.ofInt n).toInt32 = v)
    (kk : AW M d bc bs (pc + 3) L (av_i v :: st) σ z) : AW M d bc bs pc L st σ z := by
  intro X p l e R s m args below meth c H locs cells slots Q ls C hc hs hH hS hL hE
  obtain ⟨hx, hb, hml, hown, hts, hret, hlk, hin, hdf, hdl, hok, hK, hG⟩ := id C
  exact lv_sipush hx hb hd hv (kk X p l e R s m args below meth c H locs cells slots Q ls C hc hs hH hS hL hE)

theorem ax_ldc2 {index : Nat} {v : Int64} (hd : decode M.2.1 pc = .ok (.ldc2_w index, 3)) (hw : Cond.constantLong M.1 index v ∈ ax_WS)
    (kk : AW M d bc bs (pc + 3) L (av_l v :: st) σ z) : AW M d bc bs pc L st σ z := by
  intro X p l e R s m args below meth c H locs cells slots Q ls C hc hs hH hS hL hE
  obtain ⟨hx, hb, hml, hown, hts, hret, hlk, hin, hdf, hdl, hok, hK, hG⟩ := id C
  exact lv_ldc2 hx hb hown (hts _ hw) hd (kk X p l e R s m args below meth c H locs cells slots Q ls C hc hs hH hS hL hE)

theorem ax_null (hd : decode M.2.1 pc = .ok (.aconst_null, 1))
    (kk : AW M d bc bs (pc + 1) L (av_r none :: st) σ z) : AW M d bc bs pc L st σ z := by
  intro X p l e R s m args below meth c H locs cells slots Q ls C hc hs hH hS hL hE
  obtain ⟨hx, hb, hml, hown, hts, hret, hlk, hin, hdf, hdl, hok, hK, hG⟩ := id C
  exact lv_null hx hb hd (kk X p l e R s m args below meth c H locs cells slots Q ls C hc hs hH hS hL hE)

theorem ax_iload_n {k : Fin 4} {i : Nat} {x : Int32} (hd : decode M.2.1 pc = .ok (.iload_n k, 1)) (hi : (k : Nat) = i) (hv : L[i]? = some (some (av_i x)))
    (kk : AW M d bc bs (pc + 1) L (av_i x :: st) σ z) : AW M d bc bs pc L st σ z := by
  intro X p l e R s m args below meth c H locs cells slots Q ls C hc hs hH hS hL hE
  obtain ⟨hx, hb, hml, hown, hts, hret, hlk, hin, hdf, hdl, hok, hK, hG⟩ := id C
  exact lv_iload_n hx hb hd hi (hL.2.2 i _ hv) (kk X p l e R s m args below meth c H locs cells slots Q ls C hc hs hH hS hL hE)

theorem ax_iload {i : Nat} {x : Int32} (hd : decode M.2.1 pc = .ok (.iload i, 2)) (hv : L[i]? = some (some (av_i x)))
    (kk : AW M d bc bs (pc + 2) L (av_i x :: st) σ z) : AW M d bc bs pc L st σ z := by
  intro X p l e R s m args below meth c H locs cells slots Q ls C hc hs hH hS hL hE
  obtain ⟨hx, hb, hml, hown, hts, hret, hlk, hin, hdf, hdl, hok, hK, hG⟩ := id C
  exact lv_iload hx hb hd (hL.2.2 i _ hv) (kk X p l e R s m args below meth c H locs cells slots Q ls C hc hs hH hS hL hE)

theorem ax_lload_n {k : Fin 4} {i : Nat} {x : Int64} (hd : decode M.2.1 pc = .ok (.lload_n k, 1)) (hi : (k : Nat) = i) (hv : L[i]? = some (some (av_l x)))
    (kk : AW M d bc bs (pc + 1) L (av_l x :: st) σ z) : AW M d bc bs pc L st σ z := by
  intro X p l e R s m args below meth c H locs cells slots Q ls C hc hs hH hS hL hE
  obtain ⟨hx, hb, hml, hown, hts, hret, hlk, hin, hdf, hdl, hok, hK, hG⟩ := id C
  exact lv_lload_n hx hb hd hi (hL.2.2 i _ hv) (kk X p l e R s m args below meth c H locs cells slots Q ls C hc hs hH hS hL hE)

theorem ax_lload {i : Nat} {x : Int64} (hd : decode M.2.1 pc = .ok (.lload i, 2)) (hv : L[i]? = some (some (av_l x)))
    (kk : AW M d bc bs (pc + 2) L (av_l x :: st) σ z) : AW M d bc bs pc L st σ z := by
  intro X p l e R s m args below meth c H locs cells slots Q ls C hc hs hH hS hL hE
  obtain ⟨hx, hb, hml, hown, hts, hret, hlk, hin, hdf, hdl, hok, hK, hG⟩ := id C
  exact lv_lload hx hb hd (hL.2.2 i _ hv) (kk X p l e R s m args below meth c H locs cells slots Q ls C hc hs hH hS hL hE)

theorem ax_aload_n {k : Fin 4} {i : Nat} {r : Option Nat} (hd : decode M.2.1 pc = .ok (.aload_n k, 1)) (hi : (k : Nat) = i) (hv : L[i]? = some (some (av_r r)))
    (kk : AW M d bc bs (pc + 1) L (av_r r :: st) σ z) : AW M d bc bs pc L st σ z := by
  intro X p l e R s m args below meth c H locs cells slots Q ls C hc hs hH hS hL hE
  obtain ⟨hx, hb, hml, hown, hts, hret, hlk, hin, hdf, hdl, hok, hK, hG⟩ := id C
  have h1 := hL.2.2 i _ hv
  have k1 := kk X p l e R s m args below meth c H locs cells slots Q ls C hc hs hH hS hL hE
  cases r with
  | none => exact lv_aload_nN hx hb hd hi h1 k1
  | some q => exact lv_aload_n hx hb hd hi h1 k1

theorem ax_aload {i : Nat} {r : Option Nat} (hd : decode M.2.1 pc = .ok (.aload i, 2)) (hv : L[i]? = some (some (av_r r)))
    (kk : AW M d bc bs (pc + 2) L (av_r r :: st) σ z) : AW M d bc bs pc L st σ z := by
  intro X p l e R s m args below meth c H locs cells slots Q ls C hc hs hH hS hL hE
  obtain ⟨hx, hb, hml, hown, hts, hret, hlk, hin, hdf, hdl, hok, hK, hG⟩ := id C
  have h1 := hL.2.2 i _ hv
  have k1 := kk X p l e R s m args below meth c H locs cells slots Q ls C hc hs hH hS hL hE
  cases r with
  | none => exact lv_aloadN hx hb hd  h1 k1
  | some q => exact lv_aload hx hb hd  h1 k1

theorem ax_istore_n {k : Fin 4} {i : Nat} {x : Int32} (hd : decode M.2.1 pc = .ok (.istore_n k, 1)) (hi : (k : Nat) = i) (hn : i < M.2.2.2.1) (hk : ax_st L i = true) {L2 : List (Option ax_V)} (hL2 : L.set i (some (av_i x)) = L2)
    (kk : AW M d bc bs (pc + 1) L2 st σ z) : AW M d bc bs pc L (av_i x :: st) σ z := by
  intro X p l e R s m args below meth c H locs cells slots Q ls C hc hs hH hS hL hE
  obtain ⟨hx, hb, hml, hown, hts, hret, hlk, hin, hdf, hdl, hok, hK, hG⟩ := id C
  exact lv_istore_n hx hb hd hi (ax_lv_has hL) hn rfl (fun ls' h' => kk X p l e R s m args below meth c H locs cells slots Q ls' C hc hs hH hS (hL2 ▸ ax_L.set1 hk h') hE)

theorem ax_istore {i : Nat} {x : Int32} (hd : decode M.2.1 pc = .ok (.istore i, 2)) (hn : i < M.2.2.2.1) (hk : ax_st L i = true) {L2 : List (Option ax_V)} (hL2 : L.set i (some (av_i x)) = L2)
    (kk : AW M d bc bs (pc + 2) L2 st σ z) : AW M d bc bs pc L (av_i x :: st) σ z := by
  intro X p l e R s m args below meth c H locs cells slots Q ls C hc hs hH hS hL hE
  obtain ⟨hx, hb, hml, hown, hts, hret, hlk, hin, hdf, hdl, hok, hK, hG⟩ := id C
  exact lv_istore hx hb hd (ax_lv_has hL) hn rfl (fun ls' h' => kk X p l e R s m args below meth c H locs cells slots Q ls' C hc hs hH hS (hL2 ▸ ax_L.set1 hk h') hE)

theorem ax_astore_n {k : Fin 4} {i : Nat} {r : Option Nat} (hd : decode M.2.1 pc = .ok (.astore_n k, 1)) (hi : (k : Nat) = i) (hn : i < M.2.2.2.1) (hk : ax_st L i = true) {L2 : List (Option ax_V)} (hL2 : L.set i (some (av_r r)) = L2)
    (kk : AW M d bc bs (pc + 1) L2 st σ z) : AW M d bc bs pc L (av_r r :: st) σ z := by
  intro X p l e R s m args below meth c H locs cells slots Q ls C hc hs hH hS hL hE
  obtain ⟨hx, hb, hml, hown, hts, hret, hlk, hin, hdf, hdl, hok, hK, hG⟩ := id C
  cases r with
  | none => exact lv_astore_nN hx hb hd hi (ax_lv_has hL) hn rfl (fun ls' h' => kk X p l e R s m args below meth c H locs cells slots Q ls' C hc hs hH hS (hL2 ▸ ax_L.set1 hk h') hE)
  | some q => exact lv_astore_n hx hb hd hi (ax_lv_has hL) hn rfl (fun ls' h' => kk X p l e R s m args below meth c H locs cells slots Q ls' C hc hs hH hS (hL2 ▸ ax_L.set1 hk h') hE)

theorem ax_astore {i : Nat} {r : Option Nat} (hd : decode M.2.1 pc = .ok (.astore i, 2)) (hn : i < M.2.2.2.1) (hk : ax_st L i = true) {L2 : List (Option ax_V)} (hL2 : L.set i (some (av_r r)) = L2)
    (kk : AW M d bc bs (pc + 2) L2 st σ z) : AW M d bc bs pc L (av_r r :: st) σ z := by
  intro X p l e R s m args below meth c H locs cells slots Q ls C hc hs hH hS hL hE
  obtain ⟨hx, hb, hml, hown, hts, hret, hlk, hin, hdf, hdl, hok, hK, hG⟩ := id C
  cases r with
  | none => exact lv_astoreN hx hb hd (ax_lv_has hL) hn rfl (fun ls' h' => kk X p l e R s m args below meth c H locs cells slots Q ls' C hc hs hH hS (hL2 ▸ ax_L.set1 hk h') hE)
  | some q => exact lv_astore hx hb hd (ax_lv_has hL) hn rfl (fun ls' h' => kk X p l e R s m args below meth c H locs cells slots Q ls' C hc hs hH hS (hL2 ▸ ax_L.set1 hk h') hE)

theorem ax_lstore_n {k : Fin 4} {i : Nat} {x : Int64} (hd : decode M.2.1 pc = .ok (.lstore_n k, 1)) (hi : (k : Nat) = i) (hn : i + 1 < M.2.2.2.1) (hk : ax_st L i = true) {L2 : List (Option ax_V)} (hL2 : (L.set i (some (av_l x))).set (i + 1) none = L2)
    (kk : AW M d bc bs (pc + 1) L2 st σ z) : AW M d bc bs pc L (av_l x :: st) σ z := by
  intro X p l e R s m args below meth c H locs cells slots Q ls C hc hs hH hS hL hE
  obtain ⟨hx, hb, hml, hown, hts, hret, hlk, hin, hdf, hdl, hok, hK, hG⟩ := id C
  exact lv_lstore_n hx hb hd hi (ax_lv_has hL) hn rfl (fun ls' h' => kk X p l e R s m args below meth c H locs cells slots Q ls' C hc hs hH hS (hL2 ▸ ax_L.set2 hk h') hE)

theorem ax_lstore {i : Nat} {x : Int64} (hd : decode M.2.1 pc = .ok (.lstore i, 2)) (hn : i + 1 < M.2.2.2.1) (hk : ax_st L i = true) {L2 : List (Option ax_V)} (hL2 : (L.set i (some (av_l x))).set (i + 1) none = L2)
    (kk : AW M d bc bs (pc + 2) L2 st σ z) : AW M d bc bs pc L (av_l x :: st) σ z := by
  intro X p l e R s m args below meth c H locs cells slots Q ls C hc hs hH hS hL hE
  obtain ⟨hx, hb, hml, hown, hts, hret, hlk, hin, hdf, hdl, hok, hK, hG⟩ := id C
  exact lv_lstore hx hb hd (ax_lv_has hL) hn rfl (fun ls' h' => kk X p l e R s m args below meth c H locs cells slots Q ls' C hc hs hH hS (hL2 ▸ ax_L.set2 hk h') hE)

theorem ax_iinc {i : Nat} {n : Int} {x v : Int32} (hd : decode M.2.1 pc = .ok (.iinc i n, 3)) (hv : L[i]? = some (some (av_i x))) (hv2 : x + Int32.ofInt n = v) (hn : i < M.2.2.2.1) (hk : ax_st L i = true) {L2 : List (Option ax_V)} (hL2 : L.set i (some (av_i v)) = L2)
    (kk : AW M d bc bs (pc + 3) L2 st σ z) : AW M d bc bs pc L st σ z := by
  intro X p l e R s m args below meth c H locs cells slots Q ls C hc hs hH hS hL hE
  obtain ⟨hx, hb, hml, hown, hts, hret, hlk, hin, hdf, hdl, hok, hK, hG⟩ := id C
  obtain ⟨k, hk2⟩ := List.getElem?_of_mem (ax_lv_mem.mpr ⟨_, hv, rfl⟩ : (i, Value.int x) ∈ ax_lv (ax_ρ X) L)
  exact lv_iinc hx hb hd (ax_lv_has hL) hk2 hv2 hn rfl (fun ls' h' => kk X p l e R s m args below meth c H locs cells slots Q ls' C hc hs hH hS (hL2 ▸ ax_L.set1 hk h') hE)

theorem ax_iadd {x y : Int32} (hd : decode M.2.1 pc = .ok (.iadd, 1))
    (kk : AW M d bc bs (pc + 1) L (av_i (x + y) :: st) σ z) : AW M d bc bs pc L (av_i y :: av_i x :: st) σ z := by
  intro X p l e R s m args below meth c H locs cells slots Q ls C hc hs hH hS hL hE
  obtain ⟨hx, hb, hml, hown, hts, hret, hlk, hin, hdf, hdl, hok, hK, hG⟩ := id C
  exact lv_iadd hx hb hd (kk X p l e R s m args below meth c H locs cells slots Q ls C hc hs hH hS hL hE)

theorem ax_isub {x y : Int32} (hd : decode M.2.1 pc = .ok (.isub, 1))
    (kk : AW M d bc bs (pc + 1) L (av_i (x - y) :: st) σ z) : AW M d bc bs pc L (av_i y :: av_i x :: st) σ z := by
  intro X p l e R s m args below meth c H locs cells slots Q ls C hc hs hH hS hL hE
  obtain ⟨hx, hb, hml, hown, hts, hret, hlk, hin, hdf, hdl, hok, hK, hG⟩ := id C
  exact lv_isub hx hb hd (kk X p l e R s m args below meth c H locs cells slots Q ls C hc hs hH hS hL hE)

theorem ax_imul {x y : Int32} (hd : decode M.2.1 pc = .ok (.imul, 1))
    (kk : AW M d bc bs (pc + 1) L (av_i (x * y) :: st) σ z) : AW M d bc bs pc L (av_i y :: av_i x :: st) σ z := by
  intro X p l e R s m args below meth c H locs cells slots Q ls C hc hs hH hS hL hE
  obtain ⟨hx, hb, hml, hown, hts, hret, hlk, hin, hdf, hdl, hok, hK, hG⟩ := id C
  exact lv_imul hx hb hd (kk X p l e R s m args below meth c H locs cells slots Q ls C hc hs hH hS hL hE)

theorem ax_iand {x y : Int32} (hd : decode M.2.1 pc = .ok (.iand, 1))
    (kk : AW M d bc bs (pc + 1) L (av_i (x &&& y) :: st) σ z) : AW M d bc bs pc L (av_i y :: av_i x :: st) σ z := by
  intro X p l e R s m args below meth c H locs cells slots Q ls C hc hs hH hS hL hE
  obtain ⟨hx, hb, hml, hown, hts, hret, hlk, hin, hdf, hdl, hok, hK, hG⟩ := id C
  exact lv_iand hx hb hd (kk X p l e R s m args below meth c H locs cells slots Q ls C hc hs hH hS hL hE)

theorem ax_ior {x y : Int32} (hd : decode M.2.1 pc = .ok (.ior, 1))
    (kk : AW M d bc bs (pc + 1) L (av_i (x ||| y) :: st) σ z) : AW M d bc bs pc L (av_i y :: av_i x :: st) σ z := by
  intro X p l e R s m args below meth c H locs cells slots Q ls C hc hs hH hS hL hE
  obtain ⟨hx, hb, hml, hown, hts, hret, hlk, hin, hdf, hdl, hok, hK, hG⟩ := id C
  exact lv_ior hx hb hd (kk X p l e R s m args below meth c H locs cells slots Q ls C hc hs hH hS hL hE)

theorem ax_ixor {x y : Int32} (hd : decode M.2.1 pc = .ok (.ixor, 1))
    (kk : AW M d bc bs (pc + 1) L (av_i (x ^^^ y) :: st) σ z) : AW M d bc bs pc L (av_i y :: av_i x :: st) σ z := by
  intro X p l e R s m args below meth c H locs cells slots Q ls C hc hs hH hS hL hE
  obtain ⟨hx, hb, hml, hown, hts, hret, hlk, hin, hdf, hdl, hok, hK, hG⟩ := id C
  exact lv_ixor hx hb hd (kk X p l e R s m args below meth c H locs cells slots Q ls C hc hs hH hS hL hE)

theorem ax_ishl {x y : Int32} (hd : decode M.2.1 pc = .ok (.ishl, 1))
    (kk : AW M d bc bs (pc + 1) L (av_i (x <<< (y &&& 31)) :: st) σ z) : AW M d bc bs pc L (av_i y :: av_i x :: st) σ z := by
  intro X p l e R s m args below meth c H locs cells slots Q ls C hc hs hH hS hL hE
  obtain ⟨hx, hb, hml, hown, hts, hret, hlk, hin, hdf, hdl, hok, hK, hG⟩ := id C
  exact lv_ishl hx hb hd (kk X p l e R s m args below meth c H locs cells slots Q ls C hc hs hH hS hL hE)

theorem ax_ishr {x y : Int32} (hd : decode M.2.1 pc = .ok (.ishr, 1))
    (kk : AW M d bc bs (pc + 1) L (av_i (x >>> (y &&& 31)) :: st) σ z) : AW M d bc bs pc L (av_i y :: av_i x :: st) σ z := by
  intro X p l e R s m args below meth c H locs cells slots Q ls C hc hs hH hS hL hE
  obtain ⟨hx, hb, hml, hown, hts, hret, hlk, hin, hdf, hdl, hok, hK, hG⟩ := id C
  exact lv_ishr hx hb hd (kk X p l e R s m args below meth c H locs cells slots Q ls C hc hs hH hS hL hE)

theorem ax_iushr {x y : Int32} (hd : decode M.2.1 pc = .ok (.iushr, 1))
    (kk : AW M d bc bs (pc + 1) L (av_i (x.toUInt32 >>> (y.toUInt32 &&& Int32.toUInt32 31)).toInt32 :: st) σ z) : AW M d bc bs pc L (av_i y :: av_i x :: st) σ z := by
  intro X p l e R s m args below meth c H locs cells slots Q ls C hc hs hH hS hL hE
  obtain ⟨hx, hb, hml, hown, hts, hret, hlk, hin, hdf, hdl, hok, hK, hG⟩ := id C
  exact lv_iushr hx hb hd rfl (kk X p l e R s m args below meth c H locs cells slots Q ls C hc hs hH hS hL hE)

theorem ax_ldc {index : Nat} {v : Int32} (hd : decode M.2.1 pc = .ok (.ldc index, 2)) (hw : Cond.constant M.1 index v ∈ ax_WS)
    (kk : AW M d bc bs (pc + 2) L (av_i v :: st) σ z) : AW M d bc bs pc L st σ z := by
  intro X p l e R s m args below meth c H locs cells slots Q ls C hc hs hH hS hL hE
  obtain ⟨hx, hb, hml, hown, hts, hret, hlk, hin, hdf, hdl, hok, hK, hG⟩ := id C
  exact lv_ldc hx hb hown (hts _ hw) hd (kk X p l e R s m args below meth c H locs cells slots Q ls C hc hs hH hS hL hE)

theorem ax_ldcw {index : Nat} {v : Int32} (hd : decode M.2.1 pc = .ok (.ldc_w index, 3)) (hw : Cond.constant M.1 index v ∈ ax_WS)
    (kk : AW M d bc bs (pc + 3) L (av_i v :: st) σ z) : AW M d bc bs pc L st σ z := by
  intro X p l e R s m args below meth c H locs cells slots Q ls C hc hs hH hS hL hE
  obtain ⟨hx, hb, hml, hown, hts, hret, hlk, hin, hdf, hdl, hok, hK, hG⟩ := id C
  exact lv_ldcw hx hb hown (hts _ hw) hd (kk X p l e R s m args below meth c H locs cells slots Q ls C hc hs hH hS hL hE)

theorem ax_idiv {x y : Int32} (hd : decode M.2.1 pc = .ok (.idiv, 1)) (h0 : ¬ y = 0)
    (kk : AW M d bc bs (pc + 1) L (av_i (x / y) :: st) σ z) : AW M d bc bs pc L (av_i y :: av_i x :: st) σ z := by
  intro X p l e R s m args below meth c H locs cells slots Q ls C hc hs hH hS hL hE
  obtain ⟨hx, hb, hml, hown, hts, hret, hlk, hin, hdf, hdl, hok, hK, hG⟩ := id C
  exact lv_idiv hx hb hd h0 (kk X p l e R s m args below meth c H locs cells slots Q ls C hc hs hH hS hL hE)

theorem ax_irem {x y : Int32} (hd : decode M.2.1 pc = .ok (.irem, 1)) (h0 : ¬ y = 0)
    (kk : AW M d bc bs (pc + 1) L (av_i (x - x / y * y) :: st) σ z) : AW M d bc bs pc L (av_i y :: av_i x :: st) σ z := by
  intro X p l e R s m args below meth c H locs cells slots Q ls C hc hs hH hS hL hE
  obtain ⟨hx, hb, hml, hown, hts, hret, hlk, hin, hdf, hdl, hok, hK, hG⟩ := id C
  exact lv_irem hx hb hd h0 (kk X p l e R s m args below meth c H locs cells slots Q ls C hc hs hH hS hL hE)

theorem ax_ineg {x : Int32} (hd : decode M.2.1 pc = .ok (.ineg, 1))
    (kk : AW M d bc bs (pc + 1) L (av_i (-x) :: st) σ z) : AW M d bc bs pc L (av_i x :: st) σ z := by
  intro X p l e R s m args below meth c H locs cells slots Q ls C hc hs hH hS hL hE
  obtain ⟨hx, hb, hml, hown, hts, hret, hlk, hin, hdf, hdl, hok, hK, hG⟩ := id C
  exact lv_ineg hx hb hd (kk X p l e R s m args below meth c H locs cells slots Q ls C hc hs hH hS hL hE)

theorem ax_ladd {x y : Int64} (hd : decode M.2.1 pc = .ok (.ladd, 1))
    (kk : AW M d bc bs (pc + 1) L (av_l (x + y) :: st) σ z) : AW M d bc bs pc L (av_l y :: av_l x :: st) σ z := by
  intro X p l e R s m args below meth c H locs cells slots Q ls C hc hs hH hS hL hE
  obtain ⟨hx, hb, hml, hown, hts, hret, hlk, hin, hdf, hdl, hok, hK, hG⟩ := id C
  exact lv_ladd hx hb hd (kk X p l e R s m args below meth c H locs cells slots Q ls C hc hs hH hS hL hE)

theorem ax_lmul {x y : Int64} (hd : decode M.2.1 pc = .ok (.lmul, 1))
    (kk : AW M d bc bs (pc + 1) L (av_l (x * y) :: st) σ z) : AW M d bc bs pc L (av_l y :: av_l x :: st) σ z := by
  intro X p l e R s m args below meth c H locs cells slots Q ls C hc hs hH hS hL hE
  obtain ⟨hx, hb, hml, hown, hts, hret, hlk, hin, hdf, hdl, hok, hK, hG⟩ := id C
  exact lv_lmul hx hb hd (kk X p l e R s m args below meth c H locs cells slots Q ls C hc hs hH hS hL hE)

theorem ax_lcmp {x y : Int64} (hd : decode M.2.1 pc = .ok (.lcmp, 1))
    (kk : AW M d bc bs (pc + 1) L (av_i (lg_cmp x y) :: st) σ z) : AW M d bc bs pc L (av_l y :: av_l x :: st) σ z := by
  intro X p l e R s m args below meth c H locs cells slots Q ls C hc hs hH hS hL hE
  obtain ⟨hx, hb, hml, hown, hts, hret, hlk, hin, hdf, hdl, hok, hK, hG⟩ := id C
  exact W.lcmp hx hb hd (kk X p l e R s m args below meth c H locs cells slots Q ls C hc hs hH hS hL hE)

theorem ax_i2l {x : Int32} (hd : decode M.2.1 pc = .ok (.i2l, 1))
    (kk : AW M d bc bs (pc + 1) L (av_l x.toInt64 :: st) σ z) : AW M d bc bs pc L (av_i x :: st) σ z := by
  intro X p l e R s m args below meth c H locs cells slots Q ls C hc hs hH hS hL hE
  obtain ⟨hx, hb, hml, hown, hts, hret, hlk, hin, hdf, hdl, hok, hK, hG⟩ := id C
  exact lv_i2l hx hb hd rfl (kk X p l e R s m args below meth c H locs cells slots Q ls C hc hs hH hS hL hE)

theorem ax_i2b {x : Int32} (hd : decode M.2.1 pc = .ok (.i2b, 1))
    (kk : AW M d bc bs (pc + 1) L (av_i x.toInt8.toInt32 :: st) σ z) : AW M d bc bs pc L (av_i x :: st) σ z := by
  intro X p l e R s m args below meth c H locs cells slots Q ls C hc hs hH hS hL hE
  obtain ⟨hx, hb, hml, hown, hts, hret, hlk, hin, hdf, hdl, hok, hK, hG⟩ := id C
  exact lv_i2b hx hb hd rfl (kk X p l e R s m args below meth c H locs cells slots Q ls C hc hs hH hS hL hE)

theorem ax_i2c {x : Int32} (hd : decode M.2.1 pc = .ok (.i2c, 1))
    (kk : AW M d bc bs (pc + 1) L (av_i (x.toUInt32 % 65536).toInt32 :: st) σ z) : AW M d bc bs pc L (av_i x :: st) σ z := by
  intro X p l e R s m args below meth c H locs cells slots Q ls C hc hs hH hS hL hE
  obtain ⟨hx, hb, hml, hown, hts, hret, hlk, hin, hdf, hdl, hok, hK, hG⟩ := id C
  exact lv_i2c hx hb hd rfl (kk X p l e R s m args below meth c H locs cells slots Q ls C hc hs hH hS hL hE)

theorem ax_dup {v : ax_V} (hd : decode M.2.1 pc = .ok (.dup, 1)) (h1 : (match v with | .inr (.inl _) => False | _ => True))
    (kk : AW M d bc bs (pc + 1) L (v :: v :: st) σ z) : AW M d bc bs pc L (v :: st) σ z := by
  intro X p l e R s m args below meth c H locs cells slots Q ls C hc hs hH hS hL hE
  obtain ⟨hx, hb, hml, hown, hts, hret, hlk, hin, hdf, hdl, hok, hK, hG⟩ := id C
  have hcat : (ax_cv (ax_ρ X) v).category = 1 := by
    rw [ax_cat]
    rcases v with x | x | r
    · rfl
    · exact absurd h1 id
    · rfl
  exact lv_dup hx hb hd hcat (kk X p l e R s m args below meth c H locs cells slots Q ls C hc hs hH hS hL hE)

theorem ax_pop {v : ax_V} (hd : decode M.2.1 pc = .ok (.pop, 1)) (h1 : (match v with | .inr (.inl _) => False | _ => True))
    (kk : AW M d bc bs (pc + 1) L st σ z) : AW M d bc bs pc L (v :: st) σ z := by
  intro X p l e R s m args below meth c H locs cells slots Q ls C hc hs hH hS hL hE
  obtain ⟨hx, hb, hml, hown, hts, hret, hlk, hin, hdf, hdl, hok, hK, hG⟩ := id C
  have hcat : (ax_cv (ax_ρ X) v).category = 1 := by
    rw [ax_cat]
    rcases v with x | x | r
    · rfl
    · exact absurd h1 id
    · rfl
  exact lv_pop hx hb hd hcat (kk X p l e R s m args below meth c H locs cells slots Q ls C hc hs hH hS hL hE)

theorem ax_dup2 {v w : ax_V} (hd : decode M.2.1 pc = .ok (.dup2, 1)) (h1 : (match v with | .inr (.inl _) => False | _ => True)) (h2 : (match w with | .inr (.inl _) => False | _ => True))
    (kk : AW M d bc bs (pc + 1) L (v :: w :: v :: w :: st) σ z) : AW M d bc bs pc L (v :: w :: st) σ z := by
  intro X p l e R s m args below meth c H locs cells slots Q ls C hc hs hH hS hL hE
  obtain ⟨hx, hb, hml, hown, hts, hret, hlk, hin, hdf, hdl, hok, hK, hG⟩ := id C
  have hcat : (ax_cv (ax_ρ X) v).category = 1 := by
    rw [ax_cat]
    rcases v with x | x | r
    · rfl
    · exact absurd h1 id
    · rfl
  have hcat2 : (ax_cv (ax_ρ X) w).category = 1 := by
    rw [ax_cat]
    rcases w with x | x | r
    · rfl
    · exact absurd h2 id
    · rfl
  exact lv_dup2_11 hx hb hd hcat hcat2 (kk X p l e R s m args below meth c H locs cells slots Q ls C hc hs hH hS hL hE)

theorem ax_dup_x1 {v w : ax_V} (hd : decode M.2.1 pc = .ok (.dup_x1, 1)) (h1 : (match v with | .inr (.inl _) => False | _ => True)) (h2 : (match w with | .inr (.inl _) => False | _ => True))
    (kk : AW M d bc bs (pc + 1) L (v :: w :: v :: st) σ z) : AW M d bc bs pc L (v :: w :: st) σ z := by
  intro X p l e R s m args below meth c H locs cells slots Q ls C hc hs hH hS hL hE
  obtain ⟨hx, hb, hml, hown, hts, hret, hlk, hin, hdf, hdl, hok, hK, hG⟩ := id C
  have hcat : (ax_cv (ax_ρ X) v).category = 1 := by
    rw [ax_cat]
    rcases v with x | x | r
    · rfl
    · exact absurd h1 id
    · rfl
  have hcat2 : (ax_cv (ax_ρ X) w).category = 1 := by
    rw [ax_cat]
    rcases w with x | x | r
    · rfl
    · exact absurd h2 id
    · rfl
  exact lv_dup_x1 hx hb hd hcat hcat2 (kk X p l e R s m args below meth c H locs cells slots Q ls C hc hs hH hS hL hE)

theorem ax_if_eq {x : Int32} {off : Int} {tgt : Nat} (hd : decode M.2.1 pc = .ok (.ifCond .eq off, 3)) (ht : (pc : Int) + off = (tgt : Int))
    (kt : x = 0 → AW M d bc bs tgt L st σ z) (kf : ¬ (x = 0) → AW M d bc bs (pc + 3) L st σ z) : AW M d bc bs pc L (av_i x :: st) σ z := by
  intro X p l e R s m args below meth c H locs cells slots Q ls C hc hs hH hS hL hE
  obtain ⟨hx, hb, hml, hown, hts, hret, hlk, hin, hdf, hdl, hok, hK, hG⟩ := id C
  exact lv_if_eq hx hb hd ht (fun h => kt h X p l e R s m args below meth c H locs cells slots Q ls C hc hs hH hS hL hE) (fun h => kf h X p l e R s m args below meth c H locs cells slots Q ls C hc hs hH hS hL hE)

theorem ax_if_ne {x : Int32} {off : Int} {tgt : Nat} (hd : decode M.2.1 pc = .ok (.ifCond .ne off, 3)) (ht : (pc : Int) + off = (tgt : Int))
    (kt : ¬ x = 0 → AW M d bc bs tgt L st σ z) (kf : x = 0 → AW M d bc bs (pc + 3) L st σ z) : AW M d bc bs pc L (av_i x :: st) σ z := by
  intro X p l e R s m args below meth c H locs cells slots Q ls C hc hs hH hS hL hE
  obtain ⟨hx, hb, hml, hown, hts, hret, hlk, hin, hdf, hdl, hok, hK, hG⟩ := id C
  exact lv_if_ne hx hb hd ht (fun h => kt h X p l e R s m args below meth c H locs cells slots Q ls C hc hs hH hS hL hE) (fun h => kf h X p l e R s m args below meth c H locs cells slots Q ls C hc hs hH hS hL hE)

theorem ax_if_lt {x : Int32} {off : Int} {tgt : Nat} (hd : decode M.2.1 pc = .ok (.ifCond .lt off, 3)) (ht : (pc : Int) + off = (tgt : Int))
    (kt : x < 0 → AW M d bc bs tgt L st σ z) (kf : ¬ (x < 0) → AW M d bc bs (pc + 3) L st σ z) : AW M d bc bs pc L (av_i x :: st) σ z := by
  intro X p l e R s m args below meth c H locs cells slots Q ls C hc hs hH hS hL hE
  obtain ⟨hx, hb, hml, hown, hts, hret, hlk, hin, hdf, hdl, hok, hK, hG⟩ := id C
  exact lv_if_lt hx hb hd ht (fun h => kt h X p l e R s m args below meth c H locs cells slots Q ls C hc hs hH hS hL hE) (fun h => kf h X p l e R s m args below meth c H locs cells slots Q ls C hc hs hH hS hL hE)

theorem ax_if_ge {x : Int32} {off : Int} {tgt : Nat} (hd : decode M.2.1 pc = .ok (.ifCond .ge off, 3)) (ht : (pc : Int) + off = (tgt : Int))
    (kt : 0 ≤ x → AW M d bc bs tgt L st σ z) (kf : ¬ (0 ≤ x) → AW M d bc bs (pc + 3) L st σ z) : AW M d bc bs pc L (av_i x :: st) σ z := by
  intro X p l e R s m args below meth c H locs cells slots Q ls C hc hs hH hS hL hE
  obtain ⟨hx, hb, hml, hown, hts, hret, hlk, hin, hdf, hdl, hok, hK, hG⟩ := id C
  exact lv_if_ge hx hb hd ht (fun h => kt h X p l e R s m args below meth c H locs cells slots Q ls C hc hs hH hS hL hE) (fun h => kf h X p l e R s m args below meth c H locs cells slots Q ls C hc hs hH hS hL hE)

theorem ax_if_gt {x : Int32} {off : Int} {tgt : Nat} (hd : decode M.2.1 pc = .ok (.ifCond .gt off, 3)) (ht : (pc : Int) + off = (tgt : Int))
    (kt : 0 < x → AW M d bc bs tgt L st σ z) (kf : ¬ (0 < x) → AW M d bc bs (pc + 3) L st σ z) : AW M d bc bs pc L (av_i x :: st) σ z := by
  intro X p l e R s m args below meth c H locs cells slots Q ls C hc hs hH hS hL hE
  obtain ⟨hx, hb, hml, hown, hts, hret, hlk, hin, hdf, hdl, hok, hK, hG⟩ := id C
  exact lv_if_gt hx hb hd ht (fun h => kt h X p l e R s m args below meth c H locs cells slots Q ls C hc hs hH hS hL hE) (fun h => kf h X p l e R s m args below meth c H locs cells slots Q ls C hc hs hH hS hL hE)

theorem ax_if_le {x : Int32} {off : Int} {tgt : Nat} (hd : decode M.2.1 pc = .ok (.ifCond .le off, 3)) (ht : (pc : Int) + off = (tgt : Int))
    (kt : x ≤ 0 → AW M d bc bs tgt L st σ z) (kf : ¬ (x ≤ 0) → AW M d bc bs (pc + 3) L st σ z) : AW M d bc bs pc L (av_i x :: st) σ z := by
  intro X p l e R s m args below meth c H locs cells slots Q ls C hc hs hH hS hL hE
  obtain ⟨hx, hb, hml, hown, hts, hret, hlk, hin, hdf, hdl, hok, hK, hG⟩ := id C
  exact lv_if_le hx hb hd ht (fun h => kt h X p l e R s m args below meth c H locs cells slots Q ls C hc hs hH hS hL hE) (fun h => kf h X p l e R s m args below meth c H locs cells slots Q ls C hc hs hH hS hL hE)

theorem ax_icmp_eq {x y : Int32} {off : Int} {tgt : Nat} (hd : decode M.2.1 pc = .ok (.if_icmp .eq off, 3)) (ht : (pc : Int) + off = (tgt : Int))
    (kt : x = y → AW M d bc bs tgt L st σ z) (kf : ¬ (x = y) → AW M d bc bs (pc + 3) L st σ z) : AW M d bc bs pc L (av_i y :: av_i x :: st) σ z := by
  intro X p l e R s m args below meth c H locs cells slots Q ls C hc hs hH hS hL hE
  obtain ⟨hx, hb, hml, hown, hts, hret, hlk, hin, hdf, hdl, hok, hK, hG⟩ := id C
  exact lv_icmp_eq hx hb hd ht (fun h => kt h X p l e R s m args below meth c H locs cells slots Q ls C hc hs hH hS hL hE) (fun h => kf h X p l e R s m args below meth c H locs cells slots Q ls C hc hs hH hS hL hE)

theorem ax_icmp_ne {x y : Int32} {off : Int} {tgt : Nat} (hd : decode M.2.1 pc = .ok (.if_icmp .ne off, 3)) (ht : (pc : Int) + off = (tgt : Int))
    (kt : ¬ x = y → AW M d bc bs tgt L st σ z) (kf : x = y → AW M d bc bs (pc + 3) L st σ z) : AW M d bc bs pc L (av_i y :: av_i x :: st) σ z := by
  intro X p l e R s m args below meth c H locs cells slots Q ls C hc hs hH hS hL hE
  obtain ⟨hx, hb, hml, hown, hts, hret, hlk, hin, hdf, hdl, hok, hK, hG⟩ := id C
  exact lv_icmp_ne hx hb hd ht (fun h => kt h X p l e R s m args below meth c H locs cells slots Q ls C hc hs hH hS hL hE) (fun h => kf h X p l e R s m args below meth c H locs cells slots Q ls C hc hs hH hS hL hE)

theorem ax_icmp_lt {x y : Int32} {off : Int} {tgt : Nat} (hd : decode M.2.1 pc = .ok (.if_icmp .lt off, 3)) (ht : (pc : Int) + off = (tgt : Int))
    (kt : x < y → AW M d bc bs tgt L st σ z) (kf : ¬ (x < y) → AW M d bc bs (pc + 3) L st σ z) : AW M d bc bs pc L (av_i y :: av_i x :: st) σ z := by
  intro X p l e R s m args below meth c H locs cells slots Q ls C hc hs hH hS hL hE
  obtain ⟨hx, hb, hml, hown, hts, hret, hlk, hin, hdf, hdl, hok, hK, hG⟩ := id C
  exact lv_icmp_lt hx hb hd ht (fun h => kt h X p l e R s m args below meth c H locs cells slots Q ls C hc hs hH hS hL hE) (fun h => kf h X p l e R s m args below meth c H locs cells slots Q ls C hc hs hH hS hL hE)

theorem ax_icmp_ge {x y : Int32} {off : Int} {tgt : Nat} (hd : decode M.2.1 pc = .ok (.if_icmp .ge off, 3)) (ht : (pc : Int) + off = (tgt : Int))
    (kt : y ≤ x → AW M d bc bs tgt L st σ z) (kf : ¬ (y ≤ x) → AW M d bc bs (pc + 3) L st σ z) : AW M d bc bs pc L (av_i y :: av_i x :: st) σ z := by
  intro X p l e R s m args below meth c H locs cells slots Q ls C hc hs hH hS hL hE
  obtain ⟨hx, hb, hml, hown, hts, hret, hlk, hin, hdf, hdl, hok, hK, hG⟩ := id C
  exact lv_icmp_ge hx hb hd ht (fun h => kt h X p l e R s m args below meth c H locs cells slots Q ls C hc hs hH hS hL hE) (fun h => kf h X p l e R s m args below meth c H locs cells slots Q ls C hc hs hH hS hL hE)

theorem ax_icmp_gt {x y : Int32} {off : Int} {tgt : Nat} (hd : decode M.2.1 pc = .ok (.if_icmp .gt off, 3)) (ht : (pc : Int) + off = (tgt : Int))
    (kt : y < x → AW M d bc bs tgt L st σ z) (kf : ¬ (y < x) → AW M d bc bs (pc + 3) L st σ z) : AW M d bc bs pc L (av_i y :: av_i x :: st) σ z := by
  intro X p l e R s m args below meth c H locs cells slots Q ls C hc hs hH hS hL hE
  obtain ⟨hx, hb, hml, hown, hts, hret, hlk, hin, hdf, hdl, hok, hK, hG⟩ := id C
  exact lv_icmp_gt hx hb hd ht (fun h => kt h X p l e R s m args below meth c H locs cells slots Q ls C hc hs hH hS hL hE) (fun h => kf h X p l e R s m args below meth c H locs cells slots Q ls C hc hs hH hS hL hE)

theorem ax_icmp_le {x y : Int32} {off : Int} {tgt : Nat} (hd : decode M.2.1 pc = .ok (.if_icmp .le off, 3)) (ht : (pc : Int) + off = (tgt : Int))
    (kt : x ≤ y → AW M d bc bs tgt L st σ z) (kf : ¬ (x ≤ y) → AW M d bc bs (pc + 3) L st σ z) : AW M d bc bs pc L (av_i y :: av_i x :: st) σ z := by
  intro X p l e R s m args below meth c H locs cells slots Q ls C hc hs hH hS hL hE
  obtain ⟨hx, hb, hml, hown, hts, hret, hlk, hin, hdf, hdl, hok, hK, hG⟩ := id C
  exact lv_icmp_le hx hb hd ht (fun h => kt h X p l e R s m args below meth c H locs cells slots Q ls C hc hs hH hS hL hE) (fun h => kf h X p l e R s m args below meth c H locs cells slots Q ls C hc hs hH hS hL hE)

theorem ax_goto {off : Int} {tgt : Nat} (hd : decode M.2.1 pc = .ok (.goto off, 3)) (ht : (pc : Int) + off = (tgt : Int)) (kk : AW M d bc bs tgt L st σ z) : AW M d bc bs pc L st σ z := by
  intro X p l e R s m args below meth c H locs cells slots Q ls C hc hs hH hS hL hE
  obtain ⟨hx, hb, hml, hown, hts, hret, hlk, hin, hdf, hdl, hok, hK, hG⟩ := id C
  exact lv_goto hx hb hd ht (kk X p l e R s m args below meth c H locs cells slots Q ls C hc hs hH hS hL hE)
theorem ax_ifnull {r : Option Nat} {off : Int} {tgt : Nat} (hd : decode M.2.1 pc = .ok (.ifnull off, 3)) (ht : (pc : Int) + off = (tgt : Int)) (kt : r = none → AW M d bc bs tgt L st σ z) (kf : ¬ (r = none) → AW M d bc bs (pc + 3) L st σ z) : AW M d bc bs pc L (av_r r :: st) σ z := by
  intro X p l e R s m args below meth c H locs cells slots Q ls C hc hs hH hS hL hE
  obtain ⟨hx, hb, hml, hown, hts, hret, hlk, hin, hdf, hdl, hok, hK, hG⟩ := id C
  cases r with
  | none => exact lv_ifnullN hx hb hd ht (kt rfl X p l e R s m args below meth c H locs cells slots Q ls C hc hs hH hS hL hE)
  | some q => exact lv_ifnull hx hb hd (kf (fun h => by cases h) X p l e R s m args below meth c H locs cells slots Q ls C hc hs hH hS hL hE)
theorem ax_ifnonnull {r : Option Nat} {off : Int} {tgt : Nat} (hd : decode M.2.1 pc = .ok (.ifnonnull off, 3)) (ht : (pc : Int) + off = (tgt : Int)) (kt : ¬ (r = none) → AW M d bc bs tgt L st σ z) (kf : ¬ ¬ (r = none) → AW M d bc bs (pc + 3) L st σ z) : AW M d bc bs pc L (av_r r :: st) σ z := by
  intro X p l e R s m args below meth c H locs cells slots Q ls C hc hs hH hS hL hE
  obtain ⟨hx, hb, hml, hown, hts, hret, hlk, hin, hdf, hdl, hok, hK, hG⟩ := id C
  cases r with
  | none => exact lv_ifnonnullN hx hb hd (kf (fun h => h rfl) X p l e R s m args below meth c H locs cells slots Q ls C hc hs hH hS hL hE)
  | some q => exact lv_ifnonnull hx hb hd ht (kt (fun h => by cases h) X p l e R s m args below meth c H locs cells slots Q ls C hc hs hH hS hL hE)
theorem ax_swOut {dflt lo hi : Int} {offs : Array Int} {len : Nat} {x : Int32} {tgt : Nat} (hd : decode M.2.1 pc = .ok (.tableswitch dflt lo hi offs, len)) (h : x.toInt < lo ∨ hi < x.toInt) (ht : (pc : Int) + dflt = (tgt : Int)) (kk : AW M d bc bs tgt L st σ z) : AW M d bc bs pc L (av_i x :: st) σ z := by
  intro X p l e R s m args below meth c H locs cells slots Q ls C hc hs hH hS hL hE
  obtain ⟨hx, hb, hml, hown, hts, hret, hlk, hin, hdf, hdl, hok, hK, hG⟩ := id C
  exact lv_tableOut hx hb hd h ht (kk X p l e R s m args below meth c H locs cells slots Q ls C hc hs hH hS hL hE)
theorem ax_swIn {dflt lo hi : Int} {offs : Array Int} {len : Nat} {x : Int32} {off : Int} {tgt : Nat} (hd : decode M.2.1 pc = .ok (.tableswitch dflt lo hi offs, len)) (h1 : ¬ x.toInt < lo) (h2 : ¬ hi < x.toInt) (ho : offs[(x.toInt - lo).toNat]? = some off) (ht : (pc : Int) + off = (tgt : Int)) (kk : AW M d bc bs tgt L st σ z) : AW M d bc bs pc L (av_i x :: st) σ z := by
  intro X p l e R s m args below meth c H locs cells slots Q ls C hc hs hH hS hL hE
  obtain ⟨hx, hb, hml, hown, hts, hret, hlk, hin, hdf, hdl, hok, hK, hG⟩ := id C
  exact lv_tableIn hx hb hd h1 h2 ho ht (kk X p l e R s m args below meth c H locs cells slots Q ls C hc hs hH hS hL hE)
/-- fewer known locals -/
def ax_sub : List (Option ax_V) → List (Option ax_V) → Prop
  | [], _ => True
  | none :: t, u => ax_sub t u.tail
  | some v :: t, u => u.head? = some (some v) ∧ ax_sub t u.tail
theorem ax_sub_at : ∀ {A B : List (Option ax_V)}, ax_sub A B → ∀ (i : Nat) (v : ax_V), A[i]? = some (some v) → B[i]? = some (some v)
  | [], _, _, i, v, h => by simp at h
  | none :: t, B, hs, i, v, h => by
    cases i with
    | zero => simp at h
    | succ j =>
      have h1 := ax_sub_at (A := t) (B := B.tail) hs j v h
      cases B with
      | nil => simp at h1
      | cons w u => exact h1
  | some a :: t, B, hs, i, v, h => by
    obtain ⟨h0, h2⟩ := hs
    cases B with
    | nil => simp at h0
    | cons w u =>
      cases i with
      | zero =>
        rw [List.getElem?_cons_zero] at h ⊢
        cases h
        exact h0
      | succ j => exact ax_sub_at (A := t) (B := u) h2 j v h
theorem ax_less {L' : List (Option ax_V)} (h : ax_sub L' L) (kk : AW M d bc bs pc L' st σ z) : AW M d bc bs pc L st σ z := by
  intro X p l e R s m args below meth c H locs cells slots Q ls C hc hs hH hS hL hE
  obtain ⟨hx, hb, hml, hown, hts, hret, hlk, hin, hdf, hdl, hok, hK, hG⟩ := id C
  exact kk X p l e R s m args below meth c H locs cells slots Q ls C hc hs hH hS ⟨hL.1, hL.2.1, fun i v hv => hL.2.2 i v (ax_sub_at h i v hv)⟩ hE
theorem ax_at_pc {pc2 : Nat} (h : pc2 = pc) (kk : AW M d bc bs pc2 L st σ z) : AW M d bc bs pc L st σ z := h ▸ kk
/-- a smaller room is enough -/
theorem ax_wide {bc2 bs2 : Nat} (h1 : bc2 ≤ bc) (h2 : bs2 ≤ bs) (kk : AW M d bc2 bs2 pc L st σ z) : AW M d bc bs pc L st σ z := by
  intro X p l e R s m args below meth c H locs cells slots Q ls C hc hs hH hS hL hE
  obtain ⟨hx, hb, hml, hown, hts, hret, hlk, hin, hdf, hdl, hok, hK, hG⟩ := id C
  exact kk X p l e R s m args below meth c H locs cells slots Q ls C (by omega) (by omega) hH hS hL hE
/-- the end -/
theorem ax_ret (hd : decode M.2.1 pc = .ok (ax_ri M.2.2.1, 1)) (h : (st, σ) = (z.1.toList, z.2)) : AW M d bc bs pc L st σ z := by
  intro X p l e R s m args below meth c H locs cells slots Q ls C hc hs hH hS hL hE
  obtain ⟨hx, hb, hml, hown, hts, hret, hlk, hin, hdf, hdl, hok, hK, hG⟩ := id C
  cases h
  exact W.widen (by omega) (by omega) (hE pc ls H locs hH hS hd)
/-- a store into a local, the locals as they are then -/
def ax_bd {α β : Type} (x : α) (f : α → β) : β := f x
theorem ax_bdI {ρ : Type} {q : ρ} {e : Int32} {f : Int32 → Option ρ} (h : ax_bd e f = some q) (kk : ∀ x : Int32, f x = some q → AW M d bc bs pc L (av_i x :: st) σ z) : AW M d bc bs pc L (av_i e :: st) σ z := kk e h
theorem ax_bdL {ρ : Type} {q : ρ} {e : Int64} {f : Int64 → Option ρ} (h : ax_bd e f = some q) (kk : ∀ x : Int64, f x = some q → AW M d bc bs pc L (av_l x :: st) σ z) : AW M d bc bs pc L (av_l e :: st) σ z := kk e h
theorem ax_bdR {ρ : Type} {q : ρ} {e : Option Nat} {f : Option Nat → Option ρ} (h : ax_bd e f = some q) (kk : ∀ x : Option Nat, f x = some q → AW M d bc bs pc L (av_r x :: st) σ z) : AW M d bc bs pc L (av_r e :: st) σ z := kk e h
theorem ax_bdS {ρ : Type} {q : ρ} {e : ax_S} {f : ax_S → Option ρ} (h : ax_bd e f = some q) (kk : ∀ x : ax_S, f x = some q → AW M d bc bs pc L st x z) : AW M d bc bs pc L st e z := kk e h
theorem ax_no {ρ : Type} {q : ρ} {P : Prop} (h : (none : Option ρ) = some q) : P := by cases h
theorem ax_reti {x : Int32} {q : Int32 × ax_S} (hd : decode M.2.1 pc = .ok (ax_ri M.2.2.1, 1)) (h : some (x, σ) = some q) : AW M d bc bs pc L [av_i x] σ (some (av_i q.1), q.2) := by
  cases h
  exact ax_ret hd rfl
theorem ax_retl {x : Int64} {q : Int64 × ax_S} (hd : decode M.2.1 pc = .ok (ax_ri M.2.2.1, 1)) (h : some (x, σ) = some q) : AW M d bc bs pc L [av_l x] σ (some (av_l q.1), q.2) := by
  cases h
  exact ax_ret hd rfl
theorem ax_retr {x : Option Nat} {q : Option Nat × ax_S} (hd : decode M.2.1 pc = .ok (ax_ri M.2.2.1, 1)) (h : some (x, σ) = some q) : AW M d bc bs pc L [av_r x] σ (some (av_r q.1), q.2) := by
  cases h
  exact ax_ret hd rfl
theorem ax_retv {q : ax_S} (hd : decode M.2.1 pc = .ok (ax_ri M.2.2.1, 1)) (h : some σ = some q) : AW M d bc bs pc L [] σ (none, q) := by
  cases h
  exact ax_ret hd rfl
theorem ax_swC {dflt lo hi : Int} {offs : Array Int} {len : Nat} {x v : Int32} {c off : Int} {tgt : Nat} (hd : decode M.2.1 pc = .ok (.tableswitch dflt lo hi offs, len)) (hxv : x = v) (hv : v.toInt = c) (h1 : lo ≤ c) (h2 : c ≤ hi) (ho : offs[(c - lo).toNat]? = some off) (ht : (pc : Int) + off = (tgt : Int)) (kk : AW M d bc bs tgt L st σ z) : AW M d bc bs pc L (av_i x :: st) σ z := by
  subst hxv
  subst hv
  exact ax_swIn hd (by omega) (by omega) ho ht kk
theorem ax_swD {dflt lo hi : Int} {offs : Array Int} {len : Nat} {x : Int32} {tgt : Nat} (hd : decode M.2.1 pc = .ok (.tableswitch dflt lo hi offs, len)) (hall : ∀ c : Int, lo ≤ c → c ≤ hi → offs[(c - lo).toNat]? = some dflt ∨ x ≠ Int32.ofInt c) (ht : (pc : Int) + dflt = (tgt : Int)) (kk : AW M d bc bs tgt L st σ z) : AW M d bc bs pc L (av_i x :: st) σ z := by
  by_cases h1 : x.toInt < lo ∨ hi < x.toInt
  · exact ax_swOut hd h1 ht kk
  · rcases hall x.toInt (by omega) (by omega) with h | h
    · exact ax_swIn hd (by omega) (by omega) h ht kk
    · exact absurd (Int32.ofInt_toInt x).symm h
theorem ax_ne_of {x : Int32} {u : Unit} (h : (if x = 0 then none else some ()) = some u) : ¬ x = 0 := by
  intro e
  rw [if_pos e] at h
  cases h
end AXR
end
section
/-! ===== the store's own operations, and the heap's rules ===== -/
def ax_u2 {α : Type} (f : Nat → Nat → α) (a k : Nat) (x : α) : Nat → Nat → α := fun b j => if b = a ∧ j = k then x else f b j
theorem ax_u2_ne {α : Type} {f : Nat → Nat → α} {a k b : Nat} {x : α} (h : b ≠ a) (j : Nat) : ax_u2 f a k x b j = f b j := if_neg (fun q => h q.1)
theorem ax_u2_nk {α : Type} {f : Nat → Nat → α} {a k b j : Nat} {x : α} (h : j ≠ k) : ax_u2 f a k x b j = f b j := if_neg (fun q => h q.2)
theorem ax_u2_self {α : Type} {f : Nat → Nat → α} {a k : Nat} {x : α} : ax_u2 f a k x a k = x := if_pos ⟨rfl, rfl⟩
/-- the address of an object or array of a kind, and its length -/
def ax_sh (σ : ax_S) (t : Nat) (r : Option Nat) : Option (Nat × Nat) := match r with
  | none => none
  | some a => match σ.1[a]? with
    | none => none
    | some q => if q.1 = t then some (a, q.2) else none
theorem ax_sh_of {σ : ax_S} {t : Nat} {r : Option Nat} {a n : Nat} (h : ax_sh σ t r = some (a, n)) : r = some a ∧ σ.1[a]? = some (t, n) := by
  unfold ax_sh at h
  cases r with
  | none => simp at h
  | some b =>
    simp only at h
    split at h
    · cases h
    · rename_i q hq
      split at h
      · rename_i hqt
        cases h
        refine ⟨rfl, ?_⟩
        rw [hq, ← hqt]
      · cases h
/-- is it an object of this kind? -/
def ax_ck (σ : ax_S) (t : Nat) (r : Option Nat) : Option Unit := (ax_sh σ t r).map (fun _ => ())
def ax_gi (σ : ax_S) (t k : Nat) (r : Option Nat) : Option Int32 := (ax_sh σ t r).map (fun q => σ.2.1 q.1 k)
def ax_gr (σ : ax_S) (t k : Nat) (r : Option Nat) : Option (Option Nat) := (ax_sh σ t r).map (fun q => σ.2.2 q.1 k)
def ax_pi (σ : ax_S) (t k : Nat) (r : Option Nat) (x : Int32) : Option ax_S := (ax_sh σ t r).map (fun q => (σ.1, ax_u2 σ.2.1 q.1 k x, σ.2.2))
def ax_pr (σ : ax_S) (t k : Nat) (r v : Option Nat) : Option ax_S := (ax_sh σ t r).map (fun q => (σ.1, σ.2.1, ax_u2 σ.2.2 q.1 k v))
def ax_01 (x : Int32) : Option Int32 := if x = 0 ∨ x = 1 then some x else none
def ax_ne (x : Int32) : Option Unit := if x = 0 then none else some ()
/-- an array's place -/
def ax_ix (σ : ax_S) (t : Nat) (r : Option Nat) (i : Int32) : Option (Nat × Nat) := (ax_sh σ t r).bind (fun q => if i < 0 ∨ q.2 ≤ i.toNatClampNeg then none else some (q.1, i.toNatClampNeg))
def ax_al (σ : ax_S) (t : Nat) (r : Option Nat) (i : Int32) : Option Int32 := (ax_ix σ t r i).map (fun q => σ.2.1 q.1 q.2)
def ax_ar (σ : ax_S) (t : Nat) (r : Option Nat) (i : Int32) : Option (Option Nat) := (ax_ix σ t r i).map (fun q => σ.2.2 q.1 q.2)
def ax_as (σ : ax_S) (t : Nat) (r : Option Nat) (i x : Int32) : Option ax_S := (ax_ix σ t r i).bind (fun q => if q.1 < 9 then none else some (σ.1, ax_u2 σ.2.1 q.1 q.2 x, σ.2.2))
def ax_aw (σ : ax_S) (t : Nat) (r : Option Nat) (i : Int32) (v : Option Nat) : Option ax_S := (ax_ix σ t r i).bind (fun q => if q.1 < 9 then none else (ax_sh σ (t - 10) v).bind (fun _ => some (σ.1, σ.2.1, ax_u2 σ.2.2 q.1 q.2 v)))
def ax_ln (σ : ax_S) (t : Nat) (r : Option Nat) : Option Int32 := (ax_sh σ t r).map (fun q => Int32.ofNat q.2)
/-- a new cell -/
def ax_nw (σ : ax_S) (t n : Nat) : ax_S := (σ.1 ++ [(t, n)], (fun a k => if a = σ.1.length then 0 else σ.2.1 a k), (fun a k => if a = σ.1.length then none else σ.2.2 a k))
/-- System.arraycopy between two int arrays that differ -/
def ax_cy (σ : ax_S) (r : Option Nat) (sp : Int32) (w : Option Nat) (dp n : Int32) : Option ax_S :=
  (ax_sh σ 9 r).bind (fun q => (ax_sh σ 9 w).bind (fun u =>
    if u.1 < 9 ∨ q.1 < 9 ∨ q.1 = u.1 ∨ sp < 0 ∨ dp < 0 ∨ n < 0 ∨ q.2 < sp.toNatClampNeg + n.toNatClampNeg ∨ u.2 < dp.toNatClampNeg + n.toNatClampNeg then none
    else some (σ.1, (fun a k => if a = u.1 then va_cpy (σ.2.1 q.1) (σ.2.1 u.1) sp.toNatClampNeg dp.toNatClampNeg n.toNatClampNeg k else σ.2.1 a k), σ.2.2)))
theorem ax_ρ_ne {X : ax_X} (hok : ax_ok X) {a b : Nat} (ha : 9 ≤ a) (h : b ≠ a) : ax_ρ X b ≠ ax_ρ X a := by
  rw [hok.1 a ha]
  by_cases hb : 9 ≤ b
  · rw [hok.1 b hb]
    omega
  · have := hok.2 b (by omega)
    omega
theorem ax_ρ_A {X : ax_X} (hok : ax_ok X) {a : Nat} (ha : 9 ≤ a) : ax_A X (ax_ρ X a) := by
  show ax_b X ≤ _
  rw [hok.1 a ha]
  omega
theorem ax_at.kept {X : ax_X} {σ σ' : ax_S} {H H' : Heap} {b t n : Nat} (h : ax_at X σ H b t n) (hH : H'[ax_ρ X b]? = H[ax_ρ X b]?) (hi : ∀ k, σ'.2.1 b k = σ.2.1 b k) (hr : ∀ k, σ'.2.2 b k = σ.2.2 b k) : ax_at X σ' H' b t n := by
  have hsv : ∀ k, ax_sv σ' t b k = ax_sv σ t b k := fun k => by simp only [ax_sv, hi, hr]
  unfold ax_at at h ⊢
  split
  · rename_i h7
    rw [if_pos h7] at h
    obtain ⟨e, h1, h2, h3, h4⟩ := h
    exact ⟨e, hH.trans h1, h2, h3, fun j hj => by rw [hsv]; exact h4 j hj⟩
  · rename_i h7
    rw [if_neg h7] at h
    split
    · rename_i h8
      rwa [if_pos h8] at h
    · rename_i h8
      rw [if_neg h8] at h
      split
      · rename_i ht
        rw [if_pos ht] at h
        obtain ⟨r, h1, h2, h3⟩ := h
        exact ⟨r, h1, h2, (h3.kept hH).to (fun k _ => by rw [hsv])⟩
      · rename_i ht
        rw [if_neg ht] at h
        refine ⟨h.1, hH.trans (h.2.trans ?_)⟩
        congr 2
        funext j
        rw [hsv]
theorem ax_H.upd {X : ax_X} {σ σ' : ax_S} {H H' : Heap} {a : Nat} (hok : ax_ok X) (h : ax_H X σ H) (ha : 9 ≤ a) (hsh : σ'.1 = σ.1) (hz : H'.size = H.size) (ho : ∀ q : Nat, q ≠ ax_ρ X a → H'[q]? = H[q]?)
    (hi : ∀ b, b ≠ a → ∀ k, σ'.2.1 b k = σ.2.1 b k) (hr : ∀ b, b ≠ a → ∀ k, σ'.2.2 b k = σ.2.2 b k) (hat : ∀ t n, σ.1[a]? = some (t, n) → ax_at X σ' H' a t n) : ax_H X σ' H' := by
  refine ⟨by rw [hsh]; exact h.1, by rw [hz, hsh]; exact h.2.1, fun b t n hb => ?_⟩
  rw [hsh] at hb
  by_cases hba : b = a
  · subst hba
    exact hat t n hb
  · exact (h.2.2 b t n hb).kept (ho _ (ax_ρ_ne hok ha hba)) (hi b hba) (hr b hba)
/-- an object's cell -/
theorem ax_at_obj {X : ax_X} {σ : ax_S} {H : Heap} {a t n : Nat} (h : ax_at X σ H a t n) (ht : t < 8) : 9 ≤ a ∧ ∃ r : vw_C, vwCl[t]? = some r ∧ n = r.2.2 ∧ t_OB (ax_ρ X a) (X.1.1 t) r.2.2 (X.1.2 t) H (fun k => ax_cv (ax_ρ X) (ax_sv σ t a k)) := by
  unfold ax_at at h
  split at h
  · obtain ⟨e, -⟩ := h
    split at e <;> omega
  · split at h
    · omega
    · refine ⟨by omega, ?_⟩
      first | exact h | rwa [if_pos ht] at h
/-- an array's cell -/
theorem ax_at_arr {X : ax_X} {s : State} {σ : ax_S} {H : Heap} {a t n : Nat} (hK : ax_K X s) (h : ax_at X σ H a t n) (h8 : 8 ≤ t) (h14 : t < 14) : ∃ cell : Cell, H[ax_ρ X a]? = some cell ∧ s.isArrayOf cell (ax_ty t 0) ∧ cell.vm ≠ .unknown ∧ cell.slots.size = n ∧ (∀ j : Nat, j < n → cell.slots[j]? = some (ax_cv (ax_ρ X) (ax_sv σ t a j))) ∧ (9 ≤ a → cell = arrV (X.2.1 t) n (fun j => ax_cv (ax_ρ X) (ax_sv σ t a j))) := by
  unfold ax_at at h
  split at h
  · rename_i h7
    obtain ⟨e, h1, h2, h3, h4⟩ := h
    have hof := hK.2.2.1 a h7
    have e2 : ax_ty t 0 = if a = 7 then .byte else .int := by
      rw [e]
      split <;> rfl
    exact ⟨_, h1, by rw [e2]; exact hof, h3, h2, h4, fun q => by omega⟩
  · split at h
    · omega
    · rw [if_neg (by omega)] at h
      exact ⟨_, h.2, (hK.2.1 t h8 h14).1 n _, (fun q => by cases q), arrV_size _ _ _, fun j hj => arrV_read _ _ hj, fun _ => rfl⟩
theorem ax_isI_0 {t : Nat} (h8 : 8 ≤ t) (k : Nat) : ax_isI t k = ax_isI t 0 := by
  have : ax_ty t k = ax_ty t 0 := by
    unfold ax_ty
    split <;> first | omega | rfl
  unfold ax_isI
  rw [this]
theorem ax_S_put {X : ax_X} {H0 H H1 : Heap} {locs : List Loc} {a k : Nat} (hok : ax_ok X) (h : va_S (ax_A X) H0 H locs) (ha : 9 ≤ a) (z : H1.size = H.size) (oq : ∀ q : Nat, q ≠ ax_ρ X a → H1[q]? = H[q]?) : va_S (ax_A X) H0 H1 (locs ++ [⟨ax_ρ X a, k⟩]) := h.put z oq (ax_ρ_A hok ha)
theorem ax_ix_of {σ : ax_S} {t : Nat} {r : Option Nat} {i : Int32} {q : Nat × Nat} (h : ax_ix σ t r i = some q) : ∃ n, r = some q.1 ∧ σ.1[q.1]? = some (t, n) ∧ ¬ (i < 0 ∨ n ≤ i.toNatClampNeg) ∧ q.2 = i.toNatClampNeg := by
  unfold ax_ix at h
  obtain ⟨⟨a, n⟩, h1, h2⟩ := Option.bind_eq_some_iff.mp h
  split at h2
  · cases h2
  · rename_i hc
    cases h2
    obtain ⟨e1, e2⟩ := ax_sh_of h1
    exact ⟨n, e1, e2, hc, rfl⟩
end
section
/-! ===== rules over the heap ===== -/
theorem ax_in_cl (ws : List Cond) (h : ws.all (fun w => decide (w ∈ lw_tbl) && goodWord w) = true) : ∀ w ∈ ws, w ∈ ax_WS := by
  intro w hw
  have h1 := List.all_eq_true.mp h w hw
  simp only [Bool.and_eq_true, decide_eq_true_eq] at h1
  exact List.mem_filter.mpr h1
theorem ax_cl0 : ∀ w ∈ u_ws RX0 TX0 8, w ∈ ax_WS := ax_in_cl _ (by decide +kernel)
theorem ax_cl1 : ∀ w ∈ u_ws RX1 TX1 5, w ∈ ax_WS := ax_in_cl _ (by decide +kernel)
theorem ax_cl2 : ∀ w ∈ u_ws RX3 TX3 5, w ∈ ax_WS := ax_in_cl _ (by decide +kernel)
theorem ax_cl3 : ∀ w ∈ u_ws RX5 TX5 4, w ∈ ax_WS := ax_in_cl _ (by decide +kernel)
theorem ax_cl4 : ∀ w ∈ u_ws RX6 TX6 7, w ∈ ax_WS := ax_in_cl _ (by decide +kernel)
theorem ax_cl5 : ∀ w ∈ u_ws RX8 TX8 2, w ∈ ax_WS := ax_in_cl _ (by decide +kernel)
theorem ax_cl6 : ∀ w ∈ u_ws RX9 TX9 6, w ∈ ax_WS := ax_in_cl _ (by decide +kernel)
theorem ax_cl7 : ∀ w ∈ u_ws RX10 TX10 28, w ∈ ax_WS := ax_in_cl _ (by decide +kernel)
/-- what the tables say of a class of objects -/
theorem ax_cls {t : Nat} {q : vw_C} (h : vwCl[t]? = some q) : (∀ w ∈ u_ws q.1 q.2.1 q.2.2, w ∈ ax_WS) ∧ (∀ k, k < q.2.2 → parseFieldDescriptor (q.2.1 k).2.2.1 = some (ax_ty t k)) ∧ (∀ a, a < q.2.2 → ∀ b, b < q.2.2 → a ≠ b → (q.2.1 a).2.1 ≠ (q.2.1 b).2.1) := by
  match t, h with
  | 0, h => cases h; exact ⟨ax_cl0, tyX0_ok, nmX0⟩
  | 1, h => cases h; exact ⟨ax_cl1, tyX1_ok, nmX1⟩
  | 2, h => cases h; exact ⟨ax_cl2, tyX3_ok, nmX3⟩
  | 3, h => cases h; exact ⟨ax_cl3, tyX5_ok, nmX5⟩
  | 4, h => cases h; exact ⟨ax_cl4, tyX6_ok, nmX6⟩
  | 5, h => cases h; exact ⟨ax_cl5, tyX8_ok, nmX8⟩
  | 6, h => cases h; exact ⟨ax_cl6, tyX9_ok, nmX9⟩
  | 7, h => cases h; exact ⟨ax_cl7, tyX10_ok, nmX10⟩
  | t + 8, h => simp [vwCl] at h
section AXH
variable {M : ax_M} {d bc bs pc : Nat} {L : List (Option ax_V)} {st : List ax_V} {σ σ1 : ax_S} {z : Option ax_V × ax_S}
theorem ax_getI {index t k : Nat} {q : vw_C} {r : Option Nat} {x : Int32} (hd : decode M.2.1 pc = .ok (.getfield index, 3)) (hc : vwCl[t]? = some q) (hk : k < q.2.2) (hw : Cond.fieldLink M.1 index (q.2.1 k).1 (q.2.1 k).2.1 (q.2.1 k).2.2.1 ∈ ax_WS) (hI : ax_isI t k = true) (h : ax_gi σ t k r = some x)
    (kk : AW M d bc bs (pc + 3) L (av_i x :: st) σ z) : AW M d bc bs pc L (av_r r :: st) σ z := by
  intro X p l e R s m args below meth c H locs cells slots Q ls C hcs hs hH hS hL hE
  obtain ⟨hx, hb, hml, hown, hts, hret, hlk, hin, hdf, hdl, hok, hK, hG⟩ := id C
  obtain ⟨⟨a, n⟩, h1, h2⟩ := Option.map_eq_some_iff.mp h
  subst h2
  obtain ⟨rfl, hsh⟩ := ax_sh_of h1
  have ht : t < 8 := (List.getElem?_eq_some_iff.mp hc).1
  obtain ⟨h8, q', hc', -, cell, q1, q2, q3, q4⟩ := ax_at_obj (hH.2.2 a t n hsh) ht
  cases hc.symm.trans hc'
  obtain ⟨hcl, hty, hnm⟩ := ax_cls hc
  have hts' : ∀ w ∈ u_ws q.1 q.2.1 q.2.2, w.before args s = true := fun w hw => hts w (hcl w hw)
  obtain ⟨hSl, hfc, kC, hkC, hkind⟩ := hK.1.1 t _ hc
  obtain ⟨cf, kf, fi, f, hi, hsl⟩ := hSl k hk
  have hv : cell.slots[f.slot]? = some (.int (σ.2.1 a k)) := by
    rw [hsl, q4 k hk]
    simp only [ax_sv, hI, if_true]
    rfl
  exact W.getf hx hb hown (hts _ hw) hi (u_facts hfc hkC (u_lays hts' (fun w h => h) hk) hi).1 q1 (by rw [q3]; exact fun h => by cases h) hv rfl rfl hd (kk X p l e R s m args below meth c H locs cells slots Q ls C hcs hs hH hS hL hE)
theorem ax_getR {index t k : Nat} {q : vw_C} {r x : Option Nat} (hd : decode M.2.1 pc = .ok (.getfield index, 3)) (hc : vwCl[t]? = some q) (hk : k < q.2.2) (hw : Cond.fieldLink M.1 index (q.2.1 k).1 (q.2.1 k).2.1 (q.2.1 k).2.2.1 ∈ ax_WS) (hI : ax_isI t k = false) (h : ax_gr σ t k r = some x)
    (kk : AW M d bc bs (pc + 3) L (av_r x :: st) σ z) : AW M d bc bs pc L (av_r r :: st) σ z := by
  intro X p l e R s m args below meth c H locs cells slots Q ls C hcs hs hH hS hL hE
  obtain ⟨hx, hb, hml, hown, hts, hret, hlk, hin, hdf, hdl, hok, hK, hG⟩ := id C
  obtain ⟨⟨a, n⟩, h1, h2⟩ := Option.map_eq_some_iff.mp h
  subst h2
  obtain ⟨rfl, hsh⟩ := ax_sh_of h1
  have ht : t < 8 := (List.getElem?_eq_some_iff.mp hc).1
  obtain ⟨h8, q', hc', -, cell, q1, q2, q3, q4⟩ := ax_at_obj (hH.2.2 a t n hsh) ht
  cases hc.symm.trans hc'
  obtain ⟨hcl, hty, hnm⟩ := ax_cls hc
  have hts' : ∀ w ∈ u_ws q.1 q.2.1 q.2.2, w.before args s = true := fun w hw => hts w (hcl w hw)
  obtain ⟨hSl, hfc, kC, hkC, hkind⟩ := hK.1.1 t _ hc
  obtain ⟨cf, kf, fi, f, hi, hsl⟩ := hSl k hk
  have hv : cell.slots[f.slot]? = some (ax_cv (ax_ρ X) (av_r (σ.2.2 a k))) := by
    rw [hsl, q4 k hk]
    simp only [ax_sv, hI]
    rfl
  exact W.getf hx hb hown (hts _ hw) hi (u_facts hfc hkC (u_lays hts' (fun w h => h) hk) hi).1 q1 (by rw [q3]; exact fun h => by cases h) hv rfl rfl hd (kk X p l e R s m args below meth c H locs cells slots Q ls C hcs hs hH hS hL hE)
/-- the object's cell behind a write -/
theorem ax_at_put {X : ax_X} {σ σ' : ax_S} {H' : Heap} {cell : Cell} {a t k : Nat} {q : vw_C} {v : ax_V} (h8 : 9 ≤ a) (ht : t < 8) (hc : vwCl[t]? = some q) (hk : k < q.2.2) (hap : ∀ x y, x < q.2.2 → y < q.2.2 → x ≠ y → X.1.2 t x ≠ X.1.2 t y) (q2 : cell.cls = X.1.1 t) (q3 : cell.vm = .none) (q4 : ∀ j, j < q.2.2 → cell.slots[X.1.2 t j]? = some (ax_cv (ax_ρ X) (ax_sv σ t a j)))
    (e1 : H'[ax_ρ X a]? = some (cell.setSlot (X.1.2 t k) (ax_cv (ax_ρ X) v))) (hv : ∀ j, j < q.2.2 → ax_sv σ' t a j = if j = k then v else ax_sv σ t a j) : ax_at X σ' H' a t q.2.2 := by
  unfold ax_at
  rw [if_neg (by omega), if_neg (by omega), if_pos ht]
  refine ⟨q, hc, rfl, t_OB.to (V := updV (fun j => ax_cv (ax_ρ X) (ax_sv σ t a j)) k (ax_cv (ax_ρ X) v)) ⟨_, e1, q2, q3, t_set q4 hap hk _⟩ (fun j hj => ?_)⟩
  rw [hv j hj]
  unfold updV
  split <;> rfl
theorem ax_putI {index t k : Nat} {q : vw_C} {r : Option Nat} {x : Int32} (hd : decode M.2.1 pc = .ok (.putfield index, 3)) (hc : vwCl[t]? = some q) (hk : k < q.2.2) (hw : Cond.fieldLink M.1 index (q.2.1 k).1 (q.2.1 k).2.1 (q.2.1 k).2.2.1 ∈ ax_WS) (hI : ax_isI t k = true) (hfin : (q.2.1 k).2.2.2 = false) (hfit : narrow (ax_ty t k) (.int x) = .int x ∧ fits (ax_ty t k) (.int x) = true) (h : ax_pi σ t k r x = some σ1)
    (kk : AW M d bc bs (pc + 3) L st σ1 z) : AW M d bc bs pc L (av_i x :: av_r r :: st) σ z := by
  intro X p l e R s m args below meth c H locs cells slots Q ls C hcs hs hH hS hL hE
  obtain ⟨hx, hb, hml, hown, hts, hret, hlk, hin, hdf, hdl, hok, hK, hG⟩ := id C
  obtain ⟨⟨a, n⟩, h1, h2⟩ := Option.map_eq_some_iff.mp h
  subst h2
  obtain ⟨rfl, hsh⟩ := ax_sh_of h1
  have ht : t < 8 := (List.getElem?_eq_some_iff.mp hc).1
  obtain ⟨h8, q', hc', hn, cell, q1, q2, q3, q4⟩ := ax_at_obj (hH.2.2 a t n hsh) ht
  cases hc.symm.trans hc'
  obtain ⟨hcl, hty, hnm⟩ := ax_cls hc
  have hts' : ∀ w ∈ u_ws q.1 q.2.1 q.2.2, w.before args s = true := fun w hw => hts w (hcl w hw)
  have hap := va_apart (own := M.1) hts' (fun w h => h) _ hty hnm hK.1 hc
  obtain ⟨hSl, hfc, kC, hkC, hkind⟩ := hK.1.1 t _ hc
  obtain ⟨cf, kf, fi, f, hi, hsl⟩ := hSl k hk
  have hlay := hts' _ (u_in_lay hk)
  unfold u_lay at hlay
  rw [if_neg (by rw [hfin]; decide)] at hlay
  have hst := (u_facts hfc hkC (u_lays hts' (fun w h => h) hk) hi).1
  have h6 := u_store hfc hkC hkind hlay hi (hty k hk) hfit.1 hfit.2
  refine W.putK hx hb (f := f) ⟨hown, hts _ hw, ⟨_, _, _, hi⟩, hst⟩ (by rw [q2]; exact h6) q1 q3 (by rw [hsl]; exact k2_hasslot (q4 k hk)) rfl rfl hd fun H' e1 e2 e3 => ?_
  rw [hsl] at e1 ⊢
  refine kk X p l e R s m args below meth c H' _ cells slots Q ls C hcs hs (hH.upd hok h8 rfl e2 e3 (fun b hb k' => ax_u2_ne hb k') (fun b hb k' => rfl) (fun t' n' hsh' => ?_)) (ax_S_put hok hS h8 e2 e3) hL hE
  cases hsh.symm.trans hsh'
  subst hn
  refine ax_at_put (v := av_i x) h8 ht hc hk hap q2 q3 q4 e1 (fun j hj => ?_)
  by_cases hjk : j = k
  · subst hjk
    simp [ax_sv, hI, ax_u2_self]
  · rw [if_neg hjk]
    simp only [ax_sv, ax_u2_nk hjk]
theorem ax_putRF {index t k : Nat} {q : vw_C} {r v : Option Nat} (hd : decode M.2.1 pc = .ok (.putfield index, 3)) (hc : vwCl[t]? = some q) (hk : k < q.2.2) (hw : Cond.fieldLink M.1 index (q.2.1 k).1 (q.2.1 k).2.1 (q.2.1 k).2.2.1 ∈ ax_WS) (hI : ax_isI t k = false) (hfin : (q.2.1 k).2.2.2 = true) (hini : M.2.2.2.2 = true) (hdecl : (q.2.1 k).1 = M.1) (hfit : ∀ w : Option Nat, narrow (ax_ty t k) (va_rf w) = va_rf w ∧ fits (ax_ty t k) (va_rf w) = true) (h : ax_pr σ t k r v = some σ1)
    (kk : AW M d bc bs (pc + 3) L st σ1 z) : AW M d bc bs pc L (av_r v :: av_r r :: st) σ z := by
  intro X p l e R s m args below meth c H locs cells slots Q ls C hcs hs hH hS hL hE
  obtain ⟨hx, hb, hml, hown, hts, hret, hlk, hin, hdf, hdl, hok, hK, hG⟩ := id C
  obtain ⟨⟨a, n⟩, h1, h2⟩ := Option.map_eq_some_iff.mp h
  subst h2
  obtain ⟨rfl, hsh⟩ := ax_sh_of h1
  have ht : t < 8 := (List.getElem?_eq_some_iff.mp hc).1
  obtain ⟨h8, q', hc', hn, cell, q1, q2, q3, q4⟩ := ax_at_obj (hH.2.2 a t n hsh) ht
  cases hc.symm.trans hc'
  obtain ⟨hcl, hty, hnm⟩ := ax_cls hc
  have hts' : ∀ w ∈ u_ws q.1 q.2.1 q.2.2, w.before args s = true := fun w hw => hts w (hcl w hw)
  have hap := va_apart (own := M.1) hts' (fun w h => h) _ hty hnm hK.1 hc
  obtain ⟨hSl, hfc, kC, hkC, hkind⟩ := hK.1.1 t _ hc
  obtain ⟨cf, kf, fi, f, hi, hsl⟩ := hSl k hk
  have hlay := hts' _ (u_in_lay hk)
  unfold u_lay at hlay
  rw [if_pos hfin] at hlay
  have hst := (u_facts hfc hkC (u_lays hts' (fun w h => h) hk) hi).1
  have hcf : m.cls = cf := by
    obtain ⟨_, _, c', _, _, _, -, -, hf', -, -, -, hown2, -⟩ := Cond.laysFinal_spec hlay
    have e1 : c' = cf := by have := hi.symm.trans hf'; simp at this; exact this.1.symm
    rw [hdecl] at hown2
    rw [← e1]; exact Option.some.inj (hown.symm.trans hown2)
  have h6 := u_fits hfc hkC hkind (u_lays hts' (fun w h => h) hk) hi (hty k hk) (hfit (v.map (ax_ρ X))).1 (hfit (v.map (ax_ρ X))).2
  refine W.putFinK hx hb hown (hts _ hw) hi hst hcf (hin hini) (by rw [q2]; exact h6) q1 q3 (by rw [hsl]; exact k2_hasslot (q4 k hk)) rfl rfl hd fun H' e1 e2 e3 => ?_
  rw [hsl] at e1 ⊢
  refine kk X p l e R s m args below meth c H' _ cells slots Q ls C hcs hs (hH.upd hok h8 rfl e2 e3 (fun b hb k' => rfl) (fun b hb k' => ax_u2_ne hb k') (fun t' n' hsh' => ?_)) (ax_S_put hok hS h8 e2 e3) hL hE
  cases hsh.symm.trans hsh'
  subst hn
  refine ax_at_put (v := av_r v) h8 ht hc hk hap q2 q3 q4 e1 (fun j hj => ?_)
  by_cases hjk : j = k
  · subst hjk
    simp [ax_sv, hI, ax_u2_self]
  · rw [if_neg hjk]
    simp only [ax_sv, ax_u2_nk hjk]
end AXH
end
section
/-! ===== arrays, new cells ===== -/
section AXA
variable {M : ax_M} {d bc bs pc : Nat} {L : List (Option ax_V)} {st : List ax_V} {σ σ1 : ax_S} {z : Option ax_V × ax_S}
theorem ax_iald {r : Option Nat} {i x : Int32} (hd : decode M.2.1 pc = .ok (.iaload, 1)) (h : ax_al σ 9 r i = some x) (kk : AW M d bc bs (pc + 1) L (av_i x :: st) σ z) : AW M d bc bs pc L (av_i i :: av_r r :: st) σ z := by
  intro X p l e R s m args below meth c H locs cells slots Q ls C hcs hs hH hS hL hE
  obtain ⟨hx, hb, hml, hown, hts, hret, hlk, hin, hdf, hdl, hok, hK, hG⟩ := id C
  obtain ⟨⟨a, j⟩, h1, h2⟩ := Option.map_eq_some_iff.mp h
  subst h2
  obtain ⟨n, rfl, hsh, hix, hj⟩ := ax_ix_of h1
  simp only at hsh hj ⊢
  subst hj
  obtain ⟨cell, g1, g2, g3, g4, g5, -⟩ := ax_at_arr hK (hH.2.2 _ _ n hsh) (by omega) (by omega)
  have hlt : i.toNatClampNeg < n := Nat.not_le.mp fun q => hix (Or.inr q)
  exact W.iald hx hb g1 g2 g3 (by rw [g4]; exact hix) (g5 _ hlt) rfl rfl hd (kk X p l e R s m args below meth c H locs cells slots Q ls C hcs hs hH hS hL hE)
theorem ax_bald {r : Option Nat} {i x : Int32} (hd : decode M.2.1 pc = .ok (.baload, 1)) (h : ax_al σ 8 r i = some x) (kk : AW M d bc bs (pc + 1) L (av_i x :: st) σ z) : AW M d bc bs pc L (av_i i :: av_r r :: st) σ z := by
  intro X p l e R s m args below meth c H locs cells slots Q ls C hcs hs hH hS hL hE
  obtain ⟨hx, hb, hml, hown, hts, hret, hlk, hin, hdf, hdl, hok, hK, hG⟩ := id C
  obtain ⟨⟨a, j⟩, h1, h2⟩ := Option.map_eq_some_iff.mp h
  subst h2
  obtain ⟨n, rfl, hsh, hix, hj⟩ := ax_ix_of h1
  simp only at hsh hj ⊢
  subst hj
  obtain ⟨cell, g1, g2, g3, g4, g5, -⟩ := ax_at_arr hK (hH.2.2 _ _ n hsh) (by omega) (by omega)
  have hlt : i.toNatClampNeg < n := Nat.not_le.mp fun q => hix (Or.inr q)
  exact W.bald hx hb g1 g2 g3 (by rw [g4]; exact hix) (g5 _ hlt) rfl rfl hd (kk X p l e R s m args below meth c H locs cells slots Q ls C hcs hs hH hS hL hE)
theorem ax_zald {r : Option Nat} {i x : Int32} (hd : decode M.2.1 pc = .ok (.baload, 1)) (h : ax_al σ 10 r i = some x) (kk : AW M d bc bs (pc + 1) L (av_i x :: st) σ z) : AW M d bc bs pc L (av_i i :: av_r r :: st) σ z := by
  intro X p l e R s m args below meth c H locs cells slots Q ls C hcs hs hH hS hL hE
  obtain ⟨hx, hb, hml, hown, hts, hret, hlk, hin, hdf, hdl, hok, hK, hG⟩ := id C
  obtain ⟨⟨a, j⟩, h1, h2⟩ := Option.map_eq_some_iff.mp h
  subst h2
  obtain ⟨n, rfl, hsh, hix, hj⟩ := ax_ix_of h1
  simp only at hsh hj ⊢
  subst hj
  obtain ⟨cell, g1, g2, g3, g4, g5, -⟩ := ax_at_arr hK (hH.2.2 _ _ n hsh) (by omega) (by omega)
  have hlt : i.toNatClampNeg < n := Nat.not_le.mp fun q => hix (Or.inr q)
  exact W.zald hx hb g1 g2 g3 (by rw [g4]; exact hix) (g5 _ hlt) rfl rfl hd (kk X p l e R s m args below meth c H locs cells slots Q ls C hcs hs hH hS hL hE)
theorem ax_aald {t : Nat} {r x : Option Nat} {i : Int32} (ht : 11 ≤ t ∧ t < 14) (hd : decode M.2.1 pc = .ok (.aaload, 1)) (h : ax_ar σ t r i = some x) (kk : AW M d bc bs (pc + 1) L (av_r x :: st) σ z) : AW M d bc bs pc L (av_i i :: av_r r :: st) σ z := by
  intro X p l e R s m args below meth c H locs cells slots Q ls C hcs hs hH hS hL hE
  obtain ⟨hx, hb, hml, hown, hts, hret, hlk, hin, hdf, hdl, hok, hK, hG⟩ := id C
  obtain ⟨⟨a, j⟩, h1, h2⟩ := Option.map_eq_some_iff.mp h
  subst h2
  obtain ⟨n, rfl, hsh, hix, hj⟩ := ax_ix_of h1
  simp only at hsh hj ⊢
  subst hj
  obtain ⟨cell, g1, g2, g3, g4, g5, -⟩ := ax_at_arr hK (hH.2.2 _ _ n hsh) (by omega) (by omega)
  have hlt : i.toNatClampNeg < n := Nat.not_le.mp fun q => hix (Or.inr q)
  have hI : ax_isI t i.toNatClampNeg = false ∧ (ax_ty t 0).isReference = true := by
    have : t = 11 ∨ t = 12 ∨ t = 13 := by omega
    rcases this with rfl | rfl | rfl <;> exact ⟨rfl, rfl⟩
  have g6 := g5 _ hlt
  simp only [ax_sv, hI.1] at g6
  exact W.aald hx hb g1 g2 hI.2 g3 (by rw [g4]; exact hix) g6 rfl rfl hd (kk X p l e R s m args below meth c H locs cells slots Q ls C hcs hs hH hS hL hE)
/-- the array's cell behind a write -/
theorem ax_at_ast {X : ax_X} {σ σ' : ax_S} {H' : Heap} {a t n j : Nat} {v : ax_V} (h8 : 9 ≤ a) (ht : 8 ≤ t) (h14 : t < 14) (e1 : H'[ax_ρ X a]? = some ((arrV (X.2.1 t) n (fun j => ax_cv (ax_ρ X) (ax_sv σ t a j))).setSlot j (ax_cv (ax_ρ X) v))) (hv : ∀ i, ax_sv σ' t a i = if i = j then v else ax_sv σ t a i) : ax_at X σ' H' a t n := by
  unfold ax_at
  rw [if_neg (by omega), if_neg (by omega), if_neg (by omega)]
  refine ⟨h14, e1.trans ?_⟩
  rw [arrV_store]
  congr 2
  funext i
  rw [hv i]
  unfold updV
  split <;> rfl
theorem ax_as_of {t : Nat} {r : Option Nat} {i x : Int32} (h : ax_as σ t r i x = some σ1) : ∃ a n, r = some a ∧ 9 ≤ a ∧ σ.1[a]? = some (t, n) ∧ ¬ (i < 0 ∨ n ≤ i.toNatClampNeg) ∧ σ1 = (σ.1, ax_u2 σ.2.1 a i.toNatClampNeg x, σ.2.2) := by
  obtain ⟨⟨a, j⟩, h1, h2⟩ := Option.bind_eq_some_iff.mp h
  obtain ⟨n, g1, g2, g3, g4⟩ := ax_ix_of h1
  simp only at g1 g2 g4 h2
  split at h2
  · cases h2
  · rename_i hn
    subst g4
    cases h2
    exact ⟨a, n, g1, by omega, g2, g3, rfl⟩
theorem ax_iast {r : Option Nat} {i x : Int32} (hd : decode M.2.1 pc = .ok (.iastore, 1)) (h : ax_as σ 9 r i x = some σ1) (kk : AW M d bc bs (pc + 1) L st σ1 z) : AW M d bc bs pc L (av_i x :: av_i i :: av_r r :: st) σ z := by
  intro X p l e R s m args below meth c H locs cells slots Q ls C hcs hs hH hS hL hE
  obtain ⟨hx, hb, hml, hown, hts, hret, hlk, hin, hdf, hdl, hok, hK, hG⟩ := id C
  obtain ⟨a, n, rfl, h8, hsh, hix, rfl⟩ := ax_as_of h
  obtain ⟨cell, g1, g2, g3, g4, -, g6⟩ := ax_at_arr hK (hH.2.2 a _ n hsh) (by omega) (by omega)
  refine W.iast hx hb g1 g2 g3 (by rw [g4]; exact hix) rfl rfl hd fun H' e1 e2 e3 => ?_
  refine kk X p l e R s m args below meth c H' _ cells slots Q ls C hcs hs (hH.upd hok h8 rfl e2 e3 (fun b hb k' => ax_u2_ne hb k') (fun b hb k' => rfl) (fun t' n' hsh' => ?_)) (ax_S_put hok hS h8 e2 e3) hL hE
  cases hsh.symm.trans hsh'
  rw [g6 h8] at e1
  refine ax_at_ast (v := av_i x) h8 (by omega) (by omega) e1 (fun j => ?_)
  have hI : ∀ k, ax_isI 9 k = true := fun k => rfl
  by_cases hjk : j = i.toNatClampNeg
  · subst hjk
    simp [ax_sv, hI, ax_u2_self]
  · rw [if_neg hjk]
    simp only [ax_sv, ax_u2_nk hjk]
theorem ax_bast {r : Option Nat} {i x : Int32} (hd : decode M.2.1 pc = .ok (.bastore, 1)) (h : ax_as σ 8 r i x.toInt8.toInt32 = some σ1) (kk : AW M d bc bs (pc + 1) L st σ1 z) : AW M d bc bs pc L (av_i x :: av_i i :: av_r r :: st) σ z := by
  intro X p l e R s m args below meth c H locs cells slots Q ls C hcs hs hH hS hL hE
  obtain ⟨hx, hb, hml, hown, hts, hret, hlk, hin, hdf, hdl, hok, hK, hG⟩ := id C
  obtain ⟨a, n, rfl, h8, hsh, hix, rfl⟩ := ax_as_of h
  obtain ⟨cell, g1, g2, g3, g4, -, g6⟩ := ax_at_arr hK (hH.2.2 a _ n hsh) (by omega) (by omega)
  refine W.bast hx hb g1 g2 g3 (by rw [g4]; exact hix) rfl rfl hd fun H' e1 e2 e3 => ?_
  refine kk X p l e R s m args below meth c H' _ cells slots Q ls C hcs hs (hH.upd hok h8 rfl e2 e3 (fun b hb k' => ax_u2_ne hb k') (fun b hb k' => rfl) (fun t' n' hsh' => ?_)) (ax_S_put hok hS h8 e2 e3) hL hE
  cases hsh.symm.trans hsh'
  rw [g6 h8] at e1
  refine ax_at_ast (v := av_i x.toInt8.toInt32) h8 (by omega) (by omega) e1 (fun j => ?_)
  have hI : ∀ k, ax_isI 8 k = true := fun k => rfl
  by_cases hjk : j = i.toNatClampNeg
  · subst hjk
    simp [ax_sv, hI, ax_u2_self]
  · rw [if_neg hjk]
    simp only [ax_sv, ax_u2_nk hjk]
theorem ax_zast {r : Option Nat} {i x : Int32} (hd : decode M.2.1 pc = .ok (.bastore, 1)) (h1 : narrow .boolean (.int x) = .int x) (h : ax_as σ 10 r i x = some σ1) (kk : AW M d bc bs (pc + 1) L st σ1 z) : AW M d bc bs pc L (av_i x :: av_i i :: av_r r :: st) σ z := by
  intro X p l e R s m args below meth c H locs cells slots Q ls C hcs hs hH hS hL hE
  obtain ⟨hx, hb, hml, hown, hts, hret, hlk, hin, hdf, hdl, hok, hK, hG⟩ := id C
  obtain ⟨a, n, rfl, h8, hsh, hix, rfl⟩ := ax_as_of h
  obtain ⟨cell, g1, g2, g3, g4, -, g6⟩ := ax_at_arr hK (hH.2.2 a _ n hsh) (by omega) (by omega)
  refine W.zast hx hb g1 g2 g3 (by rw [g4]; exact hix) rfl rfl hd fun H' e1 e2 e3 => ?_
  refine kk X p l e R s m args below meth c H' _ cells slots Q ls C hcs hs (hH.upd hok h8 rfl e2 e3 (fun b hb k' => ax_u2_ne hb k') (fun b hb k' => rfl) (fun t' n' hsh' => ?_)) (ax_S_put hok hS h8 e2 e3) hL hE
  cases hsh.symm.trans hsh'
  rw [g6 h8, h1] at e1
  refine ax_at_ast (v := av_i x) h8 (by omega) (by omega) e1 (fun j => ?_)
  have hI : ∀ k, ax_isI 10 k = true := fun k => rfl
  by_cases hjk : j = i.toNatClampNeg
  · subst hjk
    simp [ax_sv, hI, ax_u2_self]
  · rw [if_neg hjk]
    simp only [ax_sv, ax_u2_nk hjk]
theorem ax_aast {t : Nat} {r v : Option Nat} {i : Int32} (ht : 11 ≤ t ∧ t < 14) (hq : (vwCl[t - 10]?).map (fun q => FieldType.object q.1) = some (ax_ty t 0)) (hd : decode M.2.1 pc = .ok (.aastore, 1)) (h : ax_aw σ t r i v = some σ1) (kk : AW M d bc bs (pc + 1) L st σ1 z) : AW M d bc bs pc L (av_r v :: av_i i :: av_r r :: st) σ z := by
  intro X p l e R s m args below meth c H locs cells slots Q ls C hcs hs hH hS hL hE
  obtain ⟨hx, hb, hml, hown, hts, hret, hlk, hin, hdf, hdl, hok, hK, hG⟩ := id C
  obtain ⟨⟨a, j⟩, h1, h2⟩ := Option.bind_eq_some_iff.mp h
  obtain ⟨n, rfl, hsh, hix, hj⟩ := ax_ix_of h1
  simp only at hsh hj h2
  subst hj
  split at h2
  · cases h2
  rename_i hn8
  have h8 : 9 ≤ a := by omega
  obtain ⟨⟨b, nb⟩, h3, h4⟩ := Option.bind_eq_some_iff.mp h2
  cases h4
  obtain ⟨rfl, hshb⟩ := ax_sh_of h3
  obtain ⟨cell, g1, g2, g3, g4, g5, g6⟩ := ax_at_arr hK (hH.2.2 a _ n hsh) (by omega) (by omega)
  have g6 := g6 h8
  subst g6
  have hlt : i.toNatClampNeg < n := Nat.not_le.mp fun q => hix (Or.inr q)
  have h0 : ¬ i < 0 := fun q => hix (Or.inl q)
  obtain ⟨hb8, q', hc', -, cellV, f1, f2, f3, -⟩ := ax_at_obj (hH.2.2 b _ nb hshb) (by omega)
  have hcls := (hK.1.1 _ _ hc').2
  have hRA := (hK.2.1 t (by omega) (by omega)).2
  rw [hc'] at hq
  have hq := Option.some.inj hq
  simp only at hq
  rw [← hq] at hRA
  obtain ⟨kA, comp, k1, k2, k3, -⟩ := hRA
  have hcomp : comp = X.1.1 (t - 10) := Option.some.inj (k3.symm.trans hcls.1)
  subst hcomp
  obtain ⟨kC, hkC, -⟩ := hcls.2
  refine W.aast hx hb g1 (fun q h => by cases h) (fun h => by cases h) k1 k2 rfl hkC ⟨h0, by rw [g4]; exact hlt⟩ f1 (fun q h => by rw [f3] at h; cases h) (by rw [f2]; exact hkC) (by rw [f2]; exact va_assign hcls) rfl rfl hd fun H' e1 e2 e3 => ?_
  refine kk X p l e R s m args below meth c H' _ cells slots Q ls C hcs hs (hH.upd hok h8 rfl e2 e3 (fun b hb k' => rfl) (fun b hb k' => ax_u2_ne hb k') (fun t' n' hsh' => ?_)) (ax_S_put hok hS h8 e2 e3) hL hE
  cases hsh.symm.trans hsh'
  refine ax_at_ast (v := av_r (some b)) h8 (by omega) (by omega) e1 (fun j => ?_)
  have hI : ∀ k, ax_isI t k = false := by
    have : t = 11 ∨ t = 12 ∨ t = 13 := by omega
    rcases this with rfl | rfl | rfl <;> exact fun _ => rfl
  by_cases hjk : j = i.toNatClampNeg
  · subst hjk
    simp [ax_sv, hI, ax_u2_self]
  · rw [if_neg hjk]
    simp only [ax_sv, ax_u2_nk hjk]
theorem ax_alen {t : Nat} {r : Option Nat} {x : Int32} (ht : 8 ≤ t ∧ t < 14) (hd : decode M.2.1 pc = .ok (.arraylength, 1)) (h : ax_ln σ t r = some x) (kk : AW M d bc bs (pc + 1) L (av_i x :: st) σ z) : AW M d bc bs pc L (av_r r :: st) σ z := by
  intro X p l e R s m args below meth c H locs cells slots Q ls C hcs hs hH hS hL hE
  obtain ⟨hx, hb, hml, hown, hts, hret, hlk, hin, hdf, hdl, hok, hK, hG⟩ := id C
  obtain ⟨⟨a, n⟩, h1, h2⟩ := Option.map_eq_some_iff.mp h
  subst h2
  obtain ⟨rfl, hsh⟩ := ax_sh_of h1
  obtain ⟨cell, g1, g2, g3, g4, g5, -⟩ := ax_at_arr hK (hH.2.2 _ _ n hsh) ht.1 ht.2
  exact W.alen (n := Int32.ofNat n) hx hb g1 g2 (by rw [g4] <;> rfl) rfl rfl hd (kk X p l e R s m args below meth c H locs cells slots Q ls C hcs hs hH hS hL hE)
/-- a new cell: the others as they were -/
theorem ax_H.push {X : ax_X} {H H' : Heap} {t n : Nat} (hok : ax_ok X) (h : ax_H X σ H) (z1 : H'.size = H.size + 1) (o1 : ∀ q : Nat, q < H.size → H'[q]? = H[q]?) (hat : ax_at X (ax_nw σ t n) H' σ.1.length t n) : ax_H X (ax_nw σ t n) H' ∧ ax_ρ X σ.1.length = H.size := by
  have hr : ax_ρ X σ.1.length = H.size := by rw [hok.1 _ h.1, h.2.1]
  have hlen : (ax_nw σ t n).1.length = σ.1.length + 1 := by simp [ax_nw]
  have h1 := h.1
  have h2 := h.2.1
  refine ⟨⟨by omega, by rw [z1, hlen]; omega, fun a t' n' ha => ?_⟩, hr⟩
  by_cases hl : a < σ.1.length
  · have ha' : σ.1[a]? = some (t', n') := by
      have e : (ax_nw σ t n).1[a]? = σ.1[a]? := by
        show (σ.1 ++ [(t, n)])[a]? = _
        rw [List.getElem?_append_left hl]
      rw [← e]
      exact ha
    refine (h.2.2 a t' n' ha').kept (o1 _ ?_) (fun k => ?_) (fun k => ?_)
    · by_cases ha8 : 9 ≤ a
      · rw [hok.1 a ha8]; omega
      · have := hok.2 a (by omega); omega
    · show (if a = σ.1.length then (0 : Int32) else σ.2.1 a k) = _
      rw [if_neg (by omega)]
    · show (if a = σ.1.length then (none : Option Nat) else σ.2.2 a k) = _
      rw [if_neg (by omega)]
  · have hl2 : a < (ax_nw σ t n).1.length := (List.getElem?_eq_some_iff.mp ha).1
    have hae : a = σ.1.length := by omega
    subst hae
    have e : (ax_nw σ t n).1[σ.1.length]? = some (t, n) := by
      show (σ.1 ++ [(t, n)])[σ.1.length]? = _
      simp
    cases e.symm.trans ha
    exact hat
theorem ax_S_new {X : ax_X} {H0 H H' : Heap} {locs : List Loc} (h : va_S (ax_A X) H0 H locs) (z1 : H'.size = H.size + 1) (o1 : ∀ q : Nat, q < H.size → H'[q]? = H[q]?) : va_S (ax_A X) H0 H' locs := ⟨Nat.le_trans h.1 (by omega), fun x h1 h2 => (o1 x (Nat.lt_of_lt_of_le h1 h.1)).trans (h.2.1 x h1 h2), h.2.2⟩
theorem ax_newO {index t : Nat} {q : vw_C} (hd : decode M.2.1 pc = .ok (.new index, 3)) (hc : vwCl[t]? = some q) (hw1 : Cond.classLink M.1 index q.1 ∈ ax_WS) (hw2 : Cond.instantiable q.1 q.2.2 ∈ ax_WS) (hw3 : Cond.initialized q.1 ∈ ax_WS)
    (hdef : ∀ k, k < q.2.2 → defaultValue (ax_ty t k) = if ax_isI t k = true then .int 0 else .null)
    (kk : AW M d bc bs (pc + 3) L (av_r (some σ.1.length) :: st) (ax_nw σ t q.2.2) z) : AW M d (bc + 1) (bs + q.2.2) pc L st σ z := by
  intro X p l e R s m args below meth c H locs cells slots Q ls C hcs hs hH hS hL hE
  obtain ⟨hx, hb, hml, hown, hts, hret, hlk, hin, hdf, hdl, hok, hK, hG⟩ := id C
  have hKn := hK.1.1 t _ hc
  have ht : t < 8 := (List.getElem?_eq_some_iff.mp hc).1
  obtain ⟨hcl, hty, hnm⟩ := ax_cls hc
  have hts' : ∀ w ∈ u_ws q.1 q.2.1 q.2.2, w.before args s = true := fun w hw => hts w (hcl w hw)
  refine W.newcK hx hb hown (hts _ hw1) (hts _ hw2) (hts _ hw3) rfl hd (by omega) (by omega) hKn.2.1 rfl fun H1 kC hkC e1 z1 o1 => ?_
  have hr : ax_ρ X σ.1.length = H.size := by rw [hok.1 _ hH.1, hH.2.1]
  have hat : ax_at X (ax_nw σ t q.2.2) H1 σ.1.length t q.2.2 := by
    have := hH.1
    unfold ax_at
    rw [if_neg (by omega), if_neg (by omega), if_pos ht]
    refine ⟨q, hc, rfl, ?_⟩
    rw [hr]
    refine (u_born (ax_ty t) hts' (fun w h => h) hKn hkC e1 hty).to (fun k hk => ?_)
    rw [hdef k hk]
    have h1 : (ax_nw σ t q.2.2).2.1 σ.1.length k = 0 := if_pos rfl
    have h2 : (ax_nw σ t q.2.2).2.2 σ.1.length k = none := if_pos rfl
    simp only [ax_sv, h1, h2]
    split <;> rfl
  obtain ⟨hH1, hr⟩ := hH.push hok z1 o1 hat
  have k1 := kk X p l e R s m args below meth c H1 locs (cells + 1) (slots + q.2.2) Q ls C (by omega) (by omega) hH1 (ax_S_new hS z1 o1) hL hE
  have e2 : List.map (ax_cv (ax_ρ X)) (av_r (some σ.1.length) :: st) = Value.ref H.size :: List.map (ax_cv (ax_ρ X)) st := by
    show Value.ref (ax_ρ X σ.1.length) :: _ = _
    rw [hr]
  rw [e2] at k1
  exact k1
theorem ax_newA {t n : Nat} {x : Int32} {aty : ArrayType} (hd : decode M.2.1 pc = .ok (.newarray aty, 2)) (ht : 8 ≤ t ∧ t < 11) (hty : newarray.typeOf aty = ax_ty t 0) (hw : Cond.arrayClass (ax_ty t 0) ∈ ax_WS) (hx0 : ¬ x < 0) (hn : x.toNatClampNeg = n) (hn2 : n ≤ 100000)
    (kk : AW M d bc bs (pc + 2) L (av_r (some σ.1.length) :: st) (ax_nw σ t n) z) : AW M d (bc + 1) (bs + n) pc L (av_i x :: st) σ z := by
  intro X p l e R s m args below meth c H locs cells slots Q ls C hcs hs hH hS hL hE
  obtain ⟨hx, hb, hml, hown, hts, hret, hlk, hin, hdf, hdl, hok, hK, hG⟩ := id C
  have htc : t = 8 ∨ t = 9 ∨ t = 10 := by omega
  have hcb : componentBytes (newarray.typeOf aty) ≤ 8 := by
    cases aty <;> decide
  refine va_newaK hx hb (by rw [hty]; exact hts _ hw) rfl hd rfl hx0 hn (by have := Nat.mul_le_mul hn2 hcb; omega) (by omega) (by omega) rfl fun H1 cA e1 z1 o1 hAr hNm => ?_
  have hr : ax_ρ X σ.1.length = H.size := by rw [hok.1 _ hH.1, hH.2.1]
  rw [hty] at hNm e1
  have hRA := (hK.2.1 t (by omega) (by omega)).2
  have hcA : cA = X.2.1 t := by
    rcases htc with rfl | rfl | rfl <;> exact Option.some.inj (hNm.symm.trans hRA)
  subst hcA
  have hat : ax_at X (ax_nw σ t n) H1 σ.1.length t n := by
    have := hH.1
    unfold ax_at
    rw [if_neg (by omega), if_neg (by omega), if_neg (by omega), hr]
    refine ⟨by omega, e1.trans ?_⟩
    congr 2
    funext k
    have h1 : (ax_nw σ t n).2.1 σ.1.length k = 0 := if_pos rfl
    simp only [ax_sv, h1]
    rcases htc with rfl | rfl | rfl <;> rfl
  obtain ⟨hH1, hr⟩ := hH.push hok z1 o1 hat
  have k1 := kk X p l e R s m args below meth c H1 locs (cells + 1) (slots + n) Q ls C (by omega) (by omega) hH1 (ax_S_new hS z1 o1) hL hE
  have e2 : List.map (ax_cv (ax_ρ X)) (av_r (some σ.1.length) :: st) = Value.ref H.size :: List.map (ax_cv (ax_ρ X)) st := by
    show Value.ref (ax_ρ X σ.1.length) :: _ = _
    rw [hr]
  rw [e2] at k1
  exact k1
theorem ax_newR {index t n : Nat} {x : Int32} {Cn : String} (hd : decode M.2.1 pc = .ok (.anewarray index, 3)) (ht : 11 ≤ t ∧ t < 14) (hty : ax_ty t 0 = .object Cn) (hw1 : Cond.classLink M.1 index Cn ∈ ax_WS) (hw2 : Cond.arrayOver (.object Cn) ∈ ax_WS) (hx0 : ¬ x < 0) (hn : x.toNatClampNeg = n) (hn2 : n ≤ 100000)
    (kk : AW M d bc bs (pc + 3) L (av_r (some σ.1.length) :: st) (ax_nw σ t n) z) : AW M d (bc + 1) (bs + n) pc L (av_i x :: st) σ z := by
  intro X p l e R s m args below meth c H locs cells slots Q ls C hcs hs hH hS hL hE
  obtain ⟨hx, hb, hml, hown, hts, hret, hlk, hin, hdf, hdl, hok, hK, hG⟩ := id C
  subst hn
  refine W.anew hx hb hown (hts _ hw1) (hts _ hw2) rfl hd rfl hx0 (by omega) (by omega) (by omega) fun cA kA comp f1 f2 f3 f4 => ?_
  generalize hH1 : H.push ({ cls := cA, slots := Array.replicate x.toNatClampNeg .null, vm := .none } : Cell) = H1
  have z1 : H1.size = H.size + 1 := by rw [← hH1, Array.size_push]
  have e1 : H1[H.size]? = some (arrV cA x.toNatClampNeg (fun _ => .null)) := by rw [← hH1, Array.getElem?_push_size, ← arrV_new]
  have o1 : ∀ q : Nat, q < H.size → H1[q]? = H[q]? := fun q hq => by rw [← hH1, Array.getElem?_push, if_neg (Nat.ne_of_lt hq)]
  have hr : ax_ρ X σ.1.length = H.size := by rw [hok.1 _ hH.1, hH.2.1]
  have hRA := (hK.2.1 t (by omega) (by omega)).2
  rw [hty] at hRA
  obtain ⟨kA', comp', k1, k2, k3, k4⟩ := hRA
  have hcA : cA = X.2.1 t := Option.some.inj (f1.symm.trans k4)
  subst hcA
  have hat : ax_at X (ax_nw σ t x.toNatClampNeg) H1 σ.1.length t x.toNatClampNeg := by
    have := hH.1
    unfold ax_at
    rw [if_neg (by omega), if_neg (by omega), if_neg (by omega), hr]
    refine ⟨by omega, e1.trans ?_⟩
    congr 2
    funext k
    have h1 : (ax_nw σ t x.toNatClampNeg).2.2 σ.1.length k = none := if_pos rfl
    have hI : ax_isI t k = false := by
      have : t = 11 ∨ t = 12 ∨ t = 13 := by omega
      rcases this with rfl | rfl | rfl <;> rfl
    simp only [ax_sv, h1, hI]
    rfl
  obtain ⟨hH1', hr⟩ := hH.push hok z1 o1 hat
  have k1 := kk X p l e R s m args below meth c H1 locs (cells + 1) (slots + x.toNatClampNeg) Q ls C (by omega) (by omega) hH1' (ax_S_new hS z1 o1) hL hE
  have e2 : List.map (ax_cv (ax_ρ X)) (av_r (some σ.1.length) :: st) = Value.ref H.size :: List.map (ax_cv (ax_ρ X)) st := by
    show Value.ref (ax_ρ X σ.1.length) :: _ = _
    rw [hr]
  rw [e2] at k1
  exact k1
end AXA
end
section
/-! ===== contracts and calls ===== -/
def ax_okr : Option FieldType → Option ax_V → Prop
  | none, none => True
  | some .int, some (.inl _) => True
  | some .boolean, some (.inl x) => narrow .boolean (.int x) = .int x
  | some .byte, some (.inl x) => narrow .byte (.int x) = .int x
  | some .long, some (.inr (.inl _)) => True
  | some (.object _), some (.inr (.inr _)) => True
  | some (.array _), some (.inr (.inr _)) => True
  | _, _ => False
def ax_args : List ax_V → List (Option ax_V)
  | [] => []
  | .inr (.inl x) :: t => some (av_l x) :: none :: ax_args t
  | v :: t => some v :: ax_args t
theorem ax_args_lv (ρ : Nat → Nat) : ∀ (as : List ax_V) (k i : Nat) (v : ax_V), (ax_args as)[i]? = some (some v) → (k + i, ax_cv ρ v) ∈ lv_args k (as.map (ax_cv ρ))
  | [], k, i, v, h => by simp [ax_args] at h
  | .inl x :: t, k, i, v, h => by
    cases i with
    | zero =>
      cases h
      exact List.mem_cons_self
    | succ j =>
      refine List.mem_cons_of_mem _ ?_
      have h1 := ax_args_lv ρ t (k + 1) j v h
      rw [show k + (j + 1) = k + 1 + j by omega]
      exact h1
  | .inr (.inl x) :: t, k, i, v, h => by
    match i, h with
    | 0, h =>
      cases h
      exact List.mem_cons_self
    | 1, h => cases h
    | j + 2, h =>
      refine List.mem_cons_of_mem _ ?_
      have h1 := ax_args_lv ρ t (k + 2) j v h
      rw [show k + (j + 2) = k + 2 + j by omega]
      exact h1
  | .inr (.inr r) :: t, k, i, v, h => by
    cases i with
    | zero =>
      cases h
      exact List.mem_cons_self
    | succ j =>
      refine List.mem_cons_of_mem _ ?_
      have h1 := ax_args_lv ρ t (k + 1) j v h
      rw [show k + (j + 1) = k + 1 + j by omega]
      have e : (ax_cv ρ (.inr (.inr r))).category = 1 := ax_cat ρ _
      show _ ∈ lv_args (if (ax_cv ρ (.inr (.inr r))).category = 2 then k + 2 else k + 1) _
      rw [e]
      exact h1
/-- a method's contract: from the arguments and the store as it comes to what it answers and the store as it is then -/
def AC (M : ax_M) (y : MethodName) (d kc ks : Nat) (as : List ax_V) (σ : ax_S) (z : Option ax_V × ax_S) : Prop :=
  ∀ (X : ax_X) (l : Launch), ax_ok X → Met l y (Cond.code y M.2.1 M.2.2.2.1 M.2.2.1 :: ax_WS) { frames := d, cells := kc, slots := ks, locals := 64 * d }
    (va_Pc (as.map (ax_cv (ax_ρ X))) (fun U => ax_H X σ U.heap ∧ ax_K X U ∧ ax_G X U U.heap))
    (fun _ st oc t => oc = .returned (z.1.map (ax_cv (ax_ρ X))) ∧ ax_H X z.2 t.heap ∧ va_F (ax_A X) st t) kc ks (ax_A X)
theorem ax_met {M : ax_M} {y : MethodName} {d kc ks : Nat} {as : List ax_V} {σ : ax_S} {z : Option ax_V × ax_S} {L0 : List (Option ax_V)} (hy : plainName y.cls = true) (hcls : y.cls = M.1) (hini : M.2.2.2.2 = true → y.name = "<init>")
    (hL0 : ax_sub L0 (ax_args as)) (hlen : (lg_sl (as.map (ax_cv (fun a => a)))).length ≤ M.2.2.2.1) (hret : ax_okr M.2.2.1 z.1) (h : AW M d kc ks 0 L0 [] σ z) : AC M y d kc ks as σ z := by
  intro X l hok
  refine Met.ofW (cc := M.2.1) (maxL := M.2.2.2.1) (ret := M.2.2.1) hy rfl ?_
  intro p e s m args below meth c s₁ B hml hv
  obtain ⟨rfl, hH, hK, hG⟩ := hv
  have hts := atoms_spec (ws := Cond.code y M.2.1 M.2.2.2.1 M.2.2.1 :: ax_WS) B.pre
  have hown : s.vm.findClass M.1 = some m.cls := by rw [← hcls]; exact findClass_of_methodNamed B.named
  have hin : M.2.2.2.2 = true → meth.name = "<init>" := fun q => ((name_of_methodNamed B.named B.method).1).trans (hini q)
  have hS : va_S (ax_A X) s.heap s.heap [] := va_S.rf
  have hsl : ∀ vs : List ax_V, (lg_sl (vs.map (ax_cv (ax_ρ X)))).length = (lg_sl (vs.map (ax_cv (fun a => a)))).length := by
    intro vs
    induction vs with
    | nil => rfl
    | cons v t ih =>
      have hcat : (ax_cv (ax_ρ X) v).category = (ax_cv (fun a => a) v).category := by rw [ax_cat, ax_cat]
      unfold lg_sl at ih ⊢
      simp only [List.map_cons, List.flatMap_cons, List.length_append, hcat, ih]
      by_cases h2 : (ax_cv (fun a => a) v).category = 2 <;> simp [h2]
  have hl := lv_entry (as.map (ax_cv (ax_ρ X))) (n := M.2.2.2.1) (by rw [hsl]; exact hlen)
  rw [lg_entry_eq]
  generalize (lg_sl (as.map (ax_cv (ax_ρ X))) ++ List.replicate (M.2.2.2.1 - (lg_sl (as.map (ax_cv (ax_ρ X)))).length) Slot.unset).toArray = ls at hl ⊢
  have hL : ax_L X M.2.2.2.1 ls L0 := ⟨hl.1, hl.2.1, fun i v hv => by
    have h1 := ax_args_lv (ax_ρ X) as 0 i v (ax_sub_at hL0 i v hv)
    rw [Nat.zero_add] at h1
    exact hl.2.2 _ h1⟩
  refine h X p l e _ s m _ below meth c s.heap [] 0 0 _ ls ⟨B.exec, B.bytes, hml, hown, fun w hw => hts w (List.mem_cons_of_mem _ hw), B.returns, B.notSynchronized, hin, Nat.le_refl _, Nat.le_refl _, hok, hK, hG⟩ (by show 0 + kc ≤ kc; omega) (by show 0 + ks ≤ ks; omega) hH hS hL ?_
  intro pc' ls' H' locs' hH' hS' hd
  have hq : ∀ v : Option Value, v = z.1.map (ax_cv (ax_ρ X)) → ∀ t : State, t.heap = H' → s.WarmedH t.vm → Outcome.returned v = .returned (z.1.map (ax_cv (ax_ρ X))) ∧ ax_H X z.2 t.heap ∧ va_F (ax_A X) s t := fun v hv t ht hW => ⟨by rw [hv], by rw [ht]; exact hH', hS'.F ht⟩
  have hr := B.returns
  have hlocks := B.notSynchronized
  obtain ⟨z1, z2⟩ := z
  obtain ⟨M1, M2, M3, M4, M5⟩ := M
  simp only at hret hd hr hq ⊢
  match M3, z1, hret, hd, hr, hq with
  | none, none, _, hd, hr, hq => exact W.vret B.exec B.bytes hr (fun t ht hW => hq _ rfl t ht hW) hS'.2.2 hd
  | some .int, some (.inl x), _, hd, hr, hq => exact W.iret B.exec B.bytes hr (fun t ht hW => hq _ rfl t ht hW) hS'.2.2 hd
  | some .boolean, some (.inl x), hn, hd, hr, hq => exact W.zret B.exec B.bytes hr hn (fun t ht hW => hq _ rfl t ht hW) hS'.2.2 hd
  | some .byte, some (.inl x), hn, hd, hr, hq => exact W.zret B.exec B.bytes hr hn (fun t ht hW => hq _ rfl t ht hW) hS'.2.2 hd
  | some .long, some (.inr (.inl x)), _, hd, hr, hq => exact W.lret B.exec B.bytes hr (fun t ht hW => hq _ rfl t ht hW) hS'.2.2 hd
  | some (.object n), some (.inr (.inr r)), _, hd, hr, hq =>
    refine W.aret B.exec B.bytes hr (Or.inl ⟨n, rfl⟩) ?_ (fun t ht hW => hq _ rfl t ht hW) hS'.2.2 hd
    cases r with
    | none => exact Or.inl rfl
    | some a => exact Or.inr ⟨_, rfl⟩
  | some (.array n), some (.inr (.inr r)), _, hd, hr, hq =>
    refine W.aret B.exec B.bytes hr (Or.inr ⟨n, rfl⟩) ?_ (fun t ht hW => hq _ rfl t ht hW) hS'.2.2 hd
    cases r with
    | none => exact Or.inl rfl
    | some a => exact Or.inr ⟨_, rfl⟩
theorem ax_good : ∀ w ∈ ax_WS, w ∈ ax_WS ∧ ((w.onTables && w.keeps) = true ∨ ∃ ty, w = .arrayClass ty) := fun w hw => ⟨hw, good_of_word (List.mem_filter.mp hw).2⟩
theorem ax_goodIn {c0 : Cond} (h : c0 ∈ ax_WS) : GoodIn ax_WS (c0 :: ax_WS) := fun w hw => (List.mem_cons.mp hw).elim (fun e => e ▸ ax_good _ h) (ax_good w)
/-- the words of a call of a method -/
def ax_cw (M2 : ax_M) (y : MethodName) : Prop := Cond.code y M2.2.1 M2.2.2.2.1 M2.2.2.1 ∈ ax_WS ∧ Cond.initialized y.cls ∈ ax_WS
def ax_cy0 (y : MethodName) (n : Nat) : Prop := y.cls ≠ "java/lang/invoke/MethodHandle" ∧ y.cls ≠ "java/lang/invoke/VarHandle" ∧ (parseMethodDescriptor y.desc).map (fun d => d.parameters.length) = some n
theorem ax_blind {X : ax_X} {as : List Value} {σ : ax_S} : FrameBlind (va_Pc as (fun U => ax_H X σ U.heap ∧ ax_K X U ∧ ax_G X U U.heap)) := by
  intro a U g mk q
  obtain ⟨e, hH, hK, hG⟩ := q
  exact ⟨e, hH, ax_K.moved (s := U) (U := U.calling g mk a) (State.WarmedH.refl U) hK, ax_G.moved (u := U) (U := U.calling g mk a) (Vm.Alike.refl U.vm) hG⟩
theorem ax_pcU {X : ax_X} {M : ax_M} {d : Nat} {p : Program} {R : Room} {s : State} {m : MethodId} {args : Array Value} {meth : Method} {c : Code} {σ : ax_S} {H : Heap} {locs : List Loc} (C : ax_C X M d p R s m args meth c) (hH : ax_H X σ H) (hS : va_S (ax_A X) s.heap H locs) (as : List Value) :
    ∀ U : State, U.heap = H → s.WarmedH U.vm → va_Pc as (fun U => ax_H X σ U.heap ∧ ax_K X U ∧ ax_G X U U.heap) as.toArray U := by
  intro U hU hW
  obtain ⟨hx, hb, hml, hown, hts, hret, hlk, hin, hdf, hdl, hok, hK, hG⟩ := id C
  refine ⟨rfl, by rw [hU]; exact hH, hK.moved hW, ?_⟩
  rw [hU]
  exact (hG.moved hW.alike).kept (fun a h1 h2 => hS.2.1 a h1 h2)
theorem ax_S_call {X : ax_X} {H0 H : Heap} {locs L : List Loc} {st t : State} (hS : va_S (ax_A X) H0 H locs) (h0 : st.heap = H) (hF : va_F (ax_A X) st t) (hL : ∀ q ∈ L, ax_A X q.base) : va_S (ax_A X) H0 t.heap (locs ++ L) := by
  obtain ⟨hz, hk⟩ := hF
  rw [h0] at hz hk
  refine ⟨Nat.le_trans hS.1 hz, fun q h1 h2 => by rw [hk q (Nat.lt_of_lt_of_le h1 hS.1) h2]; exact hS.2.1 q h1 h2, fun q hq => ?_⟩
  rcases List.mem_append.mp hq with h | h
  · exact hS.2.2 q h
  · exact hL q h
def ax_wd (st : List ax_V) : Nat := (st.map (fun v => (ax_cv (fun a => a) v).category)).sum
theorem ax_wd_eq (ρ : Nat → Nat) (st : List ax_V) : ((st.map (ax_cv ρ)).map (fun v => v.category)).sum = ax_wd st := by
  unfold ax_wd
  rw [List.map_map]
  congr 2
  funext v
  show (ax_cv ρ v).category = _
  rw [ax_cat, ax_cat]
section AXC
variable {M M2 : ax_M} {y : MethodName} {d d2 bc bs kc ks pc index : Nat} {L : List (Option ax_V)} {st S As : List ax_V} {σ σ1 : ax_S} {z : Option ax_V × ax_S} {r : Option ax_V}
/-- behind a call -/
theorem ax_after (hg : ∀ (X : ax_X) (p : Program) (l : Launch) (e : Env) (R : Room) (s : State) (m : MethodId) (args : Array Value) (below : List Frame) (meth : Method) (c : Code) (H : Heap) (locs : List Loc) (cells slots : Nat) (ls : Array Slot),
      ax_C X M d p R s m args meth c → cells + (bc + kc) ≤ R.cells → slots + (bs + ks) ≤ R.slots → ax_H X σ H → va_S (ax_A X) s.heap H locs → ax_L X M.2.2.2.1 ls L → ∃ as : Array Value,
      va_Run p l e R s m args below meth c H locs cells slots kc ks (F0 m pc ls (S.map (ax_cv (ax_ρ X)))) (st.map (ax_cv (ax_ρ X))) ((fun _ st oc t => oc = .returned (r.map (ax_cv (ax_ρ X))) ∧ ax_H X σ1 t.heap ∧ va_F (ax_A X) st t : Array Value → State → Outcome → State → Prop) as) (ax_A X))
    (kk : AW M d bc bs (pc + 3) L (r.toList ++ st) σ1 z) : AW M d (bc + kc) (bs + ks) pc L S σ z := by
  intro X p l e R s m args below meth c H locs cells slots Q ls C hcs hs hH hS hL hE
  obtain ⟨as, hr⟩ := hg X p l e R s m args below meth c H locs cells slots ls C hcs hs hH hS hL
  intro T hT X0
  obtain ⟨v, st₀, t, T', L2, h0, X', hL2, e1, e2, ⟨hv, hH1, hF⟩, stp⟩ := hr T hT X0
  have hv := Outcome.returned.inj hv
  subst hv
  obtain ⟨t2, a1, b1⟩ := kk X p l e R s m args below meth c t.heap (locs ++ L2) (cells + kc) (slots + ks) Q ls C (by omega) (by omega) hH1 (ax_S_call hS h0 hF hL2) hL hE T' e1 X'
  refine ⟨t2, stp t2 ?_, b1⟩
  have e3 : List.map (ax_cv (ax_ρ X)) (r.toList ++ st) = (r.map (ax_cv (ax_ρ X))).toList ++ List.map (ax_cv (ax_ρ X)) st := by
    cases r <;> simp
  rw [e3] at a1
  exact a1
theorem ax_invV {t b n : Nat} (hd : decode M.2.1 pc = .ok (.invokevirtual index, 3)) (hC : AC M2 y d2 kc ks (av_r (some b) :: As) σ (r, σ1)) (hsh : ax_sh σ t (some b) = some (b, n)) (hcl : (vwCl[t]?).map (fun q => q.1) = some y.cls)
    (hw1 : ax_cw M2 y) (hw2 : Cond.methodLink M.1 index y ∈ ax_WS) (hw3 : Cond.instanceMethod y ∈ ax_WS) (hw4 : Cond.selects y.cls y y ∈ ax_WS) (hy : ax_cy0 y As.length) (hdd : d2 + 1 ≤ d) (hml2 : M2.2.2.2.1 ≤ 40) (hst : ax_wd st ≤ 8) (hS0 : S = As.reverse ++ av_r (some b) :: st)
    (kk : AW M d bc bs (pc + 3) L (r.toList ++ st) σ1 z) : AW M d (bc + kc) (bs + ks) pc L S σ z := by
  refine ax_after ?_ kk
  intro X p l e R s m args below meth c H locs cells slots ls C hcs hs hH hS hL
  obtain ⟨hx, hb, hml, hown, hts, hret, hlk, hin, hdf, hdl, hok, hK, hG⟩ := id C
  obtain ⟨-, hsh⟩ := ax_sh_of hsh
  have ht : t < 8 := by
    cases hq : vwCl[t]? with
    | none => rw [hq] at hcl; cases hcl
    | some q => exact (List.getElem?_eq_some_iff.mp hq).1
  obtain ⟨h8, q', hc', -, cell, q1, q2, q3, q4⟩ := ax_at_obj (hH.2.2 b t n hsh) ht
  rw [hc'] at hcl
  have hcl := Option.some.inj hcl
  simp only at hcl
  have hfc := (hK.1.1 t _ hc').2.1
  rw [hcl, ← q2] at hfc
  have hGI := ax_goodIn hw1.1
  have hB : CallB R s args M.1 index y M2.2.1 M2.2.2.2.1 M2.2.2.1 (Cond.code y M2.2.1 M2.2.2.2.1 M2.2.2.1 :: ax_WS) { frames := d2, cells := kc, slots := ks, locals := 64 * d2 } kc ks As.length := callB_of As.length hts hGI rfl rfl rfl (hts _ hw1.2) (hts _ hw2) hy ⟨by show d2 + 1 ≤ _; omega, by show 8 + (_ + 11) + 64 * d2 ≤ _; omega⟩
  refine ⟨(Value.ref (ax_ρ X b) :: As.map (ax_cv (ax_ρ X))).toArray, va_runV (C := y.cls) (b := ax_ρ X b) (As := As.map (ax_cv (ax_ρ X))) ⟨hx, hb, hml, hown, hts⟩ (hC X l hok) ⟨hB, hts _ hw3, hts _ hw4⟩ ⟨ax_blind, ⟨cell, q1, by rw [q3]; rfl, hfc⟩, ax_pcU C hH hS _⟩ rfl (by simp) hL.1 ?_ ?_ hd ⟨by omega, by omega⟩⟩
  · rw [hS0]
    simp [ax_cv, va_rf]
  · rw [ax_wd_eq]
    show 2 * 0 + _ ≤ 8
    omega
theorem ax_invS (hd : decode M.2.1 pc = .ok (.invokestatic index, 3)) (hC : AC M2 y d2 kc ks As σ (r, σ1)) (hw1 : ax_cw M2 y) (hw2 : Cond.methodLink M.1 index y ∈ ax_WS) (hw3 : Cond.static y ∈ ax_WS) (hy : ax_cy0 y As.length) (hdd : d2 + 1 ≤ d) (hml2 : M2.2.2.2.1 ≤ 40) (hst : ax_wd st ≤ 8) (hS0 : S = As.reverse ++ st)
    (kk : AW M d bc bs (pc + 3) L (r.toList ++ st) σ1 z) : AW M d (bc + kc) (bs + ks) pc L S σ z := by
  refine ax_after ?_ kk
  intro X p l e R s m args below meth c H locs cells slots ls C hcs hs hH hS hL
  obtain ⟨hx, hb, hml, hown, hts, hret, hlk, hin, hdf, hdl, hok, hK, hG⟩ := id C
  have hB : CallB R s args M.1 index y M2.2.1 M2.2.2.2.1 M2.2.2.1 (Cond.code y M2.2.1 M2.2.2.2.1 M2.2.2.1 :: ax_WS) { frames := d2, cells := kc, slots := ks, locals := 64 * d2 } kc ks As.length := callB_of As.length hts (ax_goodIn hw1.1) rfl rfl rfl (hts _ hw1.2) (hts _ hw2) hy ⟨by show d2 + 1 ≤ _; omega, by show 8 + (_ + 11) + 64 * d2 ≤ _; omega⟩
  refine ⟨(As.map (ax_cv (ax_ρ X))).toArray, va_runS (As := As.map (ax_cv (ax_ρ X))) ⟨hx, hb, hml, hown, hts⟩ (hC X l hok) ⟨hB, hts _ hw3⟩ ⟨ax_blind, ax_pcU C hH hS _⟩ rfl (by simp) hL.1 ?_ ?_ hd ⟨by omega, by omega⟩⟩
  · rw [hS0]
    simp
  · rw [ax_wd_eq]
    show 2 * 0 + _ ≤ 8
    omega
theorem ax_invSN {host : String} (hd : decode M.2.1 pc = .ok (.invokestatic index, 3)) (hC : AC M2 y d2 kc ks As σ (r, σ1)) (hw1 : ax_cw M2 y) (hw2 : Cond.methodLinkNest M.1 index y host ∈ ax_NW) (hw3 : Cond.static y ∈ ax_WS) (hy : ax_cy0 y As.length) (hdd : d2 + 1 ≤ d) (hml2 : M2.2.2.2.1 ≤ 40) (hst : ax_wd st ≤ 8) (hS0 : S = As.reverse ++ st)
    (kk : AW M d bc bs (pc + 3) L (r.toList ++ st) σ1 z) : AW M d (bc + kc) (bs + ks) pc L S σ z := by
  refine ax_after ?_ kk
  intro X p l e R s m args below meth c H locs cells slots ls C hcs hs hH hS hL
  obtain ⟨hx, hb, hml, hown, hts, hret, hlk, hin, hdf, hdl, hok, hK, hG⟩ := id C
  have hB : va_CN R s args M.1 index y host M2.2.1 M2.2.2.2.1 M2.2.2.1 (Cond.code y M2.2.1 M2.2.2.2.1 M2.2.2.1 :: ax_WS) { frames := d2, cells := kc, slots := ks, locals := 64 * d2 } kc ks As.length := va_cnB As.length hts (ax_goodIn hw1.1) rfl rfl rfl (hK.2.2.2.1 _ hw2) (hts _ hw1.2) hy ⟨by show d2 + 1 ≤ _; omega, by show 8 + (_ + 11) + 64 * d2 ≤ _; omega⟩
  refine ⟨(As.map (ax_cv (ax_ρ X))).toArray, va_runSN (As := As.map (ax_cv (ax_ρ X))) ⟨hx, hb, hml, hown, hts⟩ (hC X l hok) ⟨hB, hts _ hw3, trivial⟩ ⟨ax_blind, ax_pcU C hH hS _⟩ rfl (by simp) hL.1 ?_ ?_ hd ⟨by omega, by omega⟩⟩
  · rw [hS0]
    simp
  · rw [ax_wd_eq]
    show 2 * 0 + _ ≤ 8
    omega
theorem ax_invI {b : Nat} (hd : decode M.2.1 pc = .ok (.invokespecial index, 3)) (hC : AC M2 y d2 kc ks (av_r (some b) :: As) σ (none, σ1)) (hn : y.name = "<init>") (hr2 : M2.2.2.1 = none)
    (hw1 : ax_cw M2 y) (hw2 : Cond.methodLink M.1 index y ∈ ax_WS) (hw3 : Cond.instanceMethod y ∈ ax_WS) (hy : ax_cy0 y As.length) (hdd : d2 + 1 ≤ d) (hml2 : M2.2.2.2.1 ≤ 40) (hst : ax_wd st ≤ 8) (hS0 : S = As.reverse ++ av_r (some b) :: st)
    (kk : AW M d bc bs (pc + 3) L st σ1 z) : AW M d (bc + kc) (bs + ks) pc L S σ z := by
  refine ax_after (r := none) ?_ kk
  intro X p l e R s m args below meth c H locs cells slots ls C hcs hs hH hS hL
  obtain ⟨hx, hb, hml, hown, hts, hret, hlk, hin, hdf, hdl, hok, hK, hG⟩ := id C
  have hB : CallB R s args M.1 index y M2.2.1 M2.2.2.2.1 M2.2.2.1 (Cond.code y M2.2.1 M2.2.2.2.1 M2.2.2.1 :: ax_WS) { frames := d2, cells := kc, slots := ks, locals := 64 * d2 } kc ks As.length := callB_of As.length hts (ax_goodIn hw1.1) rfl rfl rfl (hts _ hw1.2) (hts _ hw2) hy ⟨by show d2 + 1 ≤ _; omega, by show 8 + (_ + 11) + 64 * d2 ≤ _; omega⟩
  have hM := hC X l hok
  rw [hr2] at hB hM
  refine ⟨(Value.ref (ax_ρ X b) :: As.map (ax_cv (ax_ρ X))).toArray, va_runI (b := ax_ρ X b) (As := As.map (ax_cv (ax_ρ X))) ⟨hx, hb, hml, hown, hts⟩ hM ⟨hB, hn, hts _ hw3⟩ ⟨ax_blind, ax_pcU C hH hS _⟩ rfl (by simp) hL.1 ?_ ?_ hd ⟨by omega, by omega⟩⟩
  · rw [hS0]
    simp [ax_cv, va_rf]
  · rw [ax_wd_eq]
    show 2 * 0 + _ ≤ 8
    omega
theorem ax_invIN {b : Nat} {host : String} (hd : decode M.2.1 pc = .ok (.invokespecial index, 3)) (hC : AC M2 y d2 kc ks (av_r (some b) :: As) σ (none, σ1)) (hn : y.name = "<init>") (hr2 : M2.2.2.1 = none)
    (hw1 : ax_cw M2 y) (hw2 : Cond.methodLinkNest M.1 index y host ∈ ax_NW) (hw3 : Cond.instanceMethod y ∈ ax_WS) (hy : ax_cy0 y As.length) (hdd : d2 + 1 ≤ d) (hml2 : M2.2.2.2.1 ≤ 40) (hst : ax_wd st ≤ 8) (hS0 : S = As.reverse ++ av_r (some b) :: st)
    (kk : AW M d bc bs (pc + 3) L st σ1 z) : AW M d (bc + kc) (bs + ks) pc L S σ z := by
  refine ax_after (r := none) ?_ kk
  intro X p l e R s m args below meth c H locs cells slots ls C hcs hs hH hS hL
  obtain ⟨hx, hb, hml, hown, hts, hret, hlk, hin, hdf, hdl, hok, hK, hG⟩ := id C
  have hB : va_CN R s args M.1 index y host M2.2.1 M2.2.2.2.1 M2.2.2.1 (Cond.code y M2.2.1 M2.2.2.2.1 M2.2.2.1 :: ax_WS) { frames := d2, cells := kc, slots := ks, locals := 64 * d2 } kc ks As.length := va_cnB As.length hts (ax_goodIn hw1.1) rfl rfl rfl (hK.2.2.2.1 _ hw2) (hts _ hw1.2) hy ⟨by show d2 + 1 ≤ _; omega, by show 8 + (_ + 11) + 64 * d2 ≤ _; omega⟩
  have hM := hC X l hok
  rw [hr2] at hB hM
  refine ⟨(Value.ref (ax_ρ X b) :: As.map (ax_cv (ax_ρ X))).toArray, va_runIN (b := ax_ρ X b) (As := As.map (ax_cv (ax_ρ X))) ⟨hx, hb, hml, hown, hts⟩ hM ⟨hB, hn, hts _ hw3⟩ ⟨ax_blind, ax_pcU C hH hS _⟩ rfl (by simp) hL.1 ?_ ?_ hd ⟨by omega, by omega⟩⟩
  · rw [hS0]
    simp [ax_cv, va_rf]
  · rw [ax_wd_eq]
    show 2 * 0 + _ ≤ 8
    omega
/-- Object() -/
theorem ax_obj {b : Nat} (hd : decode M.2.1 pc = .ok (.invokespecial index, 3)) (hw1 : Cond.methodLink M.1 index Lib.objectInit ∈ ax_WS) (hw2 : Cond.instanceMethod Lib.objectInit ∈ ax_WS) (hw3 : Cond.code Lib.objectInit ⟨#[0xb1]⟩ 1 none ∈ ax_WS) (hdd : 1 ≤ d) (hst : ax_wd st ≤ 8)
    (kk : AW M d bc bs (pc + 3) L st σ z) : AW M d bc bs pc L (av_r (some b) :: st) σ z := by
  intro X p l e R s m args below meth c H locs cells slots Q ls C hcs hs hH hS hL hE
  obtain ⟨hx, hb, hml, hown, hts, hret, hlk, hin, hdf, hdl, hok, hK, hG⟩ := id C
  refine W.objInit hx hb hown (hts _ hw1) (hts _ hw2) (hts _ hw3) rfl (hL.1.trans hml.symm) rfl hd (by omega) ?_ (kk X p l e R s m args below meth c H locs cells slots Q ls C hcs hs hH hS hL hE)
  rw [ax_wd_eq]
  show 2 * 0 + _ + 12 ≤ _
  omega
theorem ax_max {x v : Int32} (hd : decode M.2.1 pc = .ok (.invokestatic index, 3)) (hw1 : Cond.methodLink M.1 index Lib.Math.max.name ∈ ax_WS) (hw2 : Cond.static Lib.Math.max.name ∈ ax_WS) (hw3 : Cond.initialized "java/lang/Math" ∈ ax_WS) (hw4 : Cond.code Lib.Math.max.name Lib.Math.max.code 2 (some .int) ∈ ax_WS) (hdd : 1 ≤ d) (hst : ax_wd st ≤ 8)
    (kk : AW M d bc bs (pc + 3) L (av_i (if x < v then v else x) :: st) σ z) : AW M d bc bs pc L (av_i v :: av_i x :: st) σ z := by
  intro X p l e R s m args below meth c H locs cells slots Q ls C hcs hs hH hS hL hE
  obtain ⟨hx, hb, hml, hown, hts, hret, hlk, hin, hdf, hdl, hok, hK, hG⟩ := id C
  exact va_mmax hx hb (hml.trans hL.1.symm) hown (hts _ hw1) (hts _ hw2) (hts _ hw3) (hts _ hw4) (by omega) (by rw [ax_wd_eq]; omega) (by omega) (by omega) hd (kk X p l e R s m args below meth c H locs cells slots Q ls C hcs hs hH hS hL hE)
theorem ax_min {x v : Int32} (hd : decode M.2.1 pc = .ok (.invokestatic index, 3)) (hw1 : Cond.methodLink M.1 index Lib.Math.min.name ∈ ax_WS) (hw2 : Cond.static Lib.Math.min.name ∈ ax_WS) (hw3 : Cond.initialized "java/lang/Math" ∈ ax_WS) (hw4 : Cond.code Lib.Math.min.name Lib.Math.min.code 2 (some .int) ∈ ax_WS) (hdd : 1 ≤ d) (hst : ax_wd st ≤ 8)
    (kk : AW M d bc bs (pc + 3) L (av_i (if v < x then v else x) :: st) σ z) : AW M d bc bs pc L (av_i v :: av_i x :: st) σ z := by
  intro X p l e R s m args below meth c H locs cells slots Q ls C hcs hs hH hS hL hE
  obtain ⟨hx, hb, hml, hown, hts, hret, hlk, hin, hdf, hdl, hok, hK, hG⟩ := id C
  exact va_mmin hx hb (hml.trans hL.1.symm) hown (hts _ hw1) (hts _ hw2) (hts _ hw3) (hts _ hw4) (by omega) (by rw [ax_wd_eq]; omega) (by omega) (by omega) hd (kk X p l e R s m args below meth c H locs cells slots Q ls C hcs hs hH hS hL hE)
theorem ax_abs {x : Int32} (hd : decode M.2.1 pc = .ok (.invokestatic index, 3)) (hw1 : Cond.methodLink M.1 index Lib.Math.abs.name ∈ ax_WS) (hw2 : Cond.static Lib.Math.abs.name ∈ ax_WS) (hw3 : Cond.initialized "java/lang/Math" ∈ ax_WS) (hw4 : Cond.code Lib.Math.abs.name Lib.Math.abs.code 1 (some .int) ∈ ax_WS) (hdd : 1 ≤ d) (hst : ax_wd st ≤ 8)
    (kk : AW M d bc bs (pc + 3) L (av_i (if 0 ≤ x then x else 0 - x) :: st) σ z) : AW M d bc bs pc L (av_i x :: st) σ z := by
  intro X p l e R s m args below meth c H locs cells slots Q ls C hcs hs hH hS hL hE
  obtain ⟨hx, hb, hml, hown, hts, hret, hlk, hin, hdf, hdl, hok, hK, hG⟩ := id C
  exact va_mabs hx hb (hml.trans hL.1.symm) hown (hts _ hw1) (hts _ hw2) (hts _ hw3) (hts _ hw4) (by omega) (by rw [ax_wd_eq]; omega) (by omega) (by omega) hd (kk X p l e R s m args below meth c H locs cells slots Q ls C hcs hs hH hS hL hE)
/-- a static table of Kinds -/
theorem ax_gets {i : Nat} (hd : decode M.2.1 pc = .ok (.getstatic index, 3)) (hi : i < 6) (hw : Cond.fieldLink M.1 index RX2 (ax_kn i) "[I" ∈ ax_WS) (kk : AW M d bc bs (pc + 3) L (av_r (some i) :: st) σ z) : AW M d bc bs pc L st σ z := by
  intro X p l e R s m args below meth c H locs cells slots Q ls C hcs hs hH hS hL hE
  obtain ⟨hx, hb, hml, hown, hts, hret, hlk, hin, hdf, hdl, hok, hK, hG⟩ := id C
  exact va_gets hx hb (hG.1 i hi) hS hown (hts _ hw) (fun _ h => h) hd (kk X p l e R s m args below meth c H locs cells slots Q ls C hcs hs hH hS hL hE)
/-- the String constant, its fields, and the switch of compact strings -/
theorem ax_gets2 (hd : decode M.2.1 pc = .ok (.getstatic index, 3)) (hw : Cond.fieldLink M.1 index "java/lang/String" "COMPACT_STRINGS" "Z" ∈ ax_WS) (kk : AW M d bc bs (pc + 3) L (av_i 1 :: st) σ z) : AW M d bc bs pc L st σ z := by
  intro X p l e R s m args below meth c H locs cells slots Q ls C hcs hs hH hS hL hE
  obtain ⟨hx, hb, hml, hown, hts, hret, hlk, hin, hdf, hdl, hok, hK, hG⟩ := id C
  exact va_gets hx hb hG.2.1 hS hown (hts _ hw) (fun _ h => h) hd (kk X p l e R s m args below meth c H locs cells slots Q ls C hcs hs hH hS hL hE)
theorem ax_ldcS (hd : decode M.2.1 pc = .ok (.ldc 68, 2)) (hM : M.1 = RX6) (kk : AW M d bc bs (pc + 2) L (av_r (some 8) :: st) σ z) : AW M d bc bs pc L st σ z := by
  intro X p l e R s m args below meth c H locs cells slots Q ls C hcs hs hH hS hL hE
  obtain ⟨hx, hb, hml, hown, hts, hret, hlk, hin, hdf, hdl, hok, hK, hG⟩ := id C
  rw [hM] at hown
  exact va_ldcS hx hb hown hK.2.2.2.2 hd (kk X p l e R s m args below meth c H locs cells slots Q ls C hcs hs hH hS hL hE)
theorem ax_getSc (hd : decode M.2.1 pc = .ok (.getfield index, 3)) (hw : Cond.fieldLink M.1 index "java/lang/String" "coder" "B" ∈ ax_WS) (kk : AW M d bc bs (pc + 3) L (av_i 0 :: st) σ z) : AW M d bc bs pc L (av_r (some 8) :: st) σ z := by
  intro X p l e R s m args below meth c H locs cells slots Q ls C hcs hs hH hS hL hE
  obtain ⟨hx, hb, hml, hown, hts, hret, hlk, hin, hdf, hdl, hok, hK, hG⟩ := id C
  exact vk_getf hx hb hG.2.2.2.1 hS hown (hts _ hw) (fun _ h => h) hd (kk X p l e R s m args below meth c H locs cells slots Q ls C hcs hs hH hS hL hE)
theorem ax_getSv (hd : decode M.2.1 pc = .ok (.getfield index, 3)) (hw : Cond.fieldLink M.1 index "java/lang/String" "value" "[B" ∈ ax_WS) (kk : AW M d bc bs (pc + 3) L (av_r (some 7) :: st) σ z) : AW M d bc bs pc L (av_r (some 8) :: st) σ z := by
  intro X p l e R s m args below meth c H locs cells slots Q ls C hcs hs hH hS hL hE
  obtain ⟨hx, hb, hml, hown, hts, hret, hlk, hin, hdf, hdl, hok, hK, hG⟩ := id C
  exact vk_getf hx hb hG.2.2.2.2 hS hown (hts _ hw) (fun _ h => h) hd (kk X p l e R s m args below meth c H locs cells slots Q ls C hcs hs hH hS hL hE)
/-- a call of the String constant -/
theorem ax_invVS (hd : decode M.2.1 pc = .ok (.invokevirtual index, 3)) (hC : AC M2 y d2 kc ks (av_r (some 8) :: As) σ (r, σ1)) (hcl : y.cls = "java/lang/String")
    (hw1 : ax_cw M2 y) (hw2 : Cond.methodLink M.1 index y ∈ ax_WS) (hw3 : Cond.instanceMethod y ∈ ax_WS) (hw4 : Cond.selects y.cls y y ∈ ax_WS) (hy : ax_cy0 y As.length) (hdd : d2 + 1 ≤ d) (hml2 : M2.2.2.2.1 ≤ 40) (hst : ax_wd st ≤ 8) (hS0 : S = As.reverse ++ av_r (some 8) :: st)
    (kk : AW M d bc bs (pc + 3) L (r.toList ++ st) σ1 z) : AW M d (bc + kc) (bs + ks) pc L S σ z := by
  refine ax_after ?_ kk
  intro X p l e R s m args below meth c H locs cells slots ls C hcs hs hH hS hL
  obtain ⟨hx, hb, hml, hown, hts, hret, hlk, hin, hdf, hdl, hok, hK, hG⟩ := id C
  obtain ⟨cell, g1, g2, g3, -⟩ := hG.2.2.1.kept hS.2.1
  rw [← hcl] at g3
  have hB : CallB R s args M.1 index y M2.2.1 M2.2.2.2.1 M2.2.2.1 (Cond.code y M2.2.1 M2.2.2.2.1 M2.2.2.1 :: ax_WS) { frames := d2, cells := kc, slots := ks, locals := 64 * d2 } kc ks As.length := callB_of As.length hts (ax_goodIn hw1.1) rfl rfl rfl (hts _ hw1.2) (hts _ hw2) hy ⟨by show d2 + 1 ≤ _; omega, by show 8 + (_ + 11) + 64 * d2 ≤ _; omega⟩
  refine ⟨(Value.ref (ax_ρ X 8) :: As.map (ax_cv (ax_ρ X))).toArray, va_runV (C := y.cls) (b := ax_ρ X 8) (As := As.map (ax_cv (ax_ρ X))) ⟨hx, hb, hml, hown, hts⟩ (hC X l hok) ⟨hB, hts _ hw3, hts _ hw4⟩ ⟨ax_blind, ⟨cell, g1, g2, g3⟩, ax_pcU C hH hS _⟩ rfl (by simp) hL.1 ?_ ?_ hd ⟨by omega, by omega⟩⟩
  · rw [hS0]
    simp [ax_cv, va_rf]
  · rw [ax_wd_eq]
    show 2 * 0 + _ ≤ 8
    omega
end AXC
end
section
/-! ===== System.arraycopy ===== -/
section AXY
variable {M : ax_M} {d bc bs pc index : Nat} {L : List (Option ax_V)} {st : List ax_V} {σ σ1 : ax_S} {z : Option ax_V × ax_S}
theorem ax_cy_of {r w : Option Nat} {sp dp n : Int32} (h : ax_cy σ r sp w dp n = some σ1) : ∃ a b na nb, r = some a ∧ w = some b ∧ 9 ≤ a ∧ 9 ≤ b ∧ a ≠ b ∧ σ.1[a]? = some (9, na) ∧ σ.1[b]? = some (9, nb) ∧ ¬ sp < 0 ∧ ¬ dp < 0 ∧ ¬ n < 0 ∧ sp.toNatClampNeg + n.toNatClampNeg ≤ na ∧ dp.toNatClampNeg + n.toNatClampNeg ≤ nb ∧ σ1 = (σ.1, (fun c k => if c = b then va_cpy (σ.2.1 a) (σ.2.1 b) sp.toNatClampNeg dp.toNatClampNeg n.toNatClampNeg k else σ.2.1 c k), σ.2.2) := by
  obtain ⟨⟨a, na⟩, h1, h2⟩ := Option.bind_eq_some_iff.mp h
  obtain ⟨⟨b, nb⟩, h3, h4⟩ := Option.bind_eq_some_iff.mp h2
  obtain ⟨e1, e2⟩ := ax_sh_of h1
  obtain ⟨e3, e4⟩ := ax_sh_of h3
  split at h4
  · cases h4
  · rename_i hn
    simp only [not_or] at hn
    obtain ⟨n1, n2, n3, n4, n5, n6, n7, n8⟩ := hn
    cases h4
    exact ⟨a, b, na, nb, e1, e3, by omega, by omega, n3, e2, e4, n4, n5, n6, by omega, by omega, rfl⟩
theorem ax_copy {r w : Option Nat} {sp dp n : Int32} (hd : decode M.2.1 pc = .ok (.invokestatic index, 3)) (hw1 : Cond.methodLink M.1 index arraycopyName ∈ ax_WS) (hw2 : Cond.native arraycopyName ∈ ax_WS) (hw3 : Cond.static arraycopyName ∈ ax_WS) (hw4 : Cond.initialized "java/lang/System" ∈ ax_WS) (hdd : 1 ≤ d) (hst : ax_wd st ≤ 8) (h : ax_cy σ r sp w dp n = some σ1)
    (kk : AW M d bc bs (pc + 3) L st σ1 z) : AW M d bc bs pc L (av_i n :: av_i dp :: av_r w :: av_i sp :: av_r r :: st) σ z := by
  intro X p l e R s m args below meth c H locs cells slots Q ls C hcs hs hH hS hL hE
  obtain ⟨hx, hb, hml, hown, hts, hret, hlk, hin, hdf, hdl, hok, hK, hG⟩ := id C
  obtain ⟨a, b, na, nb, rfl, rfl, ha8, hb8, hne, hsa, hsb, h1, h2, h3, h4, h5, rfl⟩ := ax_cy_of h
  have nn : ∀ z : Int32, ¬ z < 0 → z.toInt = (z.toNatClampNeg : Int) := by
    intro z hz
    have hz0 : (0 : Int) ≤ z.toInt := by
      have := Int32.not_lt.mp hz
      simpa using Int32.le_iff_toInt_le.mp this
    show z.toInt = ((z.toInt.toNat : Nat) : Int)
    omega
  have hI : ∀ k, ax_isI 9 k = true := fun k => rfl
  obtain ⟨ca, g1, g2, g3, g4, -, g6⟩ := ax_at_arr hK (hH.2.2 a _ na hsa) (by omega) (by omega)
  have g6 := g6 ha8
  obtain ⟨cb, f1, f2, f3, f4, -, f6⟩ := ax_at_arr hK (hH.2.2 b _ nb hsb) (by omega) (by omega)
  have f6 := f6 hb8
  have hca : ca = vp_cell (X.2.1 9) (na, .inl (σ.2.1 a)) := by
    rw [g6, vp_cell_i]
    congr 1
  have hcb : cb = vp_cell (X.2.1 9) (nb, .inl (σ.2.1 b)) := by
    rw [f6, vp_cell_i]
    congr 1
  subst hca
  subst hcb
  obtain ⟨-, k0, hk0, cm0, hkk0⟩ := (hK.2.1 9 (by omega) (by omega)).1 na (fun j => .int (σ.2.1 a j))
  intro T hT X0
  obtain ⟨vm', X', step⟩ := X0.arraycopy hx hown (hts _ hw1) (hts _ hw2) (hts _ hw3) (hts _ hw4) (src := ax_ρ X a) (dst := ax_ρ X b) (cs := vp_cell (X.2.1 9) (na, .inl (σ.2.1 a))) (cd := vp_cell (X.2.1 9) (nb, .inl (σ.2.1 b))) (srcPos := sp) (destPos := dp) (n := n) (by rw [hT]; exact g1) (by rw [hT]; exact f1)
    (fun _ h => by cases h) (fun _ h => by cases h) (fun h => by cases h) (fun h => by cases h) hk0 hk0 hkk0 hkk0 (by rfl) h1 h2 h3
    (by rw [nn sp h1, nn n h3]; show ¬ _ > ((arrV (X.2.1 9) na (fun j => .int (σ.2.1 a j))).slots.size : Int); rw [arrV_size]; omega)
    (by rw [nn dp h2, nn n h3]; show ¬ _ > ((arrV (X.2.1 9) nb (fun j => .int (σ.2.1 b j))).slots.size : Int); rw [arrV_size]; omega)
    (fun vm₁ _ i hi => by
      have e : (vp_cell (X.2.1 9) (na, .inl (σ.2.1 a))).slots.getD (sp.toNatClampNeg + i) .null = .int (σ.2.1 a (sp.toNatClampNeg + i)) := by
        show (arrV (X.2.1 9) na (fun j => .int (σ.2.1 a j))).slots.getD _ _ = _
        rw [Array.getD_eq_getD_getElem?, arrV_read _ _ (by omega)]
        rfl
      refine ⟨?_, ?_⟩
      · rw [e]
        rfl
      · rw [e]
        exact trivial)
    (g := F0 m pc ls (.int n :: .int dp :: .ref (ax_ρ X b) :: .int sp :: .ref (ax_ρ X a) :: st.map (ax_cv (ax_ρ X)))) rfl (by rw [hml]; exact hL.1) (rest := st.map (ax_cv (ax_ρ X))) rfl (by rw [hb]; exact hd) (by omega) (by
      rw [ax_wd_eq]
      have : nativeFrameWords "java/lang/System" "arraycopy" 5 ≤ 40 := by decide +kernel
      show 2 * 0 + _ + _ ≤ _
      omega)
  have e1 : copied (vp_cell (X.2.1 9) (na, .inl (σ.2.1 a))) (vp_cell (X.2.1 9) (nb, .inl (σ.2.1 b))) sp dp n = vp_cell (X.2.1 9) (nb, .inl (va_cpy (σ.2.1 a) (σ.2.1 b) sp.toNatClampNeg dp.toNatClampNeg n.toNatClampNeg)) := va_copied (fun z => .int z) (X.2.1 9) (X.2.1 9) (σ.2.1 a) (σ.2.1 b) h4
  rw [e1] at X' step
  have hl : ax_ρ X b < H.size := (Array.getElem?_eq_some_iff.mp f1).1
  generalize hnc : vp_cell (X.2.1 9) (nb, .inl (va_cpy (σ.2.1 a) (σ.2.1 b) sp.toNatClampNeg dp.toNatClampNeg n.toNatClampNeg)) = nc at X' step
  have hheap : ((T.setVm vm').setCell (ax_ρ X b) nc).heap = H.setIfInBounds (ax_ρ X b) nc := by rw [← hT]; rfl
  have oq : ∀ q : Nat, q ≠ ax_ρ X b → (H.setIfInBounds (ax_ρ X b) nc)[q]? = H[q]? := fun q hq => by simp [Array.getElem?_setIfInBounds, Ne.symm hq]
  have hself : (H.setIfInBounds (ax_ρ X b) nc)[ax_ρ X b]? = some nc := by simp [Array.getElem?_setIfInBounds, hl]
  have hH2 : ax_H X (σ.1, (fun c k => if c = b then va_cpy (σ.2.1 a) (σ.2.1 b) sp.toNatClampNeg dp.toNatClampNeg n.toNatClampNeg k else σ.2.1 c k), σ.2.2) (H.setIfInBounds (ax_ρ X b) nc) := by
    refine hH.upd hok hb8 rfl (by simp) oq (fun c hc k => if_neg hc) (fun c hc k => rfl) (fun t' n' hsh' => ?_)
    cases hsb.symm.trans hsh'
    unfold ax_at
    rw [if_neg (by omega), if_neg (by omega), if_neg (by omega)]
    refine ⟨by omega, hself.trans ?_⟩
    rw [← hnc, vp_cell_i]
    congr 2
    funext j
    simp [ax_sv, hI]
    rfl
  have hS2 : va_S (ax_A X) s.heap (H.setIfInBounds (ax_ρ X b) nc) locs := ⟨by simpa using hS.1, fun q g1 g2 => by
      rw [oq q (fun e => g2 (by rw [e]; exact ax_ρ_A hok hb8))]
      exact hS.2.1 q g1 g2, hS.2.2⟩
  obtain ⟨t, a1, b1⟩ := kk X p l e R s m args below meth c _ _ cells slots Q ls C hcs hs hH2 ⟨hS2.1, hS2.2.1, fun q hq => by
      rcases List.mem_append.mp hq with h | h
      · exact hS.2.2 q h
      · obtain ⟨z, -, hz⟩ := List.mem_map.mp h
        rw [← hz]
        exact ax_ρ_A hok hb8⟩ hL hE _ hheap X'
  exact ⟨t, step t a1, b1⟩
end AXY
end
section
/-! ===== calls without new cells, in the form that the program lays them; words by their places ===== -/
theorem ax_wi {w : Cond} (i : Nat) (h : lw_tbl[i]? = some w) (hg : goodWord w = true) : w ∈ ax_WS := List.mem_filter.mpr ⟨List.mem_of_getElem? h, hg⟩
theorem ax_wn {w : Cond} (i : Nat) (h : lw_tbl[i]? = some w) (hg : ax_isN w = true) : w ∈ ax_NW := List.mem_filter.mpr ⟨List.mem_of_getElem? h, hg⟩
section AXD
variable {M M2 : ax_M} {y : MethodName} {d d2 pc index : Nat} {L : List (Option ax_V)} {st S As : List ax_V} {σ σ1 : ax_S} {z : Option ax_V × ax_S} {r : Option ax_V}
theorem ax_cV {t : Nat} {th : Option Nat} {a : Nat × Nat} (hd : decode M.2.1 pc = .ok (.invokevirtual index, 3)) (hsh : ax_sh σ t th = some a) (hC : AC M2 y d2 0 0 (av_r th :: As) σ (r, σ1)) (hcl : (vwCl[t]?).map (fun q => q.1) = some y.cls)
    (hw1 : ax_cw M2 y) (hw2 : Cond.methodLink M.1 index y ∈ ax_WS) (hw3 : Cond.instanceMethod y ∈ ax_WS) (hw4 : Cond.selects y.cls y y ∈ ax_WS) (hy : ax_cy0 y As.length) (hdd : d2 + 1 ≤ d) (hml2 : M2.2.2.2.1 ≤ 40) (hst : ax_wd st ≤ 8) (hS0 : S = As.reverse ++ av_r th :: st)
    (kk : AW M d 0 0 (pc + 3) L (r.toList ++ st) σ1 z) : AW M d 0 0 pc L S σ z := by
  obtain ⟨a, n⟩ := a
  obtain ⟨rfl, -⟩ := ax_sh_of hsh
  exact ax_invV (bc := 0) (bs := 0) (kc := 0) (ks := 0) hd hC hsh hcl hw1 hw2 hw3 hw4 hy hdd hml2 hst hS0 kk
theorem ax_cS (hd : decode M.2.1 pc = .ok (.invokestatic index, 3)) (hC : AC M2 y d2 0 0 As σ (r, σ1)) (hw1 : ax_cw M2 y) (hw2 : Cond.methodLink M.1 index y ∈ ax_WS) (hw3 : Cond.static y ∈ ax_WS) (hy : ax_cy0 y As.length) (hdd : d2 + 1 ≤ d) (hml2 : M2.2.2.2.1 ≤ 40) (hst : ax_wd st ≤ 8) (hS0 : S = As.reverse ++ st)
    (kk : AW M d 0 0 (pc + 3) L (r.toList ++ st) σ1 z) : AW M d 0 0 pc L S σ z := ax_invS (bc := 0) (bs := 0) (kc := 0) (ks := 0) hd hC hw1 hw2 hw3 hy hdd hml2 hst hS0 kk
theorem ax_cSN {host : String} (hd : decode M.2.1 pc = .ok (.invokestatic index, 3)) (hC : AC M2 y d2 0 0 As σ (r, σ1)) (hw1 : ax_cw M2 y) (hw2 : Cond.methodLinkNest M.1 index y host ∈ ax_NW) (hw3 : Cond.static y ∈ ax_WS) (hy : ax_cy0 y As.length) (hdd : d2 + 1 ≤ d) (hml2 : M2.2.2.2.1 ≤ 40) (hst : ax_wd st ≤ 8) (hS0 : S = As.reverse ++ st)
    (kk : AW M d 0 0 (pc + 3) L (r.toList ++ st) σ1 z) : AW M d 0 0 pc L S σ z := ax_invSN (bc := 0) (bs := 0) (kc := 0) (ks := 0) hd hC hw1 hw2 hw3 hy hdd hml2 hst hS0 kk
theorem ax_cVS (hd : decode M.2.1 pc = .ok (.invokevirtual index, 3)) (hC : AC M2 y d2 0 0 (av_r (some 8) :: As) σ (r, σ1)) (hcl : y.cls = "java/lang/String")
    (hw1 : ax_cw M2 y) (hw2 : Cond.methodLink M.1 index y ∈ ax_WS) (hw3 : Cond.instanceMethod y ∈ ax_WS) (hw4 : Cond.selects y.cls y y ∈ ax_WS) (hy : ax_cy0 y As.length) (hdd : d2 + 1 ≤ d) (hml2 : M2.2.2.2.1 ≤ 40) (hst : ax_wd st ≤ 8) (hS0 : S = As.reverse ++ av_r (some 8) :: st)
    (kk : AW M d 0 0 (pc + 3) L (r.toList ++ st) σ1 z) : AW M d 0 0 pc L S σ z := ax_invVS (bc := 0) (bs := 0) (kc := 0) (ks := 0) hd hC hcl hw1 hw2 hw3 hw4 hy hdd hml2 hst hS0 kk
/-- a constructor's call: the receiver is an object of this kind -/
theorem ax_cI {bc bs kc ks : Nat} {th : Option Nat} {t : Nat} {a : Nat × Nat} (hd : decode M.2.1 pc = .ok (.invokespecial index, 3)) (hsh : ax_sh σ t th = some a) (hC : AC M2 y d2 kc ks (av_r th :: As) σ (none, σ1)) (hn : y.name = "<init>") (hr2 : M2.2.2.1 = none)
    (hw1 : ax_cw M2 y) (hw2 : Cond.methodLink M.1 index y ∈ ax_WS) (hw3 : Cond.instanceMethod y ∈ ax_WS) (hy : ax_cy0 y As.length) (hdd : d2 + 1 ≤ d) (hml2 : M2.2.2.2.1 ≤ 40) (hst : ax_wd st ≤ 8) (hS0 : S = As.reverse ++ av_r th :: st)
    (kk : AW M d bc bs (pc + 3) L st σ1 z) : AW M d (bc + kc) (bs + ks) pc L S σ z := by
  obtain ⟨a, n⟩ := a
  obtain ⟨rfl, -⟩ := ax_sh_of hsh
  exact ax_invI hd hC hn hr2 hw1 hw2 hw3 hy hdd hml2 hst hS0 kk
theorem ax_cIN {bc bs kc ks : Nat} {th : Option Nat} {t : Nat} {a : Nat × Nat} {host : String} (hd : decode M.2.1 pc = .ok (.invokespecial index, 3)) (hsh : ax_sh σ t th = some a) (hC : AC M2 y d2 kc ks (av_r th :: As) σ (none, σ1)) (hn : y.name = "<init>") (hr2 : M2.2.2.1 = none)
    (hw1 : ax_cw M2 y) (hw2 : Cond.methodLinkNest M.1 index y host ∈ ax_NW) (hw3 : Cond.instanceMethod y ∈ ax_WS) (hy : ax_cy0 y As.length) (hdd : d2 + 1 ≤ d) (hml2 : M2.2.2.2.1 ≤ 40) (hst : ax_wd st ≤ 8) (hS0 : S = As.reverse ++ av_r th :: st)
    (kk : AW M d bc bs (pc + 3) L st σ1 z) : AW M d (bc + kc) (bs + ks) pc L S σ z := by
  obtain ⟨a, n⟩ := a
  obtain ⟨rfl, -⟩ := ax_sh_of hsh
  exact ax_invIN hd hC hn hr2 hw1 hw2 hw3 hy hdd hml2 hst hS0 kk
theorem ax_cO {bc bs : Nat} {th : Option Nat} {t : Nat} {a : Nat × Nat} (hd : decode M.2.1 pc = .ok (.invokespecial index, 3)) (hsh : ax_sh σ t th = some a) (hw1 : Cond.methodLink M.1 index Lib.objectInit ∈ ax_WS) (hw2 : Cond.instanceMethod Lib.objectInit ∈ ax_WS) (hw3 : Cond.code Lib.objectInit ⟨#[0xb1]⟩ 1 none ∈ ax_WS) (hdd : 1 ≤ d) (hst : ax_wd st ≤ 8)
    (kk : AW M d bc bs (pc + 3) L st σ z) : AW M d bc bs pc L (av_r th :: st) σ z := by
  obtain ⟨a, n⟩ := a
  obtain ⟨rfl, -⟩ := ax_sh_of hsh
  exact ax_obj hd hw1 hw2 hw3 hdd hst kk
/-- an answer of a boolean method is 0 or 1 -/
def ax_bz (o : Option (Int32 × ax_S)) : Option (Int32 × ax_S) := o.bind (fun q => if q.1 = 0 ∨ q.1 = 1 then some q else none)
theorem ax_bz_of {o : Option (Int32 × ax_S)} {q : Int32 × ax_S} (h : ax_bz o = some q) : o = some q ∧ narrow .boolean (.int q.1) = .int q.1 := by
  obtain ⟨q', h1, h2⟩ := Option.bind_eq_some_iff.mp h
  split at h2
  · rename_i hc
    cases h2
    refine ⟨h1, ?_⟩
    rcases hc with hc | hc <;> rw [hc] <;> rfl
  · cases h2
def ax_by (o : Option (Int32 × ax_S)) : Option (Int32 × ax_S) := o.bind (fun q => if q.1.toInt8.toInt32 = q.1 then some q else none)
theorem ax_by_of {o : Option (Int32 × ax_S)} {q : Int32 × ax_S} (h : ax_by o = some q) : o = some q ∧ narrow .byte (.int q.1) = .int q.1 := by
  obtain ⟨q', h1, h2⟩ := Option.bind_eq_some_iff.mp h
  split at h2
  · rename_i hc
    cases h2
    exact ⟨h1, by show Value.int q.1.toInt8.toInt32 = _; rw [hc]⟩
  · cases h2
theorem ax_01_of {x y : Int32} (h : ax_01 x = some y) : narrow .boolean (.int x) = .int x ∧ fits .boolean (.int x) = true := by
  unfold ax_01 at h
  split at h
  · rename_i hc
    rcases hc with hc | hc <;> rw [hc] <;> exact ⟨rfl, rfl⟩
  · cases h
end AXD
end
