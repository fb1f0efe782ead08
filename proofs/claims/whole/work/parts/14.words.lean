def wdl_0 : List Cond := [Cond.selects RX1 yX1_arrange yX1_arrange, Cond.selects RX1 yX1_firstReady yX1_firstReady, Cond.selects RX1 yX1_depthBehindInputs yX1_depthBehindInputs, Cond.selects RX0 yX0_remove yX0_remove, Cond.selects RX9 yX9_ask yX9_ask, Cond.selects RX0 yX0_touch yX0_touch, Cond.selects RX0 yX0_dropOldest yX0_dropOldest, Cond.selects RX6 yX6_expression yX6_expression, Cond.selects RX6 yX6_kindHere yX6_kindHere, Cond.selects RX6 yX6_expect yX6_expect, Cond.selects RX6 yX6_readNumber yX6_readNumber, Cond.selects RX6 yX6_readDigits yX6_readDigits, Cond.selects RX6 yX6_newNode yX6_newNode, Cond.selects RX6 yX6_nextExpression yX6_nextExpression, Cond.selects RX6 yX6_fill yX6_fill, Cond.selects RX9 yX9_mixNode yX9_mixNode, Cond.selects RX10 yX10_adds yX10_adds, Cond.selects RX10 yX10_isInput yX10_isInput, Cond.selects RX10 yX10_isNode yX10_isNode, Cond.selects RX10 yX10_kind yX10_kind, Cond.selects RX10 yX10_dependents yX10_dependents, Cond.selects RX10 yX10_voids yX10_voids, Cond.selects RX10 yX10_drops yX10_drops, Cond.selects RX10 yX10_isParameter yX10_isParameter, Cond.selects RX10 yX10_nodeTells yX10_nodeTells, Cond.selects RX10 yX10_placeOf yX10_placeOf, Cond.selects RX10 yX10_isReady yX10_isReady, Cond.selects RX10 yX10_depthOf yX10_depthOf, Cond.selects RX10 yX10_isPicture yX10_isPicture, Cond.selects RX10 yX10_picture yX10_picture, Cond.selects RX10 yX10_asks yX10_asks, Cond.selects RX10 yX10_find yX10_find, Cond.selects RX10 yX10_uses yX10_uses, Cond.selects RX10 yX10_isInRange yX10_isInRange, Cond.selects RX10 yX10_makes yX10_makes, Cond.selects RX10 yX10_makesRoom yX10_makesRoom, Cond.selects RX10 yX10_oldest yX10_oldest, Cond.selects RX10 yX10_made yX10_made, Cond.selects RX10 yX10_seen yX10_seen, Cond.selects RX10 yX10_blurred yX10_blurred]
theorem wdl_0_ok : wdl_0.all goodWord = true ∧ [0, 1, 2, 3, 4, 5, 6, 7, 8, 9, 10, 11, 12, 13, 14, 15, 16, 17, 18, 19, 20, 21, 22, 23, 24, 25, 26, 27, 28, 29, 30, 31, 32, 33, 34, 35, 36, 37, 38, 39].map (fun i => lw_tbl[i]?) = wdl_0.map some := by decide +kernel
theorem wd_0 : Cond.selects RX1 yX1_arrange yX1_arrange ∈ ax_WS := ax_wl wdl_0_ok 0 rfl
theorem wd_1 : Cond.selects RX1 yX1_firstReady yX1_firstReady ∈ ax_WS := ax_wl wdl_0_ok 1 rfl
theorem wd_2 : Cond.selects RX1 yX1_depthBehindInputs yX1_depthBehindInputs ∈ ax_WS := ax_wl wdl_0_ok 2 rfl
theorem wd_3 : Cond.selects RX0 yX0_remove yX0_remove ∈ ax_WS := ax_wl wdl_0_ok 3 rfl
theorem wd_4 : Cond.selects RX9 yX9_ask yX9_ask ∈ ax_WS := ax_wl wdl_0_ok 4 rfl
theorem wd_5 : Cond.selects RX0 yX0_touch yX0_touch ∈ ax_WS := ax_wl wdl_0_ok 5 rfl
theorem wd_6 : Cond.selects RX0 yX0_dropOldest yX0_dropOldest ∈ ax_WS := ax_wl wdl_0_ok 6 rfl
theorem wd_7 : Cond.selects RX6 yX6_expression yX6_expression ∈ ax_WS := ax_wl wdl_0_ok 7 rfl
theorem wd_8 : Cond.selects RX6 yX6_kindHere yX6_kindHere ∈ ax_WS := ax_wl wdl_0_ok 8 rfl
theorem wd_9 : Cond.selects RX6 yX6_expect yX6_expect ∈ ax_WS := ax_wl wdl_0_ok 9 rfl
theorem wd_10 : Cond.selects RX6 yX6_readNumber yX6_readNumber ∈ ax_WS := ax_wl wdl_0_ok 10 rfl
theorem wd_11 : Cond.selects RX6 yX6_readDigits yX6_readDigits ∈ ax_WS := ax_wl wdl_0_ok 11 rfl
theorem wd_12 : Cond.selects RX6 yX6_newNode yX6_newNode ∈ ax_WS := ax_wl wdl_0_ok 12 rfl
theorem wd_13 : Cond.selects RX6 yX6_nextExpression yX6_nextExpression ∈ ax_WS := ax_wl wdl_0_ok 13 rfl
theorem wd_14 : Cond.selects RX6 yX6_fill yX6_fill ∈ ax_WS := ax_wl wdl_0_ok 14 rfl
theorem wd_15 : Cond.selects RX9 yX9_mixNode yX9_mixNode ∈ ax_WS := ax_wl wdl_0_ok 15 rfl
theorem wd_16 : Cond.selects RX10 yX10_adds yX10_adds ∈ ax_WS := ax_wl wdl_0_ok 16 rfl
theorem wd_17 : Cond.selects RX10 yX10_isInput yX10_isInput ∈ ax_WS := ax_wl wdl_0_ok 17 rfl
theorem wd_18 : Cond.selects RX10 yX10_isNode yX10_isNode ∈ ax_WS := ax_wl wdl_0_ok 18 rfl
theorem wd_19 : Cond.selects RX10 yX10_kind yX10_kind ∈ ax_WS := ax_wl wdl_0_ok 19 rfl
theorem wd_20 : Cond.selects RX10 yX10_dependents yX10_dependents ∈ ax_WS := ax_wl wdl_0_ok 20 rfl
theorem wd_21 : Cond.selects RX10 yX10_voids yX10_voids ∈ ax_WS := ax_wl wdl_0_ok 21 rfl
theorem wd_22 : Cond.selects RX10 yX10_drops yX10_drops ∈ ax_WS := ax_wl wdl_0_ok 22 rfl
theorem wd_23 : Cond.selects RX10 yX10_isParameter yX10_isParameter ∈ ax_WS := ax_wl wdl_0_ok 23 rfl
theorem wd_24 : Cond.selects RX10 yX10_nodeTells yX10_nodeTells ∈ ax_WS := ax_wl wdl_0_ok 24 rfl
theorem wd_25 : Cond.selects RX10 yX10_placeOf yX10_placeOf ∈ ax_WS := ax_wl wdl_0_ok 25 rfl
theorem wd_26 : Cond.selects RX10 yX10_isReady yX10_isReady ∈ ax_WS := ax_wl wdl_0_ok 26 rfl
theorem wd_27 : Cond.selects RX10 yX10_depthOf yX10_depthOf ∈ ax_WS := ax_wl wdl_0_ok 27 rfl
theorem wd_28 : Cond.selects RX10 yX10_isPicture yX10_isPicture ∈ ax_WS := ax_wl wdl_0_ok 28 rfl
theorem wd_29 : Cond.selects RX10 yX10_picture yX10_picture ∈ ax_WS := ax_wl wdl_0_ok 29 rfl
theorem wd_30 : Cond.selects RX10 yX10_asks yX10_asks ∈ ax_WS := ax_wl wdl_0_ok 30 rfl
theorem wd_31 : Cond.selects RX10 yX10_find yX10_find ∈ ax_WS := ax_wl wdl_0_ok 31 rfl
theorem wd_32 : Cond.selects RX10 yX10_uses yX10_uses ∈ ax_WS := ax_wl wdl_0_ok 32 rfl
theorem wd_33 : Cond.selects RX10 yX10_isInRange yX10_isInRange ∈ ax_WS := ax_wl wdl_0_ok 33 rfl
theorem wd_34 : Cond.selects RX10 yX10_makes yX10_makes ∈ ax_WS := ax_wl wdl_0_ok 34 rfl
theorem wd_35 : Cond.selects RX10 yX10_makesRoom yX10_makesRoom ∈ ax_WS := ax_wl wdl_0_ok 35 rfl
theorem wd_36 : Cond.selects RX10 yX10_oldest yX10_oldest ∈ ax_WS := ax_wl wdl_0_ok 36 rfl
theorem wd_37 : Cond.selects RX10 yX10_made yX10_made ∈ ax_WS := ax_wl wdl_0_ok 37 rfl
theorem wd_38 : Cond.selects RX10 yX10_seen yX10_seen ∈ ax_WS := ax_wl wdl_0_ok 38 rfl
theorem wd_39 : Cond.selects RX10 yX10_blurred yX10_blurred ∈ ax_WS := ax_wl wdl_0_ok 39 rfl
def wdl_1 : List Cond := [Cond.selects RX10 yX10_sums yX10_sums, Cond.selects RX10 yX10_countOf yX10_countOf, Cond.selects RX10 yX10_isText yX10_isText, Cond.selects RX10 yX10_begins yX10_begins, Cond.selects RX10 yX10_kindHere yX10_kindHere, Cond.selects RX10 yX10_here yX10_here, Cond.selects RX10 yX10_takes yX10_takes, Cond.selects RX10 yX10_ends yX10_ends, Cond.selects RX10 yX10_number yX10_number, Cond.selects RX10 yX10_isDigit yX10_isDigit, Cond.selects RX10 yX10_tells yX10_tells, Cond.initialized RX9, Cond.initialized RX1, Cond.initialized RX3, Cond.initialized RX0, Cond.initialized RX5, Cond.initialized RX6, Cond.initialized RX8, Cond.initialized RX10, Cond.initialized RX2, Cond.initialized RJ9, Cond.initialized RJ6, Cond.initialized RX4, Cond.initialized RJ10, Cond.initialized RX7, Cond.initialized RJ0, Cond.initialized RJ1, Cond.classLink RL 7 RX9, Cond.instantiable RX9 6, Cond.methodLink RL 9 yX9_init, Cond.instanceMethod yX9_init, Cond.code yX9_init cX9_init 2 none, Cond.methodLink RX9 3 Lib.objectInit, Cond.instanceMethod Lib.objectInit, Cond.code Lib.objectInit ⟨#[0xb1]⟩ 1 none, Cond.classLink RX9 9 RX1, Cond.instantiable RX1 5, Cond.methodLink RX9 11 yX1_init, Cond.instanceMethod yX1_init, Cond.code yX1_init cX1_init 2 none]
theorem wdl_1_ok : wdl_1.all goodWord = true ∧ [40, 41, 42, 43, 44, 45, 46, 47, 48, 49, 50, 52, 53, 54, 55, 56, 57, 58, 59, 60, 61, 62, 63, 64, 65, 66, 67, 71, 72, 73, 74, 75, 76, 77, 78, 79, 80, 81, 82, 83].map (fun i => lw_tbl[i]?) = wdl_1.map some := by decide +kernel
theorem wd_40 : Cond.selects RX10 yX10_sums yX10_sums ∈ ax_WS := ax_wl wdl_1_ok 0 rfl
theorem wd_41 : Cond.selects RX10 yX10_countOf yX10_countOf ∈ ax_WS := ax_wl wdl_1_ok 1 rfl
theorem wd_42 : Cond.selects RX10 yX10_isText yX10_isText ∈ ax_WS := ax_wl wdl_1_ok 2 rfl
theorem wd_43 : Cond.selects RX10 yX10_begins yX10_begins ∈ ax_WS := ax_wl wdl_1_ok 3 rfl
theorem wd_44 : Cond.selects RX10 yX10_kindHere yX10_kindHere ∈ ax_WS := ax_wl wdl_1_ok 4 rfl
theorem wd_45 : Cond.selects RX10 yX10_here yX10_here ∈ ax_WS := ax_wl wdl_1_ok 5 rfl
theorem wd_46 : Cond.selects RX10 yX10_takes yX10_takes ∈ ax_WS := ax_wl wdl_1_ok 6 rfl
theorem wd_47 : Cond.selects RX10 yX10_ends yX10_ends ∈ ax_WS := ax_wl wdl_1_ok 7 rfl
theorem wd_48 : Cond.selects RX10 yX10_number yX10_number ∈ ax_WS := ax_wl wdl_1_ok 8 rfl
theorem wd_49 : Cond.selects RX10 yX10_isDigit yX10_isDigit ∈ ax_WS := ax_wl wdl_1_ok 9 rfl
theorem wd_50 : Cond.selects RX10 yX10_tells yX10_tells ∈ ax_WS := ax_wl wdl_1_ok 10 rfl
theorem wd_52 : Cond.initialized RX9 ∈ ax_WS := ax_wl wdl_1_ok 11 rfl
theorem wd_53 : Cond.initialized RX1 ∈ ax_WS := ax_wl wdl_1_ok 12 rfl
theorem wd_54 : Cond.initialized RX3 ∈ ax_WS := ax_wl wdl_1_ok 13 rfl
theorem wd_55 : Cond.initialized RX0 ∈ ax_WS := ax_wl wdl_1_ok 14 rfl
theorem wd_56 : Cond.initialized RX5 ∈ ax_WS := ax_wl wdl_1_ok 15 rfl
theorem wd_57 : Cond.initialized RX6 ∈ ax_WS := ax_wl wdl_1_ok 16 rfl
theorem wd_58 : Cond.initialized RX8 ∈ ax_WS := ax_wl wdl_1_ok 17 rfl
theorem wd_59 : Cond.initialized RX10 ∈ ax_WS := ax_wl wdl_1_ok 18 rfl
theorem wd_60 : Cond.initialized RX2 ∈ ax_WS := ax_wl wdl_1_ok 19 rfl
theorem wd_61 : Cond.initialized RJ9 ∈ ax_WS := ax_wl wdl_1_ok 20 rfl
theorem wd_62 : Cond.initialized RJ6 ∈ ax_WS := ax_wl wdl_1_ok 21 rfl
theorem wd_63 : Cond.initialized RX4 ∈ ax_WS := ax_wl wdl_1_ok 22 rfl
theorem wd_64 : Cond.initialized RJ10 ∈ ax_WS := ax_wl wdl_1_ok 23 rfl
theorem wd_65 : Cond.initialized RX7 ∈ ax_WS := ax_wl wdl_1_ok 24 rfl
theorem wd_66 : Cond.initialized RJ0 ∈ ax_WS := ax_wl wdl_1_ok 25 rfl
theorem wd_67 : Cond.initialized RJ1 ∈ ax_WS := ax_wl wdl_1_ok 26 rfl
theorem wd_71 : Cond.classLink RL 7 RX9 ∈ ax_WS := ax_wl wdl_1_ok 27 rfl
theorem wd_72 : Cond.instantiable RX9 6 ∈ ax_WS := ax_wl wdl_1_ok 28 rfl
theorem wd_73 : Cond.methodLink RL 9 yX9_init ∈ ax_WS := ax_wl wdl_1_ok 29 rfl
theorem wd_74 : Cond.instanceMethod yX9_init ∈ ax_WS := ax_wl wdl_1_ok 30 rfl
theorem wd_75 : Cond.code yX9_init cX9_init 2 none ∈ ax_WS := ax_wl wdl_1_ok 31 rfl
theorem wd_76 : Cond.methodLink RX9 3 Lib.objectInit ∈ ax_WS := ax_wl wdl_1_ok 32 rfl
theorem wd_77 : Cond.instanceMethod Lib.objectInit ∈ ax_WS := ax_wl wdl_1_ok 33 rfl
theorem wd_78 : Cond.code Lib.objectInit ⟨#[0xb1]⟩ 1 none ∈ ax_WS := ax_wl wdl_1_ok 34 rfl
theorem wd_79 : Cond.classLink RX9 9 RX1 ∈ ax_WS := ax_wl wdl_1_ok 35 rfl
theorem wd_80 : Cond.instantiable RX1 5 ∈ ax_WS := ax_wl wdl_1_ok 36 rfl
theorem wd_81 : Cond.methodLink RX9 11 yX1_init ∈ ax_WS := ax_wl wdl_1_ok 37 rfl
theorem wd_82 : Cond.instanceMethod yX1_init ∈ ax_WS := ax_wl wdl_1_ok 38 rfl
theorem wd_83 : Cond.code yX1_init cX1_init 2 none ∈ ax_WS := ax_wl wdl_1_ok 39 rfl
def wdl_2 : List Cond := [Cond.methodLink RX1 3 Lib.objectInit, Cond.classLink RX1 9 RX3, Cond.instantiable RX3 5, Cond.instanceMethod yX3_init, Cond.code yX3_init cX3_init 1 none, Cond.methodLink RX3 3 Lib.objectInit, Cond.fieldLink RX4 9 RX3 "kind" "I", Cond.fieldLink RX3 18 RX3 "kind" "I", Cond.fieldLink RX1 40 RX3 "kind" "I", Cond.fieldLink RX9 97 RX3 "kind" "I", Cond.fieldLink RX3 22 RX3 "first" "I", Cond.fieldLink RX9 86 RX3 "first" "I", Cond.fieldLink RX3 25 RX3 "last" "I", Cond.fieldLink RX9 91 RX3 "last" "I", Cond.fieldLink RX3 9 RX3 "inputs" "[I", Cond.fieldLink RX6 98 RX3 "inputs" "[I", Cond.fieldLink RX1 63 RX3 "inputs" "[I", Cond.fieldLink RX9 130 RX3 "inputs" "[I", Cond.fieldLink RX3 15 RX3 "parameters" "[I", Cond.fieldLink RX4 15 RX3 "parameters" "[I", Cond.fieldLink RX9 109 RX3 "parameters" "[I", Cond.fieldLink RX6 103 RX3 "parameters" "[I", Cond.arrayClass .int, Cond.fieldLink RX1 11 RX1 "nodes" "[LGradeGraph$Node;", Cond.fieldLink RX9 82 RX1 "nodes" "[LGradeGraph$Node;", Cond.fieldLink RX1 28 RX1 "size" "I", Cond.fieldLink RX9 42 RX1 "size" "I", Cond.fieldLink RX1 17 RX1 "order" "[I", Cond.fieldLink RX1 21 RX1 "places" "[I", Cond.fieldLink RX9 124 RX1 "places" "[I", Cond.fieldLink RX1 24 RX1 "depths" "[I", Cond.fieldLink RX9 127 RX1 "depths" "[I", Cond.classLink RX9 16 RX0, Cond.instantiable RX0 8, Cond.methodLink RX9 18 yX0_init, Cond.instanceMethod yX0_init, Cond.code yX0_init cX0_init 2 none, Cond.methodLink RX0 3 Lib.objectInit, Cond.classLink RX0 9 RX5, Cond.instantiable RX5 4]
theorem wdl_2_ok : wdl_2.all goodWord = true ∧ [84, 85, 87, 89, 90, 91, 92, 93, 94, 95, 96, 97, 98, 99, 100, 101, 102, 103, 104, 105, 106, 107, 119, 120, 121, 122, 123, 124, 125, 126, 127, 128, 140, 141, 142, 143, 144, 145, 146, 148].map (fun i => lw_tbl[i]?) = wdl_2.map some := by decide +kernel
theorem wd_84 : Cond.methodLink RX1 3 Lib.objectInit ∈ ax_WS := ax_wl wdl_2_ok 0 rfl
theorem wd_85 : Cond.classLink RX1 9 RX3 ∈ ax_WS := ax_wl wdl_2_ok 1 rfl
theorem wd_87 : Cond.instantiable RX3 5 ∈ ax_WS := ax_wl wdl_2_ok 2 rfl
theorem wd_89 : Cond.instanceMethod yX3_init ∈ ax_WS := ax_wl wdl_2_ok 3 rfl
theorem wd_90 : Cond.code yX3_init cX3_init 1 none ∈ ax_WS := ax_wl wdl_2_ok 4 rfl
theorem wd_91 : Cond.methodLink RX3 3 Lib.objectInit ∈ ax_WS := ax_wl wdl_2_ok 5 rfl
theorem wd_92 : Cond.fieldLink RX4 9 RX3 "kind" "I" ∈ ax_WS := ax_wl wdl_2_ok 6 rfl
theorem wd_93 : Cond.fieldLink RX3 18 RX3 "kind" "I" ∈ ax_WS := ax_wl wdl_2_ok 7 rfl
theorem wd_94 : Cond.fieldLink RX1 40 RX3 "kind" "I" ∈ ax_WS := ax_wl wdl_2_ok 8 rfl
theorem wd_95 : Cond.fieldLink RX9 97 RX3 "kind" "I" ∈ ax_WS := ax_wl wdl_2_ok 9 rfl
theorem wd_96 : Cond.fieldLink RX3 22 RX3 "first" "I" ∈ ax_WS := ax_wl wdl_2_ok 10 rfl
theorem wd_97 : Cond.fieldLink RX9 86 RX3 "first" "I" ∈ ax_WS := ax_wl wdl_2_ok 11 rfl
theorem wd_98 : Cond.fieldLink RX3 25 RX3 "last" "I" ∈ ax_WS := ax_wl wdl_2_ok 12 rfl
theorem wd_99 : Cond.fieldLink RX9 91 RX3 "last" "I" ∈ ax_WS := ax_wl wdl_2_ok 13 rfl
theorem wd_100 : Cond.fieldLink RX3 9 RX3 "inputs" "[I" ∈ ax_WS := ax_wl wdl_2_ok 14 rfl
theorem wd_101 : Cond.fieldLink RX6 98 RX3 "inputs" "[I" ∈ ax_WS := ax_wl wdl_2_ok 15 rfl
theorem wd_102 : Cond.fieldLink RX1 63 RX3 "inputs" "[I" ∈ ax_WS := ax_wl wdl_2_ok 16 rfl
theorem wd_103 : Cond.fieldLink RX9 130 RX3 "inputs" "[I" ∈ ax_WS := ax_wl wdl_2_ok 17 rfl
theorem wd_104 : Cond.fieldLink RX3 15 RX3 "parameters" "[I" ∈ ax_WS := ax_wl wdl_2_ok 18 rfl
theorem wd_105 : Cond.fieldLink RX4 15 RX3 "parameters" "[I" ∈ ax_WS := ax_wl wdl_2_ok 19 rfl
theorem wd_106 : Cond.fieldLink RX9 109 RX3 "parameters" "[I" ∈ ax_WS := ax_wl wdl_2_ok 20 rfl
theorem wd_107 : Cond.fieldLink RX6 103 RX3 "parameters" "[I" ∈ ax_WS := ax_wl wdl_2_ok 21 rfl
theorem wd_119 : Cond.arrayClass .int ∈ ax_WS := ax_wl wdl_2_ok 22 rfl
theorem wd_120 : Cond.fieldLink RX1 11 RX1 "nodes" "[LGradeGraph$Node;" ∈ ax_WS := ax_wl wdl_2_ok 23 rfl
theorem wd_121 : Cond.fieldLink RX9 82 RX1 "nodes" "[LGradeGraph$Node;" ∈ ax_WS := ax_wl wdl_2_ok 24 rfl
theorem wd_122 : Cond.fieldLink RX1 28 RX1 "size" "I" ∈ ax_WS := ax_wl wdl_2_ok 25 rfl
theorem wd_123 : Cond.fieldLink RX9 42 RX1 "size" "I" ∈ ax_WS := ax_wl wdl_2_ok 26 rfl
theorem wd_124 : Cond.fieldLink RX1 17 RX1 "order" "[I" ∈ ax_WS := ax_wl wdl_2_ok 27 rfl
theorem wd_125 : Cond.fieldLink RX1 21 RX1 "places" "[I" ∈ ax_WS := ax_wl wdl_2_ok 28 rfl
theorem wd_126 : Cond.fieldLink RX9 124 RX1 "places" "[I" ∈ ax_WS := ax_wl wdl_2_ok 29 rfl
theorem wd_127 : Cond.fieldLink RX1 24 RX1 "depths" "[I" ∈ ax_WS := ax_wl wdl_2_ok 30 rfl
theorem wd_128 : Cond.fieldLink RX9 127 RX1 "depths" "[I" ∈ ax_WS := ax_wl wdl_2_ok 31 rfl
theorem wd_140 : Cond.classLink RX9 16 RX0 ∈ ax_WS := ax_wl wdl_2_ok 32 rfl
theorem wd_141 : Cond.instantiable RX0 8 ∈ ax_WS := ax_wl wdl_2_ok 33 rfl
theorem wd_142 : Cond.methodLink RX9 18 yX0_init ∈ ax_WS := ax_wl wdl_2_ok 34 rfl
theorem wd_143 : Cond.instanceMethod yX0_init ∈ ax_WS := ax_wl wdl_2_ok 35 rfl
theorem wd_144 : Cond.code yX0_init cX0_init 2 none ∈ ax_WS := ax_wl wdl_2_ok 36 rfl
theorem wd_145 : Cond.methodLink RX0 3 Lib.objectInit ∈ ax_WS := ax_wl wdl_2_ok 37 rfl
theorem wd_146 : Cond.classLink RX0 9 RX5 ∈ ax_WS := ax_wl wdl_2_ok 38 rfl
theorem wd_148 : Cond.instantiable RX5 4 ∈ ax_WS := ax_wl wdl_2_ok 39 rfl
def wdl_3 : List Cond := [Cond.instanceMethod yX5_init, Cond.code yX5_init cX5_init 1 none, Cond.methodLink RX5 3 Lib.objectInit, Cond.fieldLink RX0 25 RX5 "node" "I", Cond.fieldLink RX0 28 RX5 "frame" "I", Cond.fieldLink RX0 66 RX5 "lastUse" "I", Cond.fieldLink RX5 9 RX5 "values" "[I", Cond.fieldLink RX9 264 RX5 "values" "[I", Cond.fieldLink RX0 11 RX0 "pictures" "[LGradeGraph$Picture;", Cond.fieldLink RX0 63 RX0 "uses" "I", Cond.fieldLink RX0 22 RX0 "size" "I", Cond.fieldLink RX9 174 RX0 "size" "I", Cond.fieldLink RX0 17 RX0 "room" "I", Cond.fieldLink RX9 163 RX0 "room" "I", Cond.fieldLink RX0 31 RX0 "hits" "I", Cond.fieldLink RX9 175 RX0 "hits" "I", Cond.fieldLink RX0 38 RX0 "misses" "I", Cond.fieldLink RX9 178 RX0 "misses" "I", Cond.fieldLink RX0 69 RX0 "dropped" "I", Cond.fieldLink RX9 181 RX0 "dropped" "I", Cond.fieldLink RX0 60 RX0 "voided" "I", Cond.fieldLink RX9 184 RX0 "voided" "I", Cond.classLink RX9 23 RX6, Cond.instantiable RX6 7, Cond.methodLink RX9 25 yX6_init, Cond.instanceMethod yX6_init, Cond.code yX6_init cX6_init 2 none, Cond.methodLink RX6 3 Lib.objectInit, Cond.classLink RX6 9 RX8, Cond.instantiable RX8 2, Cond.instanceMethod yX8_init, Cond.code yX8_init cX8_init 1 none, Cond.methodLink RX8 3 Lib.objectInit, Cond.fieldLink RX8 9 RX8 "bytes" "[B", Cond.fieldLink RX8 15 RX8 "length" "I", Cond.fieldLink RX6 47 RX8 "length" "I", Cond.fieldLink RX9 196 RX8 "length" "I", Cond.arrayClass .byte, Cond.classLink RX6 22 RX3, Cond.fieldLink RX6 12 RX6 "text" "LGradeGraph$Text;"]
theorem wdl_3_ok : wdl_3.all goodWord = true ∧ [150, 151, 152, 153, 154, 155, 156, 157, 167, 168, 169, 170, 171, 172, 173, 174, 175, 176, 177, 178, 179, 180, 198, 199, 200, 201, 202, 203, 204, 205, 207, 208, 209, 210, 211, 212, 213, 219, 220, 222].map (fun i => lw_tbl[i]?) = wdl_3.map some := by decide +kernel
theorem wd_150 : Cond.instanceMethod yX5_init ∈ ax_WS := ax_wl wdl_3_ok 0 rfl
theorem wd_151 : Cond.code yX5_init cX5_init 1 none ∈ ax_WS := ax_wl wdl_3_ok 1 rfl
theorem wd_152 : Cond.methodLink RX5 3 Lib.objectInit ∈ ax_WS := ax_wl wdl_3_ok 2 rfl
theorem wd_153 : Cond.fieldLink RX0 25 RX5 "node" "I" ∈ ax_WS := ax_wl wdl_3_ok 3 rfl
theorem wd_154 : Cond.fieldLink RX0 28 RX5 "frame" "I" ∈ ax_WS := ax_wl wdl_3_ok 4 rfl
theorem wd_155 : Cond.fieldLink RX0 66 RX5 "lastUse" "I" ∈ ax_WS := ax_wl wdl_3_ok 5 rfl
theorem wd_156 : Cond.fieldLink RX5 9 RX5 "values" "[I" ∈ ax_WS := ax_wl wdl_3_ok 6 rfl
theorem wd_157 : Cond.fieldLink RX9 264 RX5 "values" "[I" ∈ ax_WS := ax_wl wdl_3_ok 7 rfl
theorem wd_167 : Cond.fieldLink RX0 11 RX0 "pictures" "[LGradeGraph$Picture;" ∈ ax_WS := ax_wl wdl_3_ok 8 rfl
theorem wd_168 : Cond.fieldLink RX0 63 RX0 "uses" "I" ∈ ax_WS := ax_wl wdl_3_ok 9 rfl
theorem wd_169 : Cond.fieldLink RX0 22 RX0 "size" "I" ∈ ax_WS := ax_wl wdl_3_ok 10 rfl
theorem wd_170 : Cond.fieldLink RX9 174 RX0 "size" "I" ∈ ax_WS := ax_wl wdl_3_ok 11 rfl
theorem wd_171 : Cond.fieldLink RX0 17 RX0 "room" "I" ∈ ax_WS := ax_wl wdl_3_ok 12 rfl
theorem wd_172 : Cond.fieldLink RX9 163 RX0 "room" "I" ∈ ax_WS := ax_wl wdl_3_ok 13 rfl
theorem wd_173 : Cond.fieldLink RX0 31 RX0 "hits" "I" ∈ ax_WS := ax_wl wdl_3_ok 14 rfl
theorem wd_174 : Cond.fieldLink RX9 175 RX0 "hits" "I" ∈ ax_WS := ax_wl wdl_3_ok 15 rfl
theorem wd_175 : Cond.fieldLink RX0 38 RX0 "misses" "I" ∈ ax_WS := ax_wl wdl_3_ok 16 rfl
theorem wd_176 : Cond.fieldLink RX9 178 RX0 "misses" "I" ∈ ax_WS := ax_wl wdl_3_ok 17 rfl
theorem wd_177 : Cond.fieldLink RX0 69 RX0 "dropped" "I" ∈ ax_WS := ax_wl wdl_3_ok 18 rfl
theorem wd_178 : Cond.fieldLink RX9 181 RX0 "dropped" "I" ∈ ax_WS := ax_wl wdl_3_ok 19 rfl
theorem wd_179 : Cond.fieldLink RX0 60 RX0 "voided" "I" ∈ ax_WS := ax_wl wdl_3_ok 20 rfl
theorem wd_180 : Cond.fieldLink RX9 184 RX0 "voided" "I" ∈ ax_WS := ax_wl wdl_3_ok 21 rfl
theorem wd_198 : Cond.classLink RX9 23 RX6 ∈ ax_WS := ax_wl wdl_3_ok 22 rfl
theorem wd_199 : Cond.instantiable RX6 7 ∈ ax_WS := ax_wl wdl_3_ok 23 rfl
theorem wd_200 : Cond.methodLink RX9 25 yX6_init ∈ ax_WS := ax_wl wdl_3_ok 24 rfl
theorem wd_201 : Cond.instanceMethod yX6_init ∈ ax_WS := ax_wl wdl_3_ok 25 rfl
theorem wd_202 : Cond.code yX6_init cX6_init 2 none ∈ ax_WS := ax_wl wdl_3_ok 26 rfl
theorem wd_203 : Cond.methodLink RX6 3 Lib.objectInit ∈ ax_WS := ax_wl wdl_3_ok 27 rfl
theorem wd_204 : Cond.classLink RX6 9 RX8 ∈ ax_WS := ax_wl wdl_3_ok 28 rfl
theorem wd_205 : Cond.instantiable RX8 2 ∈ ax_WS := ax_wl wdl_3_ok 29 rfl
theorem wd_207 : Cond.instanceMethod yX8_init ∈ ax_WS := ax_wl wdl_3_ok 30 rfl
theorem wd_208 : Cond.code yX8_init cX8_init 1 none ∈ ax_WS := ax_wl wdl_3_ok 31 rfl
theorem wd_209 : Cond.methodLink RX8 3 Lib.objectInit ∈ ax_WS := ax_wl wdl_3_ok 32 rfl
theorem wd_210 : Cond.fieldLink RX8 9 RX8 "bytes" "[B" ∈ ax_WS := ax_wl wdl_3_ok 33 rfl
theorem wd_211 : Cond.fieldLink RX8 15 RX8 "length" "I" ∈ ax_WS := ax_wl wdl_3_ok 34 rfl
theorem wd_212 : Cond.fieldLink RX6 47 RX8 "length" "I" ∈ ax_WS := ax_wl wdl_3_ok 35 rfl
theorem wd_213 : Cond.fieldLink RX9 196 RX8 "length" "I" ∈ ax_WS := ax_wl wdl_3_ok 36 rfl
theorem wd_219 : Cond.arrayClass .byte ∈ ax_WS := ax_wl wdl_3_ok 37 rfl
theorem wd_220 : Cond.classLink RX6 22 RX3 ∈ ax_WS := ax_wl wdl_3_ok 38 rfl
theorem wd_222 : Cond.fieldLink RX6 12 RX6 "text" "LGradeGraph$Text;" ∈ ax_WS := ax_wl wdl_3_ok 39 rfl
def wdl_4 : List Cond := [Cond.fieldLink RX9 187 RX6 "text" "LGradeGraph$Text;", Cond.fieldLink RX6 18 RX6 "numbers" "[I", Cond.fieldLink RX6 24 RX6 "drafts" "[LGradeGraph$Node;", Cond.fieldLink RX9 216 RX6 "drafts" "[LGradeGraph$Node;", Cond.fieldLink RX6 33 RX6 "found" "I", Cond.fieldLink RX9 213 RX6 "found" "I", Cond.fieldLink RX6 29 RX6 "known" "I", Cond.fieldLink RX6 36 RX6 "position" "I", Cond.fieldLink RX9 207 RX6 "position" "I", Cond.fieldLink RX6 39 RX6 "faulty" "Z", Cond.fieldLink RX9 203 RX6 "faulty" "Z", Cond.fieldLink RX9 12 RX9 "graph" "LGradeGraph$Graph;", Cond.fieldLink RX9 19 RX9 "cache" "LGradeGraph$Cache;", Cond.fieldLink RX9 26 RX9 "reader" "LGradeGraph$Reader;", Cond.fieldLink RX9 30 RX9 "slots" "[LGradeGraph$Graph;", Cond.fieldLink RX9 34 RX9 "saved" "[Z", Cond.fieldLink RX9 38 RX9 "black" "[I", Cond.arrayClass .boolean, Cond.methodLink RL 13 yX9_clear, Cond.instanceMethod yX9_clear, Cond.selects RX9 yX9_clear yX9_clear, Cond.code yX9_clear cX9_clear 2 (some .int), Cond.methodLink RX9 46 yX1_removeAll, Cond.instanceMethod yX1_removeAll, Cond.selects RX1 yX1_removeAll yX1_removeAll, Cond.code yX1_removeAll cX1_removeAll 1 none, Cond.methodLink RX9 49 yX0_empty, Cond.instanceMethod yX0_empty, Cond.selects RX0 yX0_empty yX0_empty, Cond.code yX0_empty cX0_empty 1 none, Cond.methodLink RL 18 yX9_addNode, Cond.instanceMethod yX9_addNode, Cond.selects RX9 yX9_addNode yX9_addNode, Cond.code yX9_addNode cX9_addNode 2 (some .int), Cond.methodLink RX9 52 yX9_isIn, Cond.static yX9_isIn, Cond.code yX9_isIn cX9_isIn 3 (some .boolean), Cond.methodLink RX9 56 yX1_add, Cond.instanceMethod yX1_add, Cond.selects RX1 yX1_add yX1_add]
theorem wdl_4_ok : wdl_4.all goodWord = true ∧ [223, 224, 225, 226, 227, 228, 229, 230, 231, 232, 233, 250, 251, 252, 253, 254, 255, 269, 270, 271, 272, 273, 274, 275, 276, 277, 278, 279, 280, 281, 282, 283, 284, 285, 286, 287, 288, 289, 290, 291].map (fun i => lw_tbl[i]?) = wdl_4.map some := by decide +kernel
theorem wd_223 : Cond.fieldLink RX9 187 RX6 "text" "LGradeGraph$Text;" ∈ ax_WS := ax_wl wdl_4_ok 0 rfl
theorem wd_224 : Cond.fieldLink RX6 18 RX6 "numbers" "[I" ∈ ax_WS := ax_wl wdl_4_ok 1 rfl
theorem wd_225 : Cond.fieldLink RX6 24 RX6 "drafts" "[LGradeGraph$Node;" ∈ ax_WS := ax_wl wdl_4_ok 2 rfl
theorem wd_226 : Cond.fieldLink RX9 216 RX6 "drafts" "[LGradeGraph$Node;" ∈ ax_WS := ax_wl wdl_4_ok 3 rfl
theorem wd_227 : Cond.fieldLink RX6 33 RX6 "found" "I" ∈ ax_WS := ax_wl wdl_4_ok 4 rfl
theorem wd_228 : Cond.fieldLink RX9 213 RX6 "found" "I" ∈ ax_WS := ax_wl wdl_4_ok 5 rfl
theorem wd_229 : Cond.fieldLink RX6 29 RX6 "known" "I" ∈ ax_WS := ax_wl wdl_4_ok 6 rfl
theorem wd_230 : Cond.fieldLink RX6 36 RX6 "position" "I" ∈ ax_WS := ax_wl wdl_4_ok 7 rfl
theorem wd_231 : Cond.fieldLink RX9 207 RX6 "position" "I" ∈ ax_WS := ax_wl wdl_4_ok 8 rfl
theorem wd_232 : Cond.fieldLink RX6 39 RX6 "faulty" "Z" ∈ ax_WS := ax_wl wdl_4_ok 9 rfl
theorem wd_233 : Cond.fieldLink RX9 203 RX6 "faulty" "Z" ∈ ax_WS := ax_wl wdl_4_ok 10 rfl
theorem wd_250 : Cond.fieldLink RX9 12 RX9 "graph" "LGradeGraph$Graph;" ∈ ax_WS := ax_wl wdl_4_ok 11 rfl
theorem wd_251 : Cond.fieldLink RX9 19 RX9 "cache" "LGradeGraph$Cache;" ∈ ax_WS := ax_wl wdl_4_ok 12 rfl
theorem wd_252 : Cond.fieldLink RX9 26 RX9 "reader" "LGradeGraph$Reader;" ∈ ax_WS := ax_wl wdl_4_ok 13 rfl
theorem wd_253 : Cond.fieldLink RX9 30 RX9 "slots" "[LGradeGraph$Graph;" ∈ ax_WS := ax_wl wdl_4_ok 14 rfl
theorem wd_254 : Cond.fieldLink RX9 34 RX9 "saved" "[Z" ∈ ax_WS := ax_wl wdl_4_ok 15 rfl
theorem wd_255 : Cond.fieldLink RX9 38 RX9 "black" "[I" ∈ ax_WS := ax_wl wdl_4_ok 16 rfl
theorem wd_269 : Cond.arrayClass .boolean ∈ ax_WS := ax_wl wdl_4_ok 17 rfl
theorem wd_270 : Cond.methodLink RL 13 yX9_clear ∈ ax_WS := ax_wl wdl_4_ok 18 rfl
theorem wd_271 : Cond.instanceMethod yX9_clear ∈ ax_WS := ax_wl wdl_4_ok 19 rfl
theorem wd_272 : Cond.selects RX9 yX9_clear yX9_clear ∈ ax_WS := ax_wl wdl_4_ok 20 rfl
theorem wd_273 : Cond.code yX9_clear cX9_clear 2 (some .int) ∈ ax_WS := ax_wl wdl_4_ok 21 rfl
theorem wd_274 : Cond.methodLink RX9 46 yX1_removeAll ∈ ax_WS := ax_wl wdl_4_ok 22 rfl
theorem wd_275 : Cond.instanceMethod yX1_removeAll ∈ ax_WS := ax_wl wdl_4_ok 23 rfl
theorem wd_276 : Cond.selects RX1 yX1_removeAll yX1_removeAll ∈ ax_WS := ax_wl wdl_4_ok 24 rfl
theorem wd_277 : Cond.code yX1_removeAll cX1_removeAll 1 none ∈ ax_WS := ax_wl wdl_4_ok 25 rfl
theorem wd_278 : Cond.methodLink RX9 49 yX0_empty ∈ ax_WS := ax_wl wdl_4_ok 26 rfl
theorem wd_279 : Cond.instanceMethod yX0_empty ∈ ax_WS := ax_wl wdl_4_ok 27 rfl
theorem wd_280 : Cond.selects RX0 yX0_empty yX0_empty ∈ ax_WS := ax_wl wdl_4_ok 28 rfl
theorem wd_281 : Cond.code yX0_empty cX0_empty 1 none ∈ ax_WS := ax_wl wdl_4_ok 29 rfl
theorem wd_282 : Cond.methodLink RL 18 yX9_addNode ∈ ax_WS := ax_wl wdl_4_ok 30 rfl
theorem wd_283 : Cond.instanceMethod yX9_addNode ∈ ax_WS := ax_wl wdl_4_ok 31 rfl
theorem wd_284 : Cond.selects RX9 yX9_addNode yX9_addNode ∈ ax_WS := ax_wl wdl_4_ok 32 rfl
theorem wd_285 : Cond.code yX9_addNode cX9_addNode 2 (some .int) ∈ ax_WS := ax_wl wdl_4_ok 33 rfl
theorem wd_286 : Cond.methodLink RX9 52 yX9_isIn ∈ ax_WS := ax_wl wdl_4_ok 34 rfl
theorem wd_287 : Cond.static yX9_isIn ∈ ax_WS := ax_wl wdl_4_ok 35 rfl
theorem wd_288 : Cond.code yX9_isIn cX9_isIn 3 (some .boolean) ∈ ax_WS := ax_wl wdl_4_ok 36 rfl
theorem wd_289 : Cond.methodLink RX9 56 yX1_add ∈ ax_WS := ax_wl wdl_4_ok 37 rfl
theorem wd_290 : Cond.instanceMethod yX1_add ∈ ax_WS := ax_wl wdl_4_ok 38 rfl
theorem wd_291 : Cond.selects RX1 yX1_add yX1_add ∈ ax_WS := ax_wl wdl_4_ok 39 rfl
def wdl_5 : List Cond := [Cond.code yX1_add cX1_add 3 (some .int), Cond.methodLink RX1 52 yX3_reset, Cond.instanceMethod yX3_reset, Cond.selects RX3 yX3_reset yX3_reset, Cond.code yX3_reset cX3_reset 3 none, Cond.methodLink RX3 28 yX2_atFirst, Cond.static yX2_atFirst, Cond.code yX2_atFirst cX2_atFirst 2 (some .int), Cond.fieldLink RX2 31 RX2 "AT_FIRST" "[I", Cond.methodLink RX2 15 yX2_entry, Cond.static yX2_entry, Cond.code yX2_entry cX2_entry 2 (some .int), Cond.methodLink RX1 56 yX1_arrange, Cond.instanceMethod yX1_arrange, Cond.code yX1_arrange cX1_arrange 4 none, Cond.methodLink RX1 77 yX1_firstReady, Cond.instanceMethod yX1_firstReady, Cond.code yX1_firstReady cX1_firstReady 4 (some .int), Cond.methodLink RX1 73 yX3_inputSet, Cond.instanceMethod yX3_inputSet, Cond.selects RX3 yX3_inputSet yX3_inputSet, Cond.code yX3_inputSet cX3_inputSet 3 (some .int), Cond.static yX9_contains, Cond.code yX9_contains cX9_contains 2 (some .boolean), Cond.methodLink RX1 80 yX1_depthBehindInputs, Cond.instanceMethod yX1_depthBehindInputs, Cond.code yX1_depthBehindInputs cX1_depthBehindInputs 5 (some .int), Cond.methodLink RX1 36 yX1_has, Cond.instanceMethod yX1_has, Cond.selects RX1 yX1_has yX1_has, Cond.code yX1_has cX1_has 2 (some .boolean), Cond.methodLink RX1 87 Lib.Math.max.name, Cond.static Lib.Math.max.name, Cond.code Lib.Math.max.name Lib.Math.max.code 2 (some .int), Cond.methodLink RL 23 yX9_connect, Cond.instanceMethod yX9_connect, Cond.selects RX9 yX9_connect yX9_connect, Cond.code yX9_connect cX9_connect 6 (some .int), Cond.methodLink RX9 60 yX1_hasInput, Cond.instanceMethod yX1_hasInput]
theorem wdl_5_ok : wdl_5.all goodWord = true ∧ [292, 293, 294, 295, 296, 297, 298, 299, 300, 302, 303, 304, 305, 307, 308, 309, 311, 312, 313, 314, 315, 316, 318, 319, 320, 322, 323, 324, 325, 326, 327, 329, 330, 331, 332, 333, 334, 335, 336, 337].map (fun i => lw_tbl[i]?) = wdl_5.map some := by decide +kernel
theorem wd_292 : Cond.code yX1_add cX1_add 3 (some .int) ∈ ax_WS := ax_wl wdl_5_ok 0 rfl
theorem wd_293 : Cond.methodLink RX1 52 yX3_reset ∈ ax_WS := ax_wl wdl_5_ok 1 rfl
theorem wd_294 : Cond.instanceMethod yX3_reset ∈ ax_WS := ax_wl wdl_5_ok 2 rfl
theorem wd_295 : Cond.selects RX3 yX3_reset yX3_reset ∈ ax_WS := ax_wl wdl_5_ok 3 rfl
theorem wd_296 : Cond.code yX3_reset cX3_reset 3 none ∈ ax_WS := ax_wl wdl_5_ok 4 rfl
theorem wd_297 : Cond.methodLink RX3 28 yX2_atFirst ∈ ax_WS := ax_wl wdl_5_ok 5 rfl
theorem wd_298 : Cond.static yX2_atFirst ∈ ax_WS := ax_wl wdl_5_ok 6 rfl
theorem wd_299 : Cond.code yX2_atFirst cX2_atFirst 2 (some .int) ∈ ax_WS := ax_wl wdl_5_ok 7 rfl
theorem wd_300 : Cond.fieldLink RX2 31 RX2 "AT_FIRST" "[I" ∈ ax_WS := ax_wl wdl_5_ok 8 rfl
theorem wd_302 : Cond.methodLink RX2 15 yX2_entry ∈ ax_WS := ax_wl wdl_5_ok 9 rfl
theorem wd_303 : Cond.static yX2_entry ∈ ax_WS := ax_wl wdl_5_ok 10 rfl
theorem wd_304 : Cond.code yX2_entry cX2_entry 2 (some .int) ∈ ax_WS := ax_wl wdl_5_ok 11 rfl
theorem wd_305 : Cond.methodLink RX1 56 yX1_arrange ∈ ax_WS := ax_wl wdl_5_ok 12 rfl
theorem wd_307 : Cond.instanceMethod yX1_arrange ∈ ax_WS := ax_wl wdl_5_ok 13 rfl
theorem wd_308 : Cond.code yX1_arrange cX1_arrange 4 none ∈ ax_WS := ax_wl wdl_5_ok 14 rfl
theorem wd_309 : Cond.methodLink RX1 77 yX1_firstReady ∈ ax_WS := ax_wl wdl_5_ok 15 rfl
theorem wd_311 : Cond.instanceMethod yX1_firstReady ∈ ax_WS := ax_wl wdl_5_ok 16 rfl
theorem wd_312 : Cond.code yX1_firstReady cX1_firstReady 4 (some .int) ∈ ax_WS := ax_wl wdl_5_ok 17 rfl
theorem wd_313 : Cond.methodLink RX1 73 yX3_inputSet ∈ ax_WS := ax_wl wdl_5_ok 18 rfl
theorem wd_314 : Cond.instanceMethod yX3_inputSet ∈ ax_WS := ax_wl wdl_5_ok 19 rfl
theorem wd_315 : Cond.selects RX3 yX3_inputSet yX3_inputSet ∈ ax_WS := ax_wl wdl_5_ok 20 rfl
theorem wd_316 : Cond.code yX3_inputSet cX3_inputSet 3 (some .int) ∈ ax_WS := ax_wl wdl_5_ok 21 rfl
theorem wd_318 : Cond.static yX9_contains ∈ ax_WS := ax_wl wdl_5_ok 22 rfl
theorem wd_319 : Cond.code yX9_contains cX9_contains 2 (some .boolean) ∈ ax_WS := ax_wl wdl_5_ok 23 rfl
theorem wd_320 : Cond.methodLink RX1 80 yX1_depthBehindInputs ∈ ax_WS := ax_wl wdl_5_ok 24 rfl
theorem wd_322 : Cond.instanceMethod yX1_depthBehindInputs ∈ ax_WS := ax_wl wdl_5_ok 25 rfl
theorem wd_323 : Cond.code yX1_depthBehindInputs cX1_depthBehindInputs 5 (some .int) ∈ ax_WS := ax_wl wdl_5_ok 26 rfl
theorem wd_324 : Cond.methodLink RX1 36 yX1_has ∈ ax_WS := ax_wl wdl_5_ok 27 rfl
theorem wd_325 : Cond.instanceMethod yX1_has ∈ ax_WS := ax_wl wdl_5_ok 28 rfl
theorem wd_326 : Cond.selects RX1 yX1_has yX1_has ∈ ax_WS := ax_wl wdl_5_ok 29 rfl
theorem wd_327 : Cond.code yX1_has cX1_has 2 (some .boolean) ∈ ax_WS := ax_wl wdl_5_ok 30 rfl
theorem wd_329 : Cond.methodLink RX1 87 Lib.Math.max.name ∈ ax_WS := ax_wl wdl_5_ok 31 rfl
theorem wd_330 : Cond.static Lib.Math.max.name ∈ ax_WS := ax_wl wdl_5_ok 32 rfl
theorem wd_331 : Cond.code Lib.Math.max.name Lib.Math.max.code 2 (some .int) ∈ ax_WS := ax_wl wdl_5_ok 33 rfl
theorem wd_332 : Cond.methodLink RL 23 yX9_connect ∈ ax_WS := ax_wl wdl_5_ok 34 rfl
theorem wd_333 : Cond.instanceMethod yX9_connect ∈ ax_WS := ax_wl wdl_5_ok 35 rfl
theorem wd_334 : Cond.selects RX9 yX9_connect yX9_connect ∈ ax_WS := ax_wl wdl_5_ok 36 rfl
theorem wd_335 : Cond.code yX9_connect cX9_connect 6 (some .int) ∈ ax_WS := ax_wl wdl_5_ok 37 rfl
theorem wd_336 : Cond.methodLink RX9 60 yX1_hasInput ∈ ax_WS := ax_wl wdl_5_ok 38 rfl
theorem wd_337 : Cond.instanceMethod yX1_hasInput ∈ ax_WS := ax_wl wdl_5_ok 39 rfl
def wdl_6 : List Cond := [Cond.selects RX1 yX1_hasInput yX1_hasInput, Cond.code yX1_hasInput cX1_hasInput 3 (some .boolean), Cond.methodLink RX1 43 yX2_inputs, Cond.static yX2_inputs, Cond.code yX2_inputs cX2_inputs 1 (some .int), Cond.fieldLink RX2 9 RX2 "INPUTS" "[I", Cond.methodLink RX9 64 yX1_has, Cond.methodLink RX9 68 yX1_dependents, Cond.instanceMethod yX1_dependents, Cond.selects RX1 yX1_dependents yX1_dependents, Cond.code yX1_dependents cX1_dependents 5 (some .int), Cond.methodLink RX9 71 yX9_contains, Cond.methodLink RX9 74 yX1_link, Cond.instanceMethod yX1_link, Cond.selects RX1 yX1_link yX1_link, Cond.code yX1_link cX1_link 4 none, Cond.methodLink RX1 59 yX1_hasInput, Cond.methodLink RX9 78 yX0_makeVoid, Cond.instanceMethod yX0_makeVoid, Cond.selects RX0 yX0_makeVoid yX0_makeVoid, Cond.code yX0_makeVoid cX0_makeVoid 4 (some .int), Cond.methodLink RX0 44 yX0_makeVoidInOne, Cond.instanceMethod yX0_makeVoidInOne, Cond.selects RX0 yX0_makeVoidInOne yX0_makeVoidInOne, Cond.code yX0_makeVoidInOne cX0_makeVoidInOne 11 (some .int), Cond.methodLink RX0 56 yX0_remove, Cond.instanceMethod yX0_remove, Cond.code yX0_remove cX0_remove 3 none, Cond.methodLink RL 28 yX9_set, Cond.instanceMethod yX9_set, Cond.selects RX9 yX9_set yX9_set, Cond.code yX9_set cX9_set 6 (some .int), Cond.methodLink RX9 94 yX1_hasParameter, Cond.instanceMethod yX1_hasParameter, Cond.selects RX1 yX1_hasParameter yX1_hasParameter, Cond.code yX1_hasParameter cX1_hasParameter 3 (some .boolean), Cond.methodLink RX1 49 yX2_parameters, Cond.static yX2_parameters, Cond.code yX2_parameters cX2_parameters 1 (some .int), Cond.fieldLink RX2 19 RX2 "PARAMETERS" "[I"]
theorem wdl_6_ok : wdl_6.all goodWord = true ∧ [338, 339, 340, 341, 342, 343, 345, 346, 347, 348, 349, 350, 351, 352, 353, 354, 355, 356, 357, 358, 359, 360, 361, 362, 363, 366, 368, 369, 370, 371, 372, 373, 374, 375, 376, 377, 378, 379, 380, 381].map (fun i => lw_tbl[i]?) = wdl_6.map some := by decide +kernel
theorem wd_338 : Cond.selects RX1 yX1_hasInput yX1_hasInput ∈ ax_WS := ax_wl wdl_6_ok 0 rfl
theorem wd_339 : Cond.code yX1_hasInput cX1_hasInput 3 (some .boolean) ∈ ax_WS := ax_wl wdl_6_ok 1 rfl
theorem wd_340 : Cond.methodLink RX1 43 yX2_inputs ∈ ax_WS := ax_wl wdl_6_ok 2 rfl
theorem wd_341 : Cond.static yX2_inputs ∈ ax_WS := ax_wl wdl_6_ok 3 rfl
theorem wd_342 : Cond.code yX2_inputs cX2_inputs 1 (some .int) ∈ ax_WS := ax_wl wdl_6_ok 4 rfl
theorem wd_343 : Cond.fieldLink RX2 9 RX2 "INPUTS" "[I" ∈ ax_WS := ax_wl wdl_6_ok 5 rfl
theorem wd_345 : Cond.methodLink RX9 64 yX1_has ∈ ax_WS := ax_wl wdl_6_ok 6 rfl
theorem wd_346 : Cond.methodLink RX9 68 yX1_dependents ∈ ax_WS := ax_wl wdl_6_ok 7 rfl
theorem wd_347 : Cond.instanceMethod yX1_dependents ∈ ax_WS := ax_wl wdl_6_ok 8 rfl
theorem wd_348 : Cond.selects RX1 yX1_dependents yX1_dependents ∈ ax_WS := ax_wl wdl_6_ok 9 rfl
theorem wd_349 : Cond.code yX1_dependents cX1_dependents 5 (some .int) ∈ ax_WS := ax_wl wdl_6_ok 10 rfl
theorem wd_350 : Cond.methodLink RX9 71 yX9_contains ∈ ax_WS := ax_wl wdl_6_ok 11 rfl
theorem wd_351 : Cond.methodLink RX9 74 yX1_link ∈ ax_WS := ax_wl wdl_6_ok 12 rfl
theorem wd_352 : Cond.instanceMethod yX1_link ∈ ax_WS := ax_wl wdl_6_ok 13 rfl
theorem wd_353 : Cond.selects RX1 yX1_link yX1_link ∈ ax_WS := ax_wl wdl_6_ok 14 rfl
theorem wd_354 : Cond.code yX1_link cX1_link 4 none ∈ ax_WS := ax_wl wdl_6_ok 15 rfl
theorem wd_355 : Cond.methodLink RX1 59 yX1_hasInput ∈ ax_WS := ax_wl wdl_6_ok 16 rfl
theorem wd_356 : Cond.methodLink RX9 78 yX0_makeVoid ∈ ax_WS := ax_wl wdl_6_ok 17 rfl
theorem wd_357 : Cond.instanceMethod yX0_makeVoid ∈ ax_WS := ax_wl wdl_6_ok 18 rfl
theorem wd_358 : Cond.selects RX0 yX0_makeVoid yX0_makeVoid ∈ ax_WS := ax_wl wdl_6_ok 19 rfl
theorem wd_359 : Cond.code yX0_makeVoid cX0_makeVoid 4 (some .int) ∈ ax_WS := ax_wl wdl_6_ok 20 rfl
theorem wd_360 : Cond.methodLink RX0 44 yX0_makeVoidInOne ∈ ax_WS := ax_wl wdl_6_ok 21 rfl
theorem wd_361 : Cond.instanceMethod yX0_makeVoidInOne ∈ ax_WS := ax_wl wdl_6_ok 22 rfl
theorem wd_362 : Cond.selects RX0 yX0_makeVoidInOne yX0_makeVoidInOne ∈ ax_WS := ax_wl wdl_6_ok 23 rfl
theorem wd_363 : Cond.code yX0_makeVoidInOne cX0_makeVoidInOne 11 (some .int) ∈ ax_WS := ax_wl wdl_6_ok 24 rfl
theorem wd_366 : Cond.methodLink RX0 56 yX0_remove ∈ ax_WS := ax_wl wdl_6_ok 25 rfl
theorem wd_368 : Cond.instanceMethod yX0_remove ∈ ax_WS := ax_wl wdl_6_ok 26 rfl
theorem wd_369 : Cond.code yX0_remove cX0_remove 3 none ∈ ax_WS := ax_wl wdl_6_ok 27 rfl
theorem wd_370 : Cond.methodLink RL 28 yX9_set ∈ ax_WS := ax_wl wdl_6_ok 28 rfl
theorem wd_371 : Cond.instanceMethod yX9_set ∈ ax_WS := ax_wl wdl_6_ok 29 rfl
theorem wd_372 : Cond.selects RX9 yX9_set yX9_set ∈ ax_WS := ax_wl wdl_6_ok 30 rfl
theorem wd_373 : Cond.code yX9_set cX9_set 6 (some .int) ∈ ax_WS := ax_wl wdl_6_ok 31 rfl
theorem wd_374 : Cond.methodLink RX9 94 yX1_hasParameter ∈ ax_WS := ax_wl wdl_6_ok 32 rfl
theorem wd_375 : Cond.instanceMethod yX1_hasParameter ∈ ax_WS := ax_wl wdl_6_ok 33 rfl
theorem wd_376 : Cond.selects RX1 yX1_hasParameter yX1_hasParameter ∈ ax_WS := ax_wl wdl_6_ok 34 rfl
theorem wd_377 : Cond.code yX1_hasParameter cX1_hasParameter 3 (some .boolean) ∈ ax_WS := ax_wl wdl_6_ok 35 rfl
theorem wd_378 : Cond.methodLink RX1 49 yX2_parameters ∈ ax_WS := ax_wl wdl_6_ok 36 rfl
theorem wd_379 : Cond.static yX2_parameters ∈ ax_WS := ax_wl wdl_6_ok 37 rfl
theorem wd_380 : Cond.code yX2_parameters cX2_parameters 1 (some .int) ∈ ax_WS := ax_wl wdl_6_ok 38 rfl
theorem wd_381 : Cond.fieldLink RX2 19 RX2 "PARAMETERS" "[I" ∈ ax_WS := ax_wl wdl_6_ok 39 rfl
def wdl_7 : List Cond := [Cond.methodLink RX9 100 yX2_lowest, Cond.static yX2_lowest, Cond.code yX2_lowest cX2_lowest 2 (some .int), Cond.fieldLink RX2 25 RX2 "LOWEST" "[I", Cond.methodLink RX9 106 yX2_highest, Cond.static yX2_highest, Cond.code yX2_highest cX2_highest 2 (some .int), Cond.fieldLink RX2 28 RX2 "HIGHEST" "[I", Cond.methodLink RL 32 yX9_setRange, Cond.instanceMethod yX9_setRange, Cond.selects RX9 yX9_setRange yX9_setRange, Cond.code yX9_setRange cX9_setRange 7 (some .int), Cond.methodLink RX9 112 yX9_isFrame, Cond.static yX9_isFrame, Cond.code yX9_isFrame cX9_isFrame 1 (some .boolean), Cond.methodLink RX9 115 yX0_makeVoidInOne, Cond.methodLink RL 36 yX9_nodes, Cond.instanceMethod yX9_nodes, Cond.selects RX9 yX9_nodes yX9_nodes, Cond.code yX9_nodes cX9_nodes 1 (some .int), Cond.methodLink RL 40 yX9_node, Cond.instanceMethod yX9_node, Cond.selects RX9 yX9_node yX9_node, Cond.code yX9_node cX9_node 3 (some .int), Cond.methodLink RX9 119 yJ6_bitCount_0f7a4, Cond.static yJ6_bitCount_0f7a4, Cond.code yJ6_bitCount_0f7a4 cJ6_bitCount_0f7a4 1 (some .int), Cond.constant RJ6 265 (1431655765), Cond.constant RJ6 266 (858993459), Cond.constant RJ6 267 (252645135), Cond.methodLink RL 45 yX9_input, Cond.instanceMethod yX9_input, Cond.selects RX9 yX9_input yX9_input, Cond.code yX9_input cX9_input 3 (some .int), Cond.methodLink RL 49 yX9_parameter, Cond.instanceMethod yX9_parameter, Cond.selects RX9 yX9_parameter yX9_parameter, Cond.code yX9_parameter cX9_parameter 3 (some .int), Cond.methodLink RL 53 yX9_value, Cond.instanceMethod yX9_value]
theorem wdl_7_ok : wdl_7.all goodWord = true ∧ [383, 384, 385, 386, 388, 389, 390, 391, 393, 394, 395, 396, 397, 398, 399, 400, 401, 402, 403, 404, 405, 406, 407, 408, 409, 410, 411, 412, 413, 414, 415, 416, 417, 418, 419, 420, 421, 422, 423, 424].map (fun i => lw_tbl[i]?) = wdl_7.map some := by decide +kernel
theorem wd_383 : Cond.methodLink RX9 100 yX2_lowest ∈ ax_WS := ax_wl wdl_7_ok 0 rfl
theorem wd_384 : Cond.static yX2_lowest ∈ ax_WS := ax_wl wdl_7_ok 1 rfl
theorem wd_385 : Cond.code yX2_lowest cX2_lowest 2 (some .int) ∈ ax_WS := ax_wl wdl_7_ok 2 rfl
theorem wd_386 : Cond.fieldLink RX2 25 RX2 "LOWEST" "[I" ∈ ax_WS := ax_wl wdl_7_ok 3 rfl
theorem wd_388 : Cond.methodLink RX9 106 yX2_highest ∈ ax_WS := ax_wl wdl_7_ok 4 rfl
theorem wd_389 : Cond.static yX2_highest ∈ ax_WS := ax_wl wdl_7_ok 5 rfl
theorem wd_390 : Cond.code yX2_highest cX2_highest 2 (some .int) ∈ ax_WS := ax_wl wdl_7_ok 6 rfl
theorem wd_391 : Cond.fieldLink RX2 28 RX2 "HIGHEST" "[I" ∈ ax_WS := ax_wl wdl_7_ok 7 rfl
theorem wd_393 : Cond.methodLink RL 32 yX9_setRange ∈ ax_WS := ax_wl wdl_7_ok 8 rfl
theorem wd_394 : Cond.instanceMethod yX9_setRange ∈ ax_WS := ax_wl wdl_7_ok 9 rfl
theorem wd_395 : Cond.selects RX9 yX9_setRange yX9_setRange ∈ ax_WS := ax_wl wdl_7_ok 10 rfl
theorem wd_396 : Cond.code yX9_setRange cX9_setRange 7 (some .int) ∈ ax_WS := ax_wl wdl_7_ok 11 rfl
theorem wd_397 : Cond.methodLink RX9 112 yX9_isFrame ∈ ax_WS := ax_wl wdl_7_ok 12 rfl
theorem wd_398 : Cond.static yX9_isFrame ∈ ax_WS := ax_wl wdl_7_ok 13 rfl
theorem wd_399 : Cond.code yX9_isFrame cX9_isFrame 1 (some .boolean) ∈ ax_WS := ax_wl wdl_7_ok 14 rfl
theorem wd_400 : Cond.methodLink RX9 115 yX0_makeVoidInOne ∈ ax_WS := ax_wl wdl_7_ok 15 rfl
theorem wd_401 : Cond.methodLink RL 36 yX9_nodes ∈ ax_WS := ax_wl wdl_7_ok 16 rfl
theorem wd_402 : Cond.instanceMethod yX9_nodes ∈ ax_WS := ax_wl wdl_7_ok 17 rfl
theorem wd_403 : Cond.selects RX9 yX9_nodes yX9_nodes ∈ ax_WS := ax_wl wdl_7_ok 18 rfl
theorem wd_404 : Cond.code yX9_nodes cX9_nodes 1 (some .int) ∈ ax_WS := ax_wl wdl_7_ok 19 rfl
theorem wd_405 : Cond.methodLink RL 40 yX9_node ∈ ax_WS := ax_wl wdl_7_ok 20 rfl
theorem wd_406 : Cond.instanceMethod yX9_node ∈ ax_WS := ax_wl wdl_7_ok 21 rfl
theorem wd_407 : Cond.selects RX9 yX9_node yX9_node ∈ ax_WS := ax_wl wdl_7_ok 22 rfl
theorem wd_408 : Cond.code yX9_node cX9_node 3 (some .int) ∈ ax_WS := ax_wl wdl_7_ok 23 rfl
theorem wd_409 : Cond.methodLink RX9 119 yJ6_bitCount_0f7a4 ∈ ax_WS := ax_wl wdl_7_ok 24 rfl
theorem wd_410 : Cond.static yJ6_bitCount_0f7a4 ∈ ax_WS := ax_wl wdl_7_ok 25 rfl
theorem wd_411 : Cond.code yJ6_bitCount_0f7a4 cJ6_bitCount_0f7a4 1 (some .int) ∈ ax_WS := ax_wl wdl_7_ok 26 rfl
theorem wd_412 : Cond.constant RJ6 265 (1431655765) ∈ ax_WS := ax_wl wdl_7_ok 27 rfl
theorem wd_413 : Cond.constant RJ6 266 (858993459) ∈ ax_WS := ax_wl wdl_7_ok 28 rfl
theorem wd_414 : Cond.constant RJ6 267 (252645135) ∈ ax_WS := ax_wl wdl_7_ok 29 rfl
theorem wd_415 : Cond.methodLink RL 45 yX9_input ∈ ax_WS := ax_wl wdl_7_ok 30 rfl
theorem wd_416 : Cond.instanceMethod yX9_input ∈ ax_WS := ax_wl wdl_7_ok 31 rfl
theorem wd_417 : Cond.selects RX9 yX9_input yX9_input ∈ ax_WS := ax_wl wdl_7_ok 32 rfl
theorem wd_418 : Cond.code yX9_input cX9_input 3 (some .int) ∈ ax_WS := ax_wl wdl_7_ok 33 rfl
theorem wd_419 : Cond.methodLink RL 49 yX9_parameter ∈ ax_WS := ax_wl wdl_7_ok 34 rfl
theorem wd_420 : Cond.instanceMethod yX9_parameter ∈ ax_WS := ax_wl wdl_7_ok 35 rfl
theorem wd_421 : Cond.selects RX9 yX9_parameter yX9_parameter ∈ ax_WS := ax_wl wdl_7_ok 36 rfl
theorem wd_422 : Cond.code yX9_parameter cX9_parameter 3 (some .int) ∈ ax_WS := ax_wl wdl_7_ok 37 rfl
theorem wd_423 : Cond.methodLink RL 53 yX9_value ∈ ax_WS := ax_wl wdl_7_ok 38 rfl
theorem wd_424 : Cond.instanceMethod yX9_value ∈ ax_WS := ax_wl wdl_7_ok 39 rfl
def wdl_8 : List Cond := [Cond.selects RX9 yX9_value yX9_value, Cond.code yX9_value cX9_value 7 (some .int), Cond.methodLink RX9 133 yX9_isChannel, Cond.static yX9_isChannel, Cond.code yX9_isChannel cX9_isChannel 1 (some .boolean), Cond.methodLink RX9 136 yX9_ask, Cond.instanceMethod yX9_ask, Cond.code yX9_ask cX9_ask 11 (some (.array .int)), Cond.methodLink RX9 170 yX0_find, Cond.instanceMethod yX0_find, Cond.selects RX0 yX0_find yX0_find, Cond.code yX0_find cX0_find 5 (some (.object "GradeGraph$Picture")), Cond.methodLink RX9 260 yX0_hit, Cond.instanceMethod yX0_hit, Cond.selects RX0 yX0_hit yX0_hit, Cond.code yX0_hit cX0_hit 2 none, Cond.methodLink RX0 34 yX0_touch, Cond.instanceMethod yX0_touch, Cond.code yX0_touch cX0_touch 2 none, Cond.methodLink RX9 269 yX0_admit, Cond.instanceMethod yX0_admit, Cond.selects RX0 yX0_admit yX0_admit, Cond.code yX0_admit cX0_admit 4 (some (.object "GradeGraph$Picture")), Cond.methodLink RX0 41 yX0_dropOldest, Cond.instanceMethod yX0_dropOldest, Cond.code yX0_dropOldest cX0_dropOldest 3 none, Cond.methodLink RX9 272 yX4_paint, Cond.static yX4_paint, Cond.code yX4_paint cX4_paint 6 none, Cond.methodLink RX4 19 yX4_paintSource, Cond.static yX4_paintSource, Cond.code yX4_paintSource cX4_paintSource 8 none, Cond.methodLink RX4 25 yX4_paintAmounts, Cond.static yX4_paintAmounts, Cond.code yX4_paintAmounts cX4_paintAmounts 6 none, Cond.methodLink RX4 45 Lib.Math.min.name, Cond.static Lib.Math.min.name, Cond.code Lib.Math.min.name Lib.Math.min.code 2 (some .int), Cond.methodLink RX4 51 Lib.Math.max.name, Cond.methodLink RX4 29 yX4_paintInverse]
theorem wdl_8_ok : wdl_8.all goodWord = true ∧ [425, 426, 427, 428, 429, 430, 432, 433, 434, 435, 436, 437, 438, 439, 440, 441, 442, 444, 445, 446, 447, 448, 449, 450, 452, 453, 454, 455, 456, 457, 458, 459, 460, 461, 462, 463, 464, 465, 466, 467].map (fun i => lw_tbl[i]?) = wdl_8.map some := by decide +kernel
theorem wd_425 : Cond.selects RX9 yX9_value yX9_value ∈ ax_WS := ax_wl wdl_8_ok 0 rfl
theorem wd_426 : Cond.code yX9_value cX9_value 7 (some .int) ∈ ax_WS := ax_wl wdl_8_ok 1 rfl
theorem wd_427 : Cond.methodLink RX9 133 yX9_isChannel ∈ ax_WS := ax_wl wdl_8_ok 2 rfl
theorem wd_428 : Cond.static yX9_isChannel ∈ ax_WS := ax_wl wdl_8_ok 3 rfl
theorem wd_429 : Cond.code yX9_isChannel cX9_isChannel 1 (some .boolean) ∈ ax_WS := ax_wl wdl_8_ok 4 rfl
theorem wd_430 : Cond.methodLink RX9 136 yX9_ask ∈ ax_WS := ax_wl wdl_8_ok 5 rfl
theorem wd_432 : Cond.instanceMethod yX9_ask ∈ ax_WS := ax_wl wdl_8_ok 6 rfl
theorem wd_433 : Cond.code yX9_ask cX9_ask 11 (some (.array .int)) ∈ ax_WS := ax_wl wdl_8_ok 7 rfl
theorem wd_434 : Cond.methodLink RX9 170 yX0_find ∈ ax_WS := ax_wl wdl_8_ok 8 rfl
theorem wd_435 : Cond.instanceMethod yX0_find ∈ ax_WS := ax_wl wdl_8_ok 9 rfl
theorem wd_436 : Cond.selects RX0 yX0_find yX0_find ∈ ax_WS := ax_wl wdl_8_ok 10 rfl
theorem wd_437 : Cond.code yX0_find cX0_find 5 (some (.object "GradeGraph$Picture")) ∈ ax_WS := ax_wl wdl_8_ok 11 rfl
theorem wd_438 : Cond.methodLink RX9 260 yX0_hit ∈ ax_WS := ax_wl wdl_8_ok 12 rfl
theorem wd_439 : Cond.instanceMethod yX0_hit ∈ ax_WS := ax_wl wdl_8_ok 13 rfl
theorem wd_440 : Cond.selects RX0 yX0_hit yX0_hit ∈ ax_WS := ax_wl wdl_8_ok 14 rfl
theorem wd_441 : Cond.code yX0_hit cX0_hit 2 none ∈ ax_WS := ax_wl wdl_8_ok 15 rfl
theorem wd_442 : Cond.methodLink RX0 34 yX0_touch ∈ ax_WS := ax_wl wdl_8_ok 16 rfl
theorem wd_444 : Cond.instanceMethod yX0_touch ∈ ax_WS := ax_wl wdl_8_ok 17 rfl
theorem wd_445 : Cond.code yX0_touch cX0_touch 2 none ∈ ax_WS := ax_wl wdl_8_ok 18 rfl
theorem wd_446 : Cond.methodLink RX9 269 yX0_admit ∈ ax_WS := ax_wl wdl_8_ok 19 rfl
theorem wd_447 : Cond.instanceMethod yX0_admit ∈ ax_WS := ax_wl wdl_8_ok 20 rfl
theorem wd_448 : Cond.selects RX0 yX0_admit yX0_admit ∈ ax_WS := ax_wl wdl_8_ok 21 rfl
theorem wd_449 : Cond.code yX0_admit cX0_admit 4 (some (.object "GradeGraph$Picture")) ∈ ax_WS := ax_wl wdl_8_ok 22 rfl
theorem wd_450 : Cond.methodLink RX0 41 yX0_dropOldest ∈ ax_WS := ax_wl wdl_8_ok 23 rfl
theorem wd_452 : Cond.instanceMethod yX0_dropOldest ∈ ax_WS := ax_wl wdl_8_ok 24 rfl
theorem wd_453 : Cond.code yX0_dropOldest cX0_dropOldest 3 none ∈ ax_WS := ax_wl wdl_8_ok 25 rfl
theorem wd_454 : Cond.methodLink RX9 272 yX4_paint ∈ ax_WS := ax_wl wdl_8_ok 26 rfl
theorem wd_455 : Cond.static yX4_paint ∈ ax_WS := ax_wl wdl_8_ok 27 rfl
theorem wd_456 : Cond.code yX4_paint cX4_paint 6 none ∈ ax_WS := ax_wl wdl_8_ok 28 rfl
theorem wd_457 : Cond.methodLink RX4 19 yX4_paintSource ∈ ax_WS := ax_wl wdl_8_ok 29 rfl
theorem wd_458 : Cond.static yX4_paintSource ∈ ax_WS := ax_wl wdl_8_ok 30 rfl
theorem wd_459 : Cond.code yX4_paintSource cX4_paintSource 8 none ∈ ax_WS := ax_wl wdl_8_ok 31 rfl
theorem wd_460 : Cond.methodLink RX4 25 yX4_paintAmounts ∈ ax_WS := ax_wl wdl_8_ok 32 rfl
theorem wd_461 : Cond.static yX4_paintAmounts ∈ ax_WS := ax_wl wdl_8_ok 33 rfl
theorem wd_462 : Cond.code yX4_paintAmounts cX4_paintAmounts 6 none ∈ ax_WS := ax_wl wdl_8_ok 34 rfl
theorem wd_463 : Cond.methodLink RX4 45 Lib.Math.min.name ∈ ax_WS := ax_wl wdl_8_ok 35 rfl
theorem wd_464 : Cond.static Lib.Math.min.name ∈ ax_WS := ax_wl wdl_8_ok 36 rfl
theorem wd_465 : Cond.code Lib.Math.min.name Lib.Math.min.code 2 (some .int) ∈ ax_WS := ax_wl wdl_8_ok 37 rfl
theorem wd_466 : Cond.methodLink RX4 51 Lib.Math.max.name ∈ ax_WS := ax_wl wdl_8_ok 38 rfl
theorem wd_467 : Cond.methodLink RX4 29 yX4_paintInverse ∈ ax_WS := ax_wl wdl_8_ok 39 rfl
def wdl_9 : List Cond := [Cond.static yX4_paintInverse, Cond.code yX4_paintInverse cX4_paintInverse 3 none, Cond.methodLink RX4 33 yX4_paintBlur, Cond.static yX4_paintBlur, Cond.code yX4_paintBlur cX4_paintBlur 10 none, Cond.methodLink RX4 37 yX4_paintKey, Cond.static yX4_paintKey, Cond.code yX4_paintKey cX4_paintKey 7 none, Cond.methodLink RX4 54 yX4_mask, Cond.static yX4_mask, Cond.code yX4_mask cX4_mask 5 (some .int), Cond.methodLink RX4 41 yX4_paintBlend, Cond.static yX4_paintBlend, Cond.code yX4_paintBlend cX4_paintBlend 6 none, Cond.methodLink RX9 278 arraycopyName, Cond.static arraycopyName, Cond.native arraycopyName, Cond.methodLink RL 58 yX9_scope, Cond.instanceMethod yX9_scope, Cond.selects RX9 yX9_scope yX9_scope, Cond.code yX9_scope cX9_scope 6 (some .int), Cond.methodLink RX9 140 yX7_inPart, Cond.static yX7_inPart, Cond.code yX7_inPart cX7_inPart 6 (some .int), Cond.methodLink RL 63 yX9_sum, Cond.instanceMethod yX9_sum, Cond.selects RX9 yX9_sum yX9_sum, Cond.code yX9_sum cX9_sum 6 (some .int), Cond.methodLink RX9 146 yX7_least, Cond.static yX7_least, Cond.code yX7_least cX7_least 5 (some .int), Cond.methodLink RX7 9 Lib.Math.min.name, Cond.methodLink RX9 150 yX7_greatest, Cond.static yX7_greatest, Cond.code yX7_greatest cX7_greatest 5 (some .int), Cond.methodLink RX7 15 Lib.Math.max.name, Cond.methodLink RX9 153 yX7_total, Cond.static yX7_total, Cond.code yX7_total cX7_total 5 (some .int), Cond.methodLink RX9 156 yX7_different]
theorem wdl_9_ok : wdl_9.all goodWord = true ∧ [468, 469, 470, 471, 472, 473, 474, 475, 476, 477, 478, 479, 480, 481, 482, 483, 484, 485, 486, 487, 488, 489, 490, 491, 492, 493, 494, 495, 496, 497, 498, 499, 500, 501, 502, 503, 504, 505, 506, 507].map (fun i => lw_tbl[i]?) = wdl_9.map some := by decide +kernel
theorem wd_468 : Cond.static yX4_paintInverse ∈ ax_WS := ax_wl wdl_9_ok 0 rfl
theorem wd_469 : Cond.code yX4_paintInverse cX4_paintInverse 3 none ∈ ax_WS := ax_wl wdl_9_ok 1 rfl
theorem wd_470 : Cond.methodLink RX4 33 yX4_paintBlur ∈ ax_WS := ax_wl wdl_9_ok 2 rfl
theorem wd_471 : Cond.static yX4_paintBlur ∈ ax_WS := ax_wl wdl_9_ok 3 rfl
theorem wd_472 : Cond.code yX4_paintBlur cX4_paintBlur 10 none ∈ ax_WS := ax_wl wdl_9_ok 4 rfl
theorem wd_473 : Cond.methodLink RX4 37 yX4_paintKey ∈ ax_WS := ax_wl wdl_9_ok 5 rfl
theorem wd_474 : Cond.static yX4_paintKey ∈ ax_WS := ax_wl wdl_9_ok 6 rfl
theorem wd_475 : Cond.code yX4_paintKey cX4_paintKey 7 none ∈ ax_WS := ax_wl wdl_9_ok 7 rfl
theorem wd_476 : Cond.methodLink RX4 54 yX4_mask ∈ ax_WS := ax_wl wdl_9_ok 8 rfl
theorem wd_477 : Cond.static yX4_mask ∈ ax_WS := ax_wl wdl_9_ok 9 rfl
theorem wd_478 : Cond.code yX4_mask cX4_mask 5 (some .int) ∈ ax_WS := ax_wl wdl_9_ok 10 rfl
theorem wd_479 : Cond.methodLink RX4 41 yX4_paintBlend ∈ ax_WS := ax_wl wdl_9_ok 11 rfl
theorem wd_480 : Cond.static yX4_paintBlend ∈ ax_WS := ax_wl wdl_9_ok 12 rfl
theorem wd_481 : Cond.code yX4_paintBlend cX4_paintBlend 6 none ∈ ax_WS := ax_wl wdl_9_ok 13 rfl
theorem wd_482 : Cond.methodLink RX9 278 arraycopyName ∈ ax_WS := ax_wl wdl_9_ok 14 rfl
theorem wd_483 : Cond.static arraycopyName ∈ ax_WS := ax_wl wdl_9_ok 15 rfl
theorem wd_484 : Cond.native arraycopyName ∈ ax_WS := ax_wl wdl_9_ok 16 rfl
theorem wd_485 : Cond.methodLink RL 58 yX9_scope ∈ ax_WS := ax_wl wdl_9_ok 17 rfl
theorem wd_486 : Cond.instanceMethod yX9_scope ∈ ax_WS := ax_wl wdl_9_ok 18 rfl
theorem wd_487 : Cond.selects RX9 yX9_scope yX9_scope ∈ ax_WS := ax_wl wdl_9_ok 19 rfl
theorem wd_488 : Cond.code yX9_scope cX9_scope 6 (some .int) ∈ ax_WS := ax_wl wdl_9_ok 20 rfl
theorem wd_489 : Cond.methodLink RX9 140 yX7_inPart ∈ ax_WS := ax_wl wdl_9_ok 21 rfl
theorem wd_490 : Cond.static yX7_inPart ∈ ax_WS := ax_wl wdl_9_ok 22 rfl
theorem wd_491 : Cond.code yX7_inPart cX7_inPart 6 (some .int) ∈ ax_WS := ax_wl wdl_9_ok 23 rfl
theorem wd_492 : Cond.methodLink RL 63 yX9_sum ∈ ax_WS := ax_wl wdl_9_ok 24 rfl
theorem wd_493 : Cond.instanceMethod yX9_sum ∈ ax_WS := ax_wl wdl_9_ok 25 rfl
theorem wd_494 : Cond.selects RX9 yX9_sum yX9_sum ∈ ax_WS := ax_wl wdl_9_ok 26 rfl
theorem wd_495 : Cond.code yX9_sum cX9_sum 6 (some .int) ∈ ax_WS := ax_wl wdl_9_ok 27 rfl
theorem wd_496 : Cond.methodLink RX9 146 yX7_least ∈ ax_WS := ax_wl wdl_9_ok 28 rfl
theorem wd_497 : Cond.static yX7_least ∈ ax_WS := ax_wl wdl_9_ok 29 rfl
theorem wd_498 : Cond.code yX7_least cX7_least 5 (some .int) ∈ ax_WS := ax_wl wdl_9_ok 30 rfl
theorem wd_499 : Cond.methodLink RX7 9 Lib.Math.min.name ∈ ax_WS := ax_wl wdl_9_ok 31 rfl
theorem wd_500 : Cond.methodLink RX9 150 yX7_greatest ∈ ax_WS := ax_wl wdl_9_ok 32 rfl
theorem wd_501 : Cond.static yX7_greatest ∈ ax_WS := ax_wl wdl_9_ok 33 rfl
theorem wd_502 : Cond.code yX7_greatest cX7_greatest 5 (some .int) ∈ ax_WS := ax_wl wdl_9_ok 34 rfl
theorem wd_503 : Cond.methodLink RX7 15 Lib.Math.max.name ∈ ax_WS := ax_wl wdl_9_ok 35 rfl
theorem wd_504 : Cond.methodLink RX9 153 yX7_total ∈ ax_WS := ax_wl wdl_9_ok 36 rfl
theorem wd_505 : Cond.static yX7_total ∈ ax_WS := ax_wl wdl_9_ok 37 rfl
theorem wd_506 : Cond.code yX7_total cX7_total 5 (some .int) ∈ ax_WS := ax_wl wdl_9_ok 38 rfl
theorem wd_507 : Cond.methodLink RX9 156 yX7_different ∈ ax_WS := ax_wl wdl_9_ok 39 rfl
def wdl_10 : List Cond := [Cond.static yX7_different, Cond.code yX7_different cX7_different 5 (some .int), Cond.methodLink RX7 18 yX7_standsBefore, Cond.static yX7_standsBefore, Cond.code yX7_standsBefore cX7_standsBefore 4 (some .boolean), Cond.methodLink RL 67 yX9_compare, Cond.instanceMethod yX9_compare, Cond.selects RX9 yX9_compare yX9_compare, Cond.code yX9_compare cX9_compare 6 (some .int), Cond.methodLink RX9 159 yX7_greatestDifference, Cond.static yX7_greatestDifference, Cond.code yX7_greatestDifference cX7_greatestDifference 4 (some .int), Cond.methodLink RX7 24 Lib.Math.abs.name, Cond.static Lib.Math.abs.name, Cond.code Lib.Math.abs.name Lib.Math.abs.code 1 (some .int), Cond.methodLink RL 71 yX9_setRoom, Cond.instanceMethod yX9_setRoom, Cond.selects RX9 yX9_setRoom yX9_setRoom, Cond.code yX9_setRoom cX9_setRoom 3 (some .int), Cond.methodLink RX9 166 yX0_changeRoom, Cond.instanceMethod yX0_changeRoom, Cond.selects RX0 yX0_changeRoom yX0_changeRoom, Cond.code yX0_changeRoom cX0_changeRoom 3 none, Cond.methodLink RL 75 yX9_isCached, Cond.instanceMethod yX9_isCached, Cond.selects RX9 yX9_isCached yX9_isCached, Cond.code yX9_isCached cX9_isCached 3 (some .int), Cond.methodLink RL 79 yX9_count, Cond.instanceMethod yX9_count, Cond.selects RX9 yX9_count yX9_count, Cond.code yX9_count cX9_count 2 (some .int), Cond.methodLink RL 83 yX9_append, Cond.instanceMethod yX9_append, Cond.selects RX9 yX9_append yX9_append, Cond.code yX9_append cX9_append 2 (some .int), Cond.methodLink RX9 191 yX8_put, Cond.instanceMethod yX8_put, Cond.selects RX8 yX8_put yX8_put, Cond.code yX8_put cX8_put 2 (some .int), Cond.methodLink RL 87 yX9_clearText]
theorem wdl_10_ok : wdl_10.all goodWord = true ∧ [508, 509, 510, 511, 512, 513, 514, 515, 516, 517, 518, 519, 520, 521, 522, 523, 524, 525, 526, 527, 528, 529, 530, 531, 532, 533, 534, 535, 536, 537, 538, 539, 540, 541, 542, 543, 544, 545, 546, 547].map (fun i => lw_tbl[i]?) = wdl_10.map some := by decide +kernel
theorem wd_508 : Cond.static yX7_different ∈ ax_WS := ax_wl wdl_10_ok 0 rfl
theorem wd_509 : Cond.code yX7_different cX7_different 5 (some .int) ∈ ax_WS := ax_wl wdl_10_ok 1 rfl
theorem wd_510 : Cond.methodLink RX7 18 yX7_standsBefore ∈ ax_WS := ax_wl wdl_10_ok 2 rfl
theorem wd_511 : Cond.static yX7_standsBefore ∈ ax_WS := ax_wl wdl_10_ok 3 rfl
theorem wd_512 : Cond.code yX7_standsBefore cX7_standsBefore 4 (some .boolean) ∈ ax_WS := ax_wl wdl_10_ok 4 rfl
theorem wd_513 : Cond.methodLink RL 67 yX9_compare ∈ ax_WS := ax_wl wdl_10_ok 5 rfl
theorem wd_514 : Cond.instanceMethod yX9_compare ∈ ax_WS := ax_wl wdl_10_ok 6 rfl
theorem wd_515 : Cond.selects RX9 yX9_compare yX9_compare ∈ ax_WS := ax_wl wdl_10_ok 7 rfl
theorem wd_516 : Cond.code yX9_compare cX9_compare 6 (some .int) ∈ ax_WS := ax_wl wdl_10_ok 8 rfl
theorem wd_517 : Cond.methodLink RX9 159 yX7_greatestDifference ∈ ax_WS := ax_wl wdl_10_ok 9 rfl
theorem wd_518 : Cond.static yX7_greatestDifference ∈ ax_WS := ax_wl wdl_10_ok 10 rfl
theorem wd_519 : Cond.code yX7_greatestDifference cX7_greatestDifference 4 (some .int) ∈ ax_WS := ax_wl wdl_10_ok 11 rfl
theorem wd_520 : Cond.methodLink RX7 24 Lib.Math.abs.name ∈ ax_WS := ax_wl wdl_10_ok 12 rfl
theorem wd_521 : Cond.static Lib.Math.abs.name ∈ ax_WS := ax_wl wdl_10_ok 13 rfl
theorem wd_522 : Cond.code Lib.Math.abs.name Lib.Math.abs.code 1 (some .int) ∈ ax_WS := ax_wl wdl_10_ok 14 rfl
theorem wd_523 : Cond.methodLink RL 71 yX9_setRoom ∈ ax_WS := ax_wl wdl_10_ok 15 rfl
theorem wd_524 : Cond.instanceMethod yX9_setRoom ∈ ax_WS := ax_wl wdl_10_ok 16 rfl
theorem wd_525 : Cond.selects RX9 yX9_setRoom yX9_setRoom ∈ ax_WS := ax_wl wdl_10_ok 17 rfl
theorem wd_526 : Cond.code yX9_setRoom cX9_setRoom 3 (some .int) ∈ ax_WS := ax_wl wdl_10_ok 18 rfl
theorem wd_527 : Cond.methodLink RX9 166 yX0_changeRoom ∈ ax_WS := ax_wl wdl_10_ok 19 rfl
theorem wd_528 : Cond.instanceMethod yX0_changeRoom ∈ ax_WS := ax_wl wdl_10_ok 20 rfl
theorem wd_529 : Cond.selects RX0 yX0_changeRoom yX0_changeRoom ∈ ax_WS := ax_wl wdl_10_ok 21 rfl
theorem wd_530 : Cond.code yX0_changeRoom cX0_changeRoom 3 none ∈ ax_WS := ax_wl wdl_10_ok 22 rfl
theorem wd_531 : Cond.methodLink RL 75 yX9_isCached ∈ ax_WS := ax_wl wdl_10_ok 23 rfl
theorem wd_532 : Cond.instanceMethod yX9_isCached ∈ ax_WS := ax_wl wdl_10_ok 24 rfl
theorem wd_533 : Cond.selects RX9 yX9_isCached yX9_isCached ∈ ax_WS := ax_wl wdl_10_ok 25 rfl
theorem wd_534 : Cond.code yX9_isCached cX9_isCached 3 (some .int) ∈ ax_WS := ax_wl wdl_10_ok 26 rfl
theorem wd_535 : Cond.methodLink RL 79 yX9_count ∈ ax_WS := ax_wl wdl_10_ok 27 rfl
theorem wd_536 : Cond.instanceMethod yX9_count ∈ ax_WS := ax_wl wdl_10_ok 28 rfl
theorem wd_537 : Cond.selects RX9 yX9_count yX9_count ∈ ax_WS := ax_wl wdl_10_ok 29 rfl
theorem wd_538 : Cond.code yX9_count cX9_count 2 (some .int) ∈ ax_WS := ax_wl wdl_10_ok 30 rfl
theorem wd_539 : Cond.methodLink RL 83 yX9_append ∈ ax_WS := ax_wl wdl_10_ok 31 rfl
theorem wd_540 : Cond.instanceMethod yX9_append ∈ ax_WS := ax_wl wdl_10_ok 32 rfl
theorem wd_541 : Cond.selects RX9 yX9_append yX9_append ∈ ax_WS := ax_wl wdl_10_ok 33 rfl
theorem wd_542 : Cond.code yX9_append cX9_append 2 (some .int) ∈ ax_WS := ax_wl wdl_10_ok 34 rfl
theorem wd_543 : Cond.methodLink RX9 191 yX8_put ∈ ax_WS := ax_wl wdl_10_ok 35 rfl
theorem wd_544 : Cond.instanceMethod yX8_put ∈ ax_WS := ax_wl wdl_10_ok 36 rfl
theorem wd_545 : Cond.selects RX8 yX8_put yX8_put ∈ ax_WS := ax_wl wdl_10_ok 37 rfl
theorem wd_546 : Cond.code yX8_put cX8_put 2 (some .int) ∈ ax_WS := ax_wl wdl_10_ok 38 rfl
theorem wd_547 : Cond.methodLink RL 87 yX9_clearText ∈ ax_WS := ax_wl wdl_10_ok 39 rfl
def wdl_11 : List Cond := [Cond.instanceMethod yX9_clearText, Cond.selects RX9 yX9_clearText yX9_clearText, Cond.code yX9_clearText cX9_clearText 2 (some .int), Cond.methodLink RX9 199 yX8_empty, Cond.instanceMethod yX8_empty, Cond.selects RX8 yX8_empty yX8_empty, Cond.code yX8_empty cX8_empty 1 none, Cond.methodLink RL 91 yX9_faultPosition, Cond.instanceMethod yX9_faultPosition, Cond.selects RX9 yX9_faultPosition yX9_faultPosition, Cond.code yX9_faultPosition cX9_faultPosition 1 (some .int), Cond.methodLink RX9 200 yX6_read, Cond.instanceMethod yX6_read, Cond.selects RX6 yX6_read yX6_read, Cond.code yX6_read cX6_read 3 (some .int), Cond.methodLink RX6 43 yX6_expression, Cond.instanceMethod yX6_expression, Cond.code yX6_expression cX6_expression 4 (some .int), Cond.methodLink RX6 50 yX6_kindHere, Cond.instanceMethod yX6_kindHere, Cond.code yX6_kindHere cX6_kindHere 3 (some .int), Cond.methodLink RX6 65 yX8_at, Cond.instanceMethod yX8_at, Cond.selects RX8 yX8_at yX8_at, Cond.code yX8_at cX8_at 2 (some .int), Cond.methodLink RX6 70 yJ0_indexOf_0f7a4, Cond.instanceMethod yJ0_indexOf_0f7a4, Cond.selects RJ0 yJ0_indexOf_0f7a4 yJ0_indexOf_0f7a4, Cond.code yJ0_indexOf_0f7a4 cJ0_indexOf_0f7a4 2 (some .int), Cond.methodLink RJ0 633 yJ0_indexOf_7cf53, Cond.instanceMethod yJ0_indexOf_7cf53, Cond.selects RJ0 yJ0_indexOf_7cf53 yJ0_indexOf_7cf53, Cond.code yJ0_indexOf_7cf53 cJ0_indexOf_7cf53 3 (some .int), Cond.methodLink RJ0 492 yJ0_isLatin1_aae02, Cond.instanceMethod yJ0_isLatin1_aae02, Cond.selects RJ0 yJ0_isLatin1_aae02 yJ0_isLatin1_aae02, Cond.code yJ0_isLatin1_aae02 cJ0_isLatin1_aae02 1 (some .boolean), Cond.fieldLink RJ0 38 RJ0 "COMPACT_STRINGS" "Z", Cond.methodLink RJ0 505 yJ0_length_8abf5, Cond.instanceMethod yJ0_length_8abf5]
theorem wdl_11_ok : wdl_11.all goodWord = true ∧ [548, 549, 550, 551, 552, 553, 554, 555, 556, 557, 558, 559, 560, 561, 562, 563, 565, 566, 567, 569, 570, 571, 572, 573, 574, 577, 578, 579, 580, 581, 582, 583, 584, 585, 586, 587, 588, 589, 591, 592].map (fun i => lw_tbl[i]?) = wdl_11.map some := by decide +kernel
theorem wd_548 : Cond.instanceMethod yX9_clearText ∈ ax_WS := ax_wl wdl_11_ok 0 rfl
theorem wd_549 : Cond.selects RX9 yX9_clearText yX9_clearText ∈ ax_WS := ax_wl wdl_11_ok 1 rfl
theorem wd_550 : Cond.code yX9_clearText cX9_clearText 2 (some .int) ∈ ax_WS := ax_wl wdl_11_ok 2 rfl
theorem wd_551 : Cond.methodLink RX9 199 yX8_empty ∈ ax_WS := ax_wl wdl_11_ok 3 rfl
theorem wd_552 : Cond.instanceMethod yX8_empty ∈ ax_WS := ax_wl wdl_11_ok 4 rfl
theorem wd_553 : Cond.selects RX8 yX8_empty yX8_empty ∈ ax_WS := ax_wl wdl_11_ok 5 rfl
theorem wd_554 : Cond.code yX8_empty cX8_empty 1 none ∈ ax_WS := ax_wl wdl_11_ok 6 rfl
theorem wd_555 : Cond.methodLink RL 91 yX9_faultPosition ∈ ax_WS := ax_wl wdl_11_ok 7 rfl
theorem wd_556 : Cond.instanceMethod yX9_faultPosition ∈ ax_WS := ax_wl wdl_11_ok 8 rfl
theorem wd_557 : Cond.selects RX9 yX9_faultPosition yX9_faultPosition ∈ ax_WS := ax_wl wdl_11_ok 9 rfl
theorem wd_558 : Cond.code yX9_faultPosition cX9_faultPosition 1 (some .int) ∈ ax_WS := ax_wl wdl_11_ok 10 rfl
theorem wd_559 : Cond.methodLink RX9 200 yX6_read ∈ ax_WS := ax_wl wdl_11_ok 11 rfl
theorem wd_560 : Cond.instanceMethod yX6_read ∈ ax_WS := ax_wl wdl_11_ok 12 rfl
theorem wd_561 : Cond.selects RX6 yX6_read yX6_read ∈ ax_WS := ax_wl wdl_11_ok 13 rfl
theorem wd_562 : Cond.code yX6_read cX6_read 3 (some .int) ∈ ax_WS := ax_wl wdl_11_ok 14 rfl
theorem wd_563 : Cond.methodLink RX6 43 yX6_expression ∈ ax_WS := ax_wl wdl_11_ok 15 rfl
theorem wd_565 : Cond.instanceMethod yX6_expression ∈ ax_WS := ax_wl wdl_11_ok 16 rfl
theorem wd_566 : Cond.code yX6_expression cX6_expression 4 (some .int) ∈ ax_WS := ax_wl wdl_11_ok 17 rfl
theorem wd_567 : Cond.methodLink RX6 50 yX6_kindHere ∈ ax_WS := ax_wl wdl_11_ok 18 rfl
theorem wd_569 : Cond.instanceMethod yX6_kindHere ∈ ax_WS := ax_wl wdl_11_ok 19 rfl
theorem wd_570 : Cond.code yX6_kindHere cX6_kindHere 3 (some .int) ∈ ax_WS := ax_wl wdl_11_ok 20 rfl
theorem wd_571 : Cond.methodLink RX6 65 yX8_at ∈ ax_WS := ax_wl wdl_11_ok 21 rfl
theorem wd_572 : Cond.instanceMethod yX8_at ∈ ax_WS := ax_wl wdl_11_ok 22 rfl
theorem wd_573 : Cond.selects RX8 yX8_at yX8_at ∈ ax_WS := ax_wl wdl_11_ok 23 rfl
theorem wd_574 : Cond.code yX8_at cX8_at 2 (some .int) ∈ ax_WS := ax_wl wdl_11_ok 24 rfl
theorem wd_577 : Cond.methodLink RX6 70 yJ0_indexOf_0f7a4 ∈ ax_WS := ax_wl wdl_11_ok 25 rfl
theorem wd_578 : Cond.instanceMethod yJ0_indexOf_0f7a4 ∈ ax_WS := ax_wl wdl_11_ok 26 rfl
theorem wd_579 : Cond.selects RJ0 yJ0_indexOf_0f7a4 yJ0_indexOf_0f7a4 ∈ ax_WS := ax_wl wdl_11_ok 27 rfl
theorem wd_580 : Cond.code yJ0_indexOf_0f7a4 cJ0_indexOf_0f7a4 2 (some .int) ∈ ax_WS := ax_wl wdl_11_ok 28 rfl
theorem wd_581 : Cond.methodLink RJ0 633 yJ0_indexOf_7cf53 ∈ ax_WS := ax_wl wdl_11_ok 29 rfl
theorem wd_582 : Cond.instanceMethod yJ0_indexOf_7cf53 ∈ ax_WS := ax_wl wdl_11_ok 30 rfl
theorem wd_583 : Cond.selects RJ0 yJ0_indexOf_7cf53 yJ0_indexOf_7cf53 ∈ ax_WS := ax_wl wdl_11_ok 31 rfl
theorem wd_584 : Cond.code yJ0_indexOf_7cf53 cJ0_indexOf_7cf53 3 (some .int) ∈ ax_WS := ax_wl wdl_11_ok 32 rfl
theorem wd_585 : Cond.methodLink RJ0 492 yJ0_isLatin1_aae02 ∈ ax_WS := ax_wl wdl_11_ok 33 rfl
theorem wd_586 : Cond.instanceMethod yJ0_isLatin1_aae02 ∈ ax_WS := ax_wl wdl_11_ok 34 rfl
theorem wd_587 : Cond.selects RJ0 yJ0_isLatin1_aae02 yJ0_isLatin1_aae02 ∈ ax_WS := ax_wl wdl_11_ok 35 rfl
theorem wd_588 : Cond.code yJ0_isLatin1_aae02 cJ0_isLatin1_aae02 1 (some .boolean) ∈ ax_WS := ax_wl wdl_11_ok 36 rfl
theorem wd_589 : Cond.fieldLink RJ0 38 RJ0 "COMPACT_STRINGS" "Z" ∈ ax_WS := ax_wl wdl_11_ok 37 rfl
theorem wd_591 : Cond.methodLink RJ0 505 yJ0_length_8abf5 ∈ ax_WS := ax_wl wdl_11_ok 38 rfl
theorem wd_592 : Cond.instanceMethod yJ0_length_8abf5 ∈ ax_WS := ax_wl wdl_11_ok 39 rfl
def wdl_12 : List Cond := [Cond.selects RJ0 yJ0_length_8abf5 yJ0_length_8abf5, Cond.code yJ0_length_8abf5 cJ0_length_8abf5 1 (some .int), Cond.methodLink RJ0 335 yJ0_coder_7d493, Cond.instanceMethod yJ0_coder_7d493, Cond.selects RJ0 yJ0_coder_7d493 yJ0_coder_7d493, Cond.code yJ0_coder_7d493 cJ0_coder_7d493 1 (some .byte), Cond.methodLink RJ0 637 yJ1_indexOf_4cfef, Cond.static yJ1_indexOf_4cfef, Cond.code yJ1_indexOf_4cfef cJ1_indexOf_4cfef 4 (some .int), Cond.methodLink RJ1 88 yJ1_canEncode_9a6ad, Cond.static yJ1_canEncode_9a6ad, Cond.code yJ1_canEncode_9a6ad cJ1_canEncode_9a6ad 1 (some .boolean), Cond.methodLink RJ1 92 Lib.Math.max.name, Cond.methodLink RJ1 38 Lib.Math.min.name, Cond.methodLink RJ1 95 yJ1_indexOfChar_4cfef, Cond.static yJ1_indexOfChar_4cfef, Cond.code yJ1_indexOfChar_4cfef cJ1_indexOfChar_4cfef 6 (some .int), Cond.methodLink RX6 54 yX6_expect, Cond.instanceMethod yX6_expect, Cond.code yX6_expect cX6_expect 2 none, Cond.methodLink RX6 58 yX6_readNumber, Cond.instanceMethod yX6_readNumber, Cond.code yX6_readNumber cX6_readNumber 6 (some .int), Cond.methodLink RX6 105 yX6_readDigits, Cond.instanceMethod yX6_readDigits, Cond.code yX6_readDigits cX6_readDigits 5 (some .int), Cond.methodLink RX6 62 yX6_newNode, Cond.instanceMethod yX6_newNode, Cond.code yX6_newNode cX6_newNode 8 (some .int), Cond.methodLink RX6 75 yX2_inputs, Cond.methodLink RX6 80 yX6_nextExpression, Cond.instanceMethod yX6_nextExpression, Cond.code yX6_nextExpression cX6_nextExpression 2 (some .int), Cond.methodLink RX6 83 yX2_numbers, Cond.static yX2_numbers, Cond.code yX2_numbers cX2_numbers 1 (some .int), Cond.fieldLink RX2 22 RX2 "NUMBERS" "[I", Cond.methodLink RX6 85 yX2_lowest, Cond.methodLink RX6 88 yX2_highest, Cond.methodLink RX6 91 yX6_fill]
theorem wdl_12_ok : wdl_12.all goodWord = true ∧ [593, 594, 595, 596, 597, 598, 599, 600, 601, 602, 603, 604, 605, 606, 607, 608, 609, 659, 661, 662, 663, 665, 666, 667, 669, 670, 672, 674, 675, 676, 677, 679, 680, 681, 682, 683, 684, 686, 687, 688].map (fun i => lw_tbl[i]?) = wdl_12.map some := by decide +kernel
theorem wd_593 : Cond.selects RJ0 yJ0_length_8abf5 yJ0_length_8abf5 ∈ ax_WS := ax_wl wdl_12_ok 0 rfl
theorem wd_594 : Cond.code yJ0_length_8abf5 cJ0_length_8abf5 1 (some .int) ∈ ax_WS := ax_wl wdl_12_ok 1 rfl
theorem wd_595 : Cond.methodLink RJ0 335 yJ0_coder_7d493 ∈ ax_WS := ax_wl wdl_12_ok 2 rfl
theorem wd_596 : Cond.instanceMethod yJ0_coder_7d493 ∈ ax_WS := ax_wl wdl_12_ok 3 rfl
theorem wd_597 : Cond.selects RJ0 yJ0_coder_7d493 yJ0_coder_7d493 ∈ ax_WS := ax_wl wdl_12_ok 4 rfl
theorem wd_598 : Cond.code yJ0_coder_7d493 cJ0_coder_7d493 1 (some .byte) ∈ ax_WS := ax_wl wdl_12_ok 5 rfl
theorem wd_599 : Cond.methodLink RJ0 637 yJ1_indexOf_4cfef ∈ ax_WS := ax_wl wdl_12_ok 6 rfl
theorem wd_600 : Cond.static yJ1_indexOf_4cfef ∈ ax_WS := ax_wl wdl_12_ok 7 rfl
theorem wd_601 : Cond.code yJ1_indexOf_4cfef cJ1_indexOf_4cfef 4 (some .int) ∈ ax_WS := ax_wl wdl_12_ok 8 rfl
theorem wd_602 : Cond.methodLink RJ1 88 yJ1_canEncode_9a6ad ∈ ax_WS := ax_wl wdl_12_ok 9 rfl
theorem wd_603 : Cond.static yJ1_canEncode_9a6ad ∈ ax_WS := ax_wl wdl_12_ok 10 rfl
theorem wd_604 : Cond.code yJ1_canEncode_9a6ad cJ1_canEncode_9a6ad 1 (some .boolean) ∈ ax_WS := ax_wl wdl_12_ok 11 rfl
theorem wd_605 : Cond.methodLink RJ1 92 Lib.Math.max.name ∈ ax_WS := ax_wl wdl_12_ok 12 rfl
theorem wd_606 : Cond.methodLink RJ1 38 Lib.Math.min.name ∈ ax_WS := ax_wl wdl_12_ok 13 rfl
theorem wd_607 : Cond.methodLink RJ1 95 yJ1_indexOfChar_4cfef ∈ ax_WS := ax_wl wdl_12_ok 14 rfl
theorem wd_608 : Cond.static yJ1_indexOfChar_4cfef ∈ ax_WS := ax_wl wdl_12_ok 15 rfl
theorem wd_609 : Cond.code yJ1_indexOfChar_4cfef cJ1_indexOfChar_4cfef 6 (some .int) ∈ ax_WS := ax_wl wdl_12_ok 16 rfl
theorem wd_659 : Cond.methodLink RX6 54 yX6_expect ∈ ax_WS := ax_wl wdl_12_ok 17 rfl
theorem wd_661 : Cond.instanceMethod yX6_expect ∈ ax_WS := ax_wl wdl_12_ok 18 rfl
theorem wd_662 : Cond.code yX6_expect cX6_expect 2 none ∈ ax_WS := ax_wl wdl_12_ok 19 rfl
theorem wd_663 : Cond.methodLink RX6 58 yX6_readNumber ∈ ax_WS := ax_wl wdl_12_ok 20 rfl
theorem wd_665 : Cond.instanceMethod yX6_readNumber ∈ ax_WS := ax_wl wdl_12_ok 21 rfl
theorem wd_666 : Cond.code yX6_readNumber cX6_readNumber 6 (some .int) ∈ ax_WS := ax_wl wdl_12_ok 22 rfl
theorem wd_667 : Cond.methodLink RX6 105 yX6_readDigits ∈ ax_WS := ax_wl wdl_12_ok 23 rfl
theorem wd_669 : Cond.instanceMethod yX6_readDigits ∈ ax_WS := ax_wl wdl_12_ok 24 rfl
theorem wd_670 : Cond.code yX6_readDigits cX6_readDigits 5 (some .int) ∈ ax_WS := ax_wl wdl_12_ok 25 rfl
theorem wd_672 : Cond.methodLink RX6 62 yX6_newNode ∈ ax_WS := ax_wl wdl_12_ok 26 rfl
theorem wd_674 : Cond.instanceMethod yX6_newNode ∈ ax_WS := ax_wl wdl_12_ok 27 rfl
theorem wd_675 : Cond.code yX6_newNode cX6_newNode 8 (some .int) ∈ ax_WS := ax_wl wdl_12_ok 28 rfl
theorem wd_676 : Cond.methodLink RX6 75 yX2_inputs ∈ ax_WS := ax_wl wdl_12_ok 29 rfl
theorem wd_677 : Cond.methodLink RX6 80 yX6_nextExpression ∈ ax_WS := ax_wl wdl_12_ok 30 rfl
theorem wd_679 : Cond.instanceMethod yX6_nextExpression ∈ ax_WS := ax_wl wdl_12_ok 31 rfl
theorem wd_680 : Cond.code yX6_nextExpression cX6_nextExpression 2 (some .int) ∈ ax_WS := ax_wl wdl_12_ok 32 rfl
theorem wd_681 : Cond.methodLink RX6 83 yX2_numbers ∈ ax_WS := ax_wl wdl_12_ok 33 rfl
theorem wd_682 : Cond.static yX2_numbers ∈ ax_WS := ax_wl wdl_12_ok 34 rfl
theorem wd_683 : Cond.code yX2_numbers cX2_numbers 1 (some .int) ∈ ax_WS := ax_wl wdl_12_ok 35 rfl
theorem wd_684 : Cond.fieldLink RX2 22 RX2 "NUMBERS" "[I" ∈ ax_WS := ax_wl wdl_12_ok 36 rfl
theorem wd_686 : Cond.methodLink RX6 85 yX2_lowest ∈ ax_WS := ax_wl wdl_12_ok 37 rfl
theorem wd_687 : Cond.methodLink RX6 88 yX2_highest ∈ ax_WS := ax_wl wdl_12_ok 38 rfl
theorem wd_688 : Cond.methodLink RX6 91 yX6_fill ∈ ax_WS := ax_wl wdl_12_ok 39 rfl
def wdl_13 : List Cond := [Cond.instanceMethod yX6_fill, Cond.code yX6_fill cX6_fill 8 none, Cond.methodLink RX6 95 yX3_reset, Cond.methodLink RX6 100 yX2_parameters, Cond.methodLink RL 95 yX9_faultDepth, Cond.instanceMethod yX9_faultDepth, Cond.selects RX9 yX9_faultDepth yX9_faultDepth, Cond.code yX9_faultDepth cX9_faultDepth 1 (some .int), Cond.methodLink RX9 210 yX8_openAhead, Cond.instanceMethod yX8_openAhead, Cond.selects RX8 yX8_openAhead yX8_openAhead, Cond.code yX8_openAhead cX8_openAhead 4 (some .int), Cond.methodLink RX8 23 yX8_at, Cond.methodLink RL 99 yX9_build, Cond.instanceMethod yX9_build, Cond.selects RX9 yX9_build yX9_build, Cond.code yX9_build cX9_build 2 (some .int), Cond.methodLink RX9 219 yX1_addAll, Cond.instanceMethod yX1_addAll, Cond.selects RX1 yX1_addAll yX1_addAll, Cond.code yX1_addAll cX1_addAll 4 none, Cond.methodLink RX1 69 yX3_copyFrom, Cond.instanceMethod yX3_copyFrom, Cond.selects RX3 yX3_copyFrom yX3_copyFrom, Cond.code yX3_copyFrom cX3_copyFrom 2 none, Cond.methodLink RX3 34 arraycopyName, Cond.methodLink RL 103 yX9_save, Cond.instanceMethod yX9_save, Cond.selects RX9 yX9_save yX9_save, Cond.code yX9_save cX9_save 2 (some .int), Cond.methodLink RX9 223 yX1_copyFrom, Cond.instanceMethod yX1_copyFrom, Cond.selects RX1 yX1_copyFrom yX1_copyFrom, Cond.code yX1_copyFrom cX1_copyFrom 2 none, Cond.methodLink RX1 65 yX1_addAll, Cond.methodLink RL 107 yX9_restore, Cond.instanceMethod yX9_restore, Cond.selects RX9 yX9_restore yX9_restore, Cond.code yX9_restore cX9_restore 2 (some .int), Cond.methodLink RL 111 yX9_checksum]
theorem wdl_13_ok : wdl_13.all goodWord = true ∧ [690, 691, 692, 693, 694, 695, 696, 697, 698, 699, 700, 701, 702, 703, 704, 705, 706, 707, 708, 709, 710, 711, 712, 713, 714, 715, 716, 717, 718, 719, 720, 721, 722, 723, 724, 725, 726, 727, 728, 729].map (fun i => lw_tbl[i]?) = wdl_13.map some := by decide +kernel
theorem wd_690 : Cond.instanceMethod yX6_fill ∈ ax_WS := ax_wl wdl_13_ok 0 rfl
theorem wd_691 : Cond.code yX6_fill cX6_fill 8 none ∈ ax_WS := ax_wl wdl_13_ok 1 rfl
theorem wd_692 : Cond.methodLink RX6 95 yX3_reset ∈ ax_WS := ax_wl wdl_13_ok 2 rfl
theorem wd_693 : Cond.methodLink RX6 100 yX2_parameters ∈ ax_WS := ax_wl wdl_13_ok 3 rfl
theorem wd_694 : Cond.methodLink RL 95 yX9_faultDepth ∈ ax_WS := ax_wl wdl_13_ok 4 rfl
theorem wd_695 : Cond.instanceMethod yX9_faultDepth ∈ ax_WS := ax_wl wdl_13_ok 5 rfl
theorem wd_696 : Cond.selects RX9 yX9_faultDepth yX9_faultDepth ∈ ax_WS := ax_wl wdl_13_ok 6 rfl
theorem wd_697 : Cond.code yX9_faultDepth cX9_faultDepth 1 (some .int) ∈ ax_WS := ax_wl wdl_13_ok 7 rfl
theorem wd_698 : Cond.methodLink RX9 210 yX8_openAhead ∈ ax_WS := ax_wl wdl_13_ok 8 rfl
theorem wd_699 : Cond.instanceMethod yX8_openAhead ∈ ax_WS := ax_wl wdl_13_ok 9 rfl
theorem wd_700 : Cond.selects RX8 yX8_openAhead yX8_openAhead ∈ ax_WS := ax_wl wdl_13_ok 10 rfl
theorem wd_701 : Cond.code yX8_openAhead cX8_openAhead 4 (some .int) ∈ ax_WS := ax_wl wdl_13_ok 11 rfl
theorem wd_702 : Cond.methodLink RX8 23 yX8_at ∈ ax_WS := ax_wl wdl_13_ok 12 rfl
theorem wd_703 : Cond.methodLink RL 99 yX9_build ∈ ax_WS := ax_wl wdl_13_ok 13 rfl
theorem wd_704 : Cond.instanceMethod yX9_build ∈ ax_WS := ax_wl wdl_13_ok 14 rfl
theorem wd_705 : Cond.selects RX9 yX9_build yX9_build ∈ ax_WS := ax_wl wdl_13_ok 15 rfl
theorem wd_706 : Cond.code yX9_build cX9_build 2 (some .int) ∈ ax_WS := ax_wl wdl_13_ok 16 rfl
theorem wd_707 : Cond.methodLink RX9 219 yX1_addAll ∈ ax_WS := ax_wl wdl_13_ok 17 rfl
theorem wd_708 : Cond.instanceMethod yX1_addAll ∈ ax_WS := ax_wl wdl_13_ok 18 rfl
theorem wd_709 : Cond.selects RX1 yX1_addAll yX1_addAll ∈ ax_WS := ax_wl wdl_13_ok 19 rfl
theorem wd_710 : Cond.code yX1_addAll cX1_addAll 4 none ∈ ax_WS := ax_wl wdl_13_ok 20 rfl
theorem wd_711 : Cond.methodLink RX1 69 yX3_copyFrom ∈ ax_WS := ax_wl wdl_13_ok 21 rfl
theorem wd_712 : Cond.instanceMethod yX3_copyFrom ∈ ax_WS := ax_wl wdl_13_ok 22 rfl
theorem wd_713 : Cond.selects RX3 yX3_copyFrom yX3_copyFrom ∈ ax_WS := ax_wl wdl_13_ok 23 rfl
theorem wd_714 : Cond.code yX3_copyFrom cX3_copyFrom 2 none ∈ ax_WS := ax_wl wdl_13_ok 24 rfl
theorem wd_715 : Cond.methodLink RX3 34 arraycopyName ∈ ax_WS := ax_wl wdl_13_ok 25 rfl
theorem wd_716 : Cond.methodLink RL 103 yX9_save ∈ ax_WS := ax_wl wdl_13_ok 26 rfl
theorem wd_717 : Cond.instanceMethod yX9_save ∈ ax_WS := ax_wl wdl_13_ok 27 rfl
theorem wd_718 : Cond.selects RX9 yX9_save yX9_save ∈ ax_WS := ax_wl wdl_13_ok 28 rfl
theorem wd_719 : Cond.code yX9_save cX9_save 2 (some .int) ∈ ax_WS := ax_wl wdl_13_ok 29 rfl
theorem wd_720 : Cond.methodLink RX9 223 yX1_copyFrom ∈ ax_WS := ax_wl wdl_13_ok 30 rfl
theorem wd_721 : Cond.instanceMethod yX1_copyFrom ∈ ax_WS := ax_wl wdl_13_ok 31 rfl
theorem wd_722 : Cond.selects RX1 yX1_copyFrom yX1_copyFrom ∈ ax_WS := ax_wl wdl_13_ok 32 rfl
theorem wd_723 : Cond.code yX1_copyFrom cX1_copyFrom 2 none ∈ ax_WS := ax_wl wdl_13_ok 33 rfl
theorem wd_724 : Cond.methodLink RX1 65 yX1_addAll ∈ ax_WS := ax_wl wdl_13_ok 34 rfl
theorem wd_725 : Cond.methodLink RL 107 yX9_restore ∈ ax_WS := ax_wl wdl_13_ok 35 rfl
theorem wd_726 : Cond.instanceMethod yX9_restore ∈ ax_WS := ax_wl wdl_13_ok 36 rfl
theorem wd_727 : Cond.selects RX9 yX9_restore yX9_restore ∈ ax_WS := ax_wl wdl_13_ok 37 rfl
theorem wd_728 : Cond.code yX9_restore cX9_restore 2 (some .int) ∈ ax_WS := ax_wl wdl_13_ok 38 rfl
theorem wd_729 : Cond.methodLink RL 111 yX9_checksum ∈ ax_WS := ax_wl wdl_13_ok 39 rfl
def wdl_14 : List Cond := [Cond.instanceMethod yX9_checksum, Cond.selects RX9 yX9_checksum yX9_checksum, Cond.code yX9_checksum cX9_checksum 5 (some .long), Cond.constantLong RX9 227 (127), Cond.methodLink RX9 229 yX9_nodes, Cond.methodLink RX9 232 yX9_mix, Cond.static yX9_mix, Cond.code yX9_mix cX9_mix 3 (some .long), Cond.constantLong RX9 258 (31), Cond.methodLink RX9 236 yX9_mixNode, Cond.instanceMethod yX9_mixNode, Cond.code yX9_mixNode cX9_mixNode 8 (some .long), Cond.methodLink RX9 245 yX9_node, Cond.methodLink RX9 248 yX2_inputs, Cond.methodLink RX9 250 yX9_input, Cond.methodLink RX9 253 yX2_parameters, Cond.methodLink RX9 255 yX9_parameter, Cond.methodLink RX9 239 yX9_count, Cond.methodLink RX9 242 yX9_isCached, Cond.classLink RL 10 RX10, Cond.instantiable RX10 28, Cond.methodLink RL 12 yX10_init, Cond.instanceMethod yX10_init, Cond.code yX10_init cX10_init 1 none, Cond.methodLink RX10 1 Lib.objectInit, Cond.fieldLink RX10 7 RX10 "v" "[I", Cond.fieldLink RX10 13 RX10 "kept" "[I", Cond.fieldLink RX10 16 RX10 "isKept" "[Z", Cond.fieldLink RX10 20 RX10 "room" "I", Cond.fieldLink RX10 85 RX10 "cached" "I", Cond.fieldLink RX10 24 RX10 "cacheNode" "[I", Cond.fieldLink RX10 27 RX10 "cacheFrame" "[I", Cond.fieldLink RX10 30 RX10 "cacheUse" "[I", Cond.fieldLink RX10 33 RX10 "pictures" "[I", Cond.fieldLink RX10 133 RX10 "uses" "I", Cond.fieldLink RX10 36 RX10 "counts" "[I", Cond.fieldLink RX10 39 RX10 "text" "[I", Cond.fieldLink RX10 190 RX10 "length" "I", Cond.fieldLink RX10 42 RX10 "inputMany" "[I", Cond.fieldLink RX10 45 RX10 "parameterMany" "[I"]
theorem wdl_14_ok : wdl_14.all goodWord = true ∧ [730, 731, 732, 733, 734, 735, 736, 737, 738, 739, 741, 742, 743, 744, 745, 746, 747, 748, 749, 750, 751, 752, 753, 754, 755, 756, 757, 758, 759, 760, 761, 762, 763, 764, 765, 766, 767, 768, 769, 770].map (fun i => lw_tbl[i]?) = wdl_14.map some := by decide +kernel
theorem wd_730 : Cond.instanceMethod yX9_checksum ∈ ax_WS := ax_wl wdl_14_ok 0 rfl
theorem wd_731 : Cond.selects RX9 yX9_checksum yX9_checksum ∈ ax_WS := ax_wl wdl_14_ok 1 rfl
theorem wd_732 : Cond.code yX9_checksum cX9_checksum 5 (some .long) ∈ ax_WS := ax_wl wdl_14_ok 2 rfl
theorem wd_733 : Cond.constantLong RX9 227 (127) ∈ ax_WS := ax_wl wdl_14_ok 3 rfl
theorem wd_734 : Cond.methodLink RX9 229 yX9_nodes ∈ ax_WS := ax_wl wdl_14_ok 4 rfl
theorem wd_735 : Cond.methodLink RX9 232 yX9_mix ∈ ax_WS := ax_wl wdl_14_ok 5 rfl
theorem wd_736 : Cond.static yX9_mix ∈ ax_WS := ax_wl wdl_14_ok 6 rfl
theorem wd_737 : Cond.code yX9_mix cX9_mix 3 (some .long) ∈ ax_WS := ax_wl wdl_14_ok 7 rfl
theorem wd_738 : Cond.constantLong RX9 258 (31) ∈ ax_WS := ax_wl wdl_14_ok 8 rfl
theorem wd_739 : Cond.methodLink RX9 236 yX9_mixNode ∈ ax_WS := ax_wl wdl_14_ok 9 rfl
theorem wd_741 : Cond.instanceMethod yX9_mixNode ∈ ax_WS := ax_wl wdl_14_ok 10 rfl
theorem wd_742 : Cond.code yX9_mixNode cX9_mixNode 8 (some .long) ∈ ax_WS := ax_wl wdl_14_ok 11 rfl
theorem wd_743 : Cond.methodLink RX9 245 yX9_node ∈ ax_WS := ax_wl wdl_14_ok 12 rfl
theorem wd_744 : Cond.methodLink RX9 248 yX2_inputs ∈ ax_WS := ax_wl wdl_14_ok 13 rfl
theorem wd_745 : Cond.methodLink RX9 250 yX9_input ∈ ax_WS := ax_wl wdl_14_ok 14 rfl
theorem wd_746 : Cond.methodLink RX9 253 yX2_parameters ∈ ax_WS := ax_wl wdl_14_ok 15 rfl
theorem wd_747 : Cond.methodLink RX9 255 yX9_parameter ∈ ax_WS := ax_wl wdl_14_ok 16 rfl
theorem wd_748 : Cond.methodLink RX9 239 yX9_count ∈ ax_WS := ax_wl wdl_14_ok 17 rfl
theorem wd_749 : Cond.methodLink RX9 242 yX9_isCached ∈ ax_WS := ax_wl wdl_14_ok 18 rfl
theorem wd_750 : Cond.classLink RL 10 RX10 ∈ ax_WS := ax_wl wdl_14_ok 19 rfl
theorem wd_751 : Cond.instantiable RX10 28 ∈ ax_WS := ax_wl wdl_14_ok 20 rfl
theorem wd_752 : Cond.methodLink RL 12 yX10_init ∈ ax_WS := ax_wl wdl_14_ok 21 rfl
theorem wd_753 : Cond.instanceMethod yX10_init ∈ ax_WS := ax_wl wdl_14_ok 22 rfl
theorem wd_754 : Cond.code yX10_init cX10_init 1 none ∈ ax_WS := ax_wl wdl_14_ok 23 rfl
theorem wd_755 : Cond.methodLink RX10 1 Lib.objectInit ∈ ax_WS := ax_wl wdl_14_ok 24 rfl
theorem wd_756 : Cond.fieldLink RX10 7 RX10 "v" "[I" ∈ ax_WS := ax_wl wdl_14_ok 25 rfl
theorem wd_757 : Cond.fieldLink RX10 13 RX10 "kept" "[I" ∈ ax_WS := ax_wl wdl_14_ok 26 rfl
theorem wd_758 : Cond.fieldLink RX10 16 RX10 "isKept" "[Z" ∈ ax_WS := ax_wl wdl_14_ok 27 rfl
theorem wd_759 : Cond.fieldLink RX10 20 RX10 "room" "I" ∈ ax_WS := ax_wl wdl_14_ok 28 rfl
theorem wd_760 : Cond.fieldLink RX10 85 RX10 "cached" "I" ∈ ax_WS := ax_wl wdl_14_ok 29 rfl
theorem wd_761 : Cond.fieldLink RX10 24 RX10 "cacheNode" "[I" ∈ ax_WS := ax_wl wdl_14_ok 30 rfl
theorem wd_762 : Cond.fieldLink RX10 27 RX10 "cacheFrame" "[I" ∈ ax_WS := ax_wl wdl_14_ok 31 rfl
theorem wd_763 : Cond.fieldLink RX10 30 RX10 "cacheUse" "[I" ∈ ax_WS := ax_wl wdl_14_ok 32 rfl
theorem wd_764 : Cond.fieldLink RX10 33 RX10 "pictures" "[I" ∈ ax_WS := ax_wl wdl_14_ok 33 rfl
theorem wd_765 : Cond.fieldLink RX10 133 RX10 "uses" "I" ∈ ax_WS := ax_wl wdl_14_ok 34 rfl
theorem wd_766 : Cond.fieldLink RX10 36 RX10 "counts" "[I" ∈ ax_WS := ax_wl wdl_14_ok 35 rfl
theorem wd_767 : Cond.fieldLink RX10 39 RX10 "text" "[I" ∈ ax_WS := ax_wl wdl_14_ok 36 rfl
theorem wd_768 : Cond.fieldLink RX10 190 RX10 "length" "I" ∈ ax_WS := ax_wl wdl_14_ok 37 rfl
theorem wd_769 : Cond.fieldLink RX10 42 RX10 "inputMany" "[I" ∈ ax_WS := ax_wl wdl_14_ok 38 rfl
theorem wd_770 : Cond.fieldLink RX10 45 RX10 "parameterMany" "[I" ∈ ax_WS := ax_wl wdl_14_ok 39 rfl
def wdl_15 : List Cond := [Cond.fieldLink RX10 48 RX10 "depths" "[I", Cond.fieldLink RX10 51 RX10 "waits" "[I", Cond.fieldLink RX10 54 RX10 "asked" "[I", Cond.fieldLink RX10 145 RX10 "waiting" "I", Cond.fieldLink RX10 193 RX10 "place" "I", Cond.fieldLink RX10 223 RX10 "depth" "I", Cond.fieldLink RX10 203 RX10 "number" "I", Cond.fieldLink RX10 57 RX10 "open" "[I", Cond.fieldLink RX10 60 RX10 "openMany" "[I", Cond.fieldLink RX10 63 RX10 "told" "[I", Cond.fieldLink RX10 206 RX10 "tellings" "I", Cond.fieldLink RX10 66 RX10 "done" "[I", Cond.fieldLink RX10 209 RX10 "dones" "I", Cond.methodLink RL 17 yX10_clear, Cond.instanceMethod yX10_clear, Cond.selects RX10 yX10_clear yX10_clear, Cond.code yX10_clear cX10_clear 2 (some .int), Cond.methodLink RL 22 yX10_addNode, Cond.instanceMethod yX10_addNode, Cond.selects RX10 yX10_addNode yX10_addNode, Cond.code yX10_addNode cX10_addNode 2 (some .int), Cond.methodLink RX10 69 yX10_in, Cond.static yX10_in, Cond.code yX10_in cX10_in 3 (some .boolean), Cond.methodLink RX10 91 yX10_adds, Cond.instanceMethod yX10_adds, Cond.code yX10_adds cX10_adds 4 (some .int), Cond.methodLink RX10 73 yX10_at, Cond.static yX10_at, Cond.code yX10_at cX10_at 2 (some .int), Cond.methodLink RX10 88 yX10_first, Cond.static yX10_first, Cond.code yX10_first cX10_first 2 (some .int), Cond.methodLink RL 27 yX10_connect, Cond.instanceMethod yX10_connect, Cond.selects RX10 yX10_connect yX10_connect, Cond.code yX10_connect cX10_connect 4 (some .int), Cond.methodLink RX10 101 yX10_isInput, Cond.instanceMethod yX10_isInput, Cond.code yX10_isInput cX10_isInput 3 (some .boolean)]
theorem wdl_15_ok : wdl_15.all goodWord = true ∧ [771, 772, 773, 774, 775, 776, 777, 778, 779, 780, 781, 782, 783, 841, 842, 843, 844, 845, 846, 847, 848, 849, 850, 851, 852, 854, 855, 856, 857, 858, 859, 860, 861, 862, 863, 864, 865, 866, 868, 869].map (fun i => lw_tbl[i]?) = wdl_15.map some := by decide +kernel
theorem wd_771 : Cond.fieldLink RX10 48 RX10 "depths" "[I" ∈ ax_WS := ax_wl wdl_15_ok 0 rfl
theorem wd_772 : Cond.fieldLink RX10 51 RX10 "waits" "[I" ∈ ax_WS := ax_wl wdl_15_ok 1 rfl
theorem wd_773 : Cond.fieldLink RX10 54 RX10 "asked" "[I" ∈ ax_WS := ax_wl wdl_15_ok 2 rfl
theorem wd_774 : Cond.fieldLink RX10 145 RX10 "waiting" "I" ∈ ax_WS := ax_wl wdl_15_ok 3 rfl
theorem wd_775 : Cond.fieldLink RX10 193 RX10 "place" "I" ∈ ax_WS := ax_wl wdl_15_ok 4 rfl
theorem wd_776 : Cond.fieldLink RX10 223 RX10 "depth" "I" ∈ ax_WS := ax_wl wdl_15_ok 5 rfl
theorem wd_777 : Cond.fieldLink RX10 203 RX10 "number" "I" ∈ ax_WS := ax_wl wdl_15_ok 6 rfl
theorem wd_778 : Cond.fieldLink RX10 57 RX10 "open" "[I" ∈ ax_WS := ax_wl wdl_15_ok 7 rfl
theorem wd_779 : Cond.fieldLink RX10 60 RX10 "openMany" "[I" ∈ ax_WS := ax_wl wdl_15_ok 8 rfl
theorem wd_780 : Cond.fieldLink RX10 63 RX10 "told" "[I" ∈ ax_WS := ax_wl wdl_15_ok 9 rfl
theorem wd_781 : Cond.fieldLink RX10 206 RX10 "tellings" "I" ∈ ax_WS := ax_wl wdl_15_ok 10 rfl
theorem wd_782 : Cond.fieldLink RX10 66 RX10 "done" "[I" ∈ ax_WS := ax_wl wdl_15_ok 11 rfl
theorem wd_783 : Cond.fieldLink RX10 209 RX10 "dones" "I" ∈ ax_WS := ax_wl wdl_15_ok 12 rfl
theorem wd_841 : Cond.methodLink RL 17 yX10_clear ∈ ax_WS := ax_wl wdl_15_ok 13 rfl
theorem wd_842 : Cond.instanceMethod yX10_clear ∈ ax_WS := ax_wl wdl_15_ok 14 rfl
theorem wd_843 : Cond.selects RX10 yX10_clear yX10_clear ∈ ax_WS := ax_wl wdl_15_ok 15 rfl
theorem wd_844 : Cond.code yX10_clear cX10_clear 2 (some .int) ∈ ax_WS := ax_wl wdl_15_ok 16 rfl
theorem wd_845 : Cond.methodLink RL 22 yX10_addNode ∈ ax_WS := ax_wl wdl_15_ok 17 rfl
theorem wd_846 : Cond.instanceMethod yX10_addNode ∈ ax_WS := ax_wl wdl_15_ok 18 rfl
theorem wd_847 : Cond.selects RX10 yX10_addNode yX10_addNode ∈ ax_WS := ax_wl wdl_15_ok 19 rfl
theorem wd_848 : Cond.code yX10_addNode cX10_addNode 2 (some .int) ∈ ax_WS := ax_wl wdl_15_ok 20 rfl
theorem wd_849 : Cond.methodLink RX10 69 yX10_in ∈ ax_WS := ax_wl wdl_15_ok 21 rfl
theorem wd_850 : Cond.static yX10_in ∈ ax_WS := ax_wl wdl_15_ok 22 rfl
theorem wd_851 : Cond.code yX10_in cX10_in 3 (some .boolean) ∈ ax_WS := ax_wl wdl_15_ok 23 rfl
theorem wd_852 : Cond.methodLink RX10 91 yX10_adds ∈ ax_WS := ax_wl wdl_15_ok 24 rfl
theorem wd_854 : Cond.instanceMethod yX10_adds ∈ ax_WS := ax_wl wdl_15_ok 25 rfl
theorem wd_855 : Cond.code yX10_adds cX10_adds 4 (some .int) ∈ ax_WS := ax_wl wdl_15_ok 26 rfl
theorem wd_856 : Cond.methodLink RX10 73 yX10_at ∈ ax_WS := ax_wl wdl_15_ok 27 rfl
theorem wd_857 : Cond.static yX10_at ∈ ax_WS := ax_wl wdl_15_ok 28 rfl
theorem wd_858 : Cond.code yX10_at cX10_at 2 (some .int) ∈ ax_WS := ax_wl wdl_15_ok 29 rfl
theorem wd_859 : Cond.methodLink RX10 88 yX10_first ∈ ax_WS := ax_wl wdl_15_ok 30 rfl
theorem wd_860 : Cond.static yX10_first ∈ ax_WS := ax_wl wdl_15_ok 31 rfl
theorem wd_861 : Cond.code yX10_first cX10_first 2 (some .int) ∈ ax_WS := ax_wl wdl_15_ok 32 rfl
theorem wd_862 : Cond.methodLink RL 27 yX10_connect ∈ ax_WS := ax_wl wdl_15_ok 33 rfl
theorem wd_863 : Cond.instanceMethod yX10_connect ∈ ax_WS := ax_wl wdl_15_ok 34 rfl
theorem wd_864 : Cond.selects RX10 yX10_connect yX10_connect ∈ ax_WS := ax_wl wdl_15_ok 35 rfl
theorem wd_865 : Cond.code yX10_connect cX10_connect 4 (some .int) ∈ ax_WS := ax_wl wdl_15_ok 36 rfl
theorem wd_866 : Cond.methodLink RX10 101 yX10_isInput ∈ ax_WS := ax_wl wdl_15_ok 37 rfl
theorem wd_868 : Cond.instanceMethod yX10_isInput ∈ ax_WS := ax_wl wdl_15_ok 38 rfl
theorem wd_869 : Cond.code yX10_isInput cX10_isInput 3 (some .boolean) ∈ ax_WS := ax_wl wdl_15_ok 39 rfl
def wdl_16 : List Cond := [Cond.methodLink RX10 77 yX10_isNode, Cond.instanceMethod yX10_isNode, Cond.code yX10_isNode cX10_isNode 2 (some .boolean), Cond.methodLink RX10 81 yX10_kind, Cond.instanceMethod yX10_kind, Cond.code yX10_kind cX10_kind 2 (some .int), Cond.methodLink RX10 94 yX10_dependents, Cond.instanceMethod yX10_dependents, Cond.code yX10_dependents cX10_dependents 7 (some .int), Cond.methodLink RX10 105 yX10_voids, Cond.instanceMethod yX10_voids, Cond.code yX10_voids cX10_voids 10 (some .int), Cond.methodLink RX10 97 yX10_drops, Cond.instanceMethod yX10_drops, Cond.code yX10_drops cX10_drops 3 none, Cond.methodLink RL 31 yX10_set, Cond.instanceMethod yX10_set, Cond.selects RX10 yX10_set yX10_set, Cond.code yX10_set cX10_set 4 (some .int), Cond.methodLink RX10 109 yX10_isParameter, Cond.instanceMethod yX10_isParameter, Cond.code yX10_isParameter cX10_isParameter 3 (some .boolean), Cond.methodLink RX10 112 yX10_low, Cond.static yX10_low, Cond.code yX10_low cX10_low 1 (some .int), Cond.methodLink RX10 115 yX10_high, Cond.static yX10_high, Cond.code yX10_high cX10_high 2 (some .int), Cond.methodLink RL 35 yX10_setRange, Cond.instanceMethod yX10_setRange, Cond.selects RX10 yX10_setRange yX10_setRange, Cond.code yX10_setRange cX10_setRange 6 (some .int), Cond.methodLink RL 39 yX10_nodes, Cond.instanceMethod yX10_nodes, Cond.selects RX10 yX10_nodes yX10_nodes, Cond.code yX10_nodes cX10_nodes 1 (some .int), Cond.methodLink RL 44 yX10_node, Cond.instanceMethod yX10_node, Cond.selects RX10 yX10_node yX10_node, Cond.code yX10_node cX10_node 3 (some .int)]
theorem wdl_16_ok : wdl_16.all goodWord = true ∧ [870, 872, 873, 874, 876, 877, 878, 880, 881, 882, 884, 885, 886, 888, 889, 890, 891, 892, 893, 894, 896, 897, 898, 899, 900, 901, 902, 903, 904, 905, 906, 907, 908, 909, 910, 911, 912, 913, 914, 915].map (fun i => lw_tbl[i]?) = wdl_16.map some := by decide +kernel
theorem wd_870 : Cond.methodLink RX10 77 yX10_isNode ∈ ax_WS := ax_wl wdl_16_ok 0 rfl
theorem wd_872 : Cond.instanceMethod yX10_isNode ∈ ax_WS := ax_wl wdl_16_ok 1 rfl
theorem wd_873 : Cond.code yX10_isNode cX10_isNode 2 (some .boolean) ∈ ax_WS := ax_wl wdl_16_ok 2 rfl
theorem wd_874 : Cond.methodLink RX10 81 yX10_kind ∈ ax_WS := ax_wl wdl_16_ok 3 rfl
theorem wd_876 : Cond.instanceMethod yX10_kind ∈ ax_WS := ax_wl wdl_16_ok 4 rfl
theorem wd_877 : Cond.code yX10_kind cX10_kind 2 (some .int) ∈ ax_WS := ax_wl wdl_16_ok 5 rfl
theorem wd_878 : Cond.methodLink RX10 94 yX10_dependents ∈ ax_WS := ax_wl wdl_16_ok 6 rfl
theorem wd_880 : Cond.instanceMethod yX10_dependents ∈ ax_WS := ax_wl wdl_16_ok 7 rfl
theorem wd_881 : Cond.code yX10_dependents cX10_dependents 7 (some .int) ∈ ax_WS := ax_wl wdl_16_ok 8 rfl
theorem wd_882 : Cond.methodLink RX10 105 yX10_voids ∈ ax_WS := ax_wl wdl_16_ok 9 rfl
theorem wd_884 : Cond.instanceMethod yX10_voids ∈ ax_WS := ax_wl wdl_16_ok 10 rfl
theorem wd_885 : Cond.code yX10_voids cX10_voids 10 (some .int) ∈ ax_WS := ax_wl wdl_16_ok 11 rfl
theorem wd_886 : Cond.methodLink RX10 97 yX10_drops ∈ ax_WS := ax_wl wdl_16_ok 12 rfl
theorem wd_888 : Cond.instanceMethod yX10_drops ∈ ax_WS := ax_wl wdl_16_ok 13 rfl
theorem wd_889 : Cond.code yX10_drops cX10_drops 3 none ∈ ax_WS := ax_wl wdl_16_ok 14 rfl
theorem wd_890 : Cond.methodLink RL 31 yX10_set ∈ ax_WS := ax_wl wdl_16_ok 15 rfl
theorem wd_891 : Cond.instanceMethod yX10_set ∈ ax_WS := ax_wl wdl_16_ok 16 rfl
theorem wd_892 : Cond.selects RX10 yX10_set yX10_set ∈ ax_WS := ax_wl wdl_16_ok 17 rfl
theorem wd_893 : Cond.code yX10_set cX10_set 4 (some .int) ∈ ax_WS := ax_wl wdl_16_ok 18 rfl
theorem wd_894 : Cond.methodLink RX10 109 yX10_isParameter ∈ ax_WS := ax_wl wdl_16_ok 19 rfl
theorem wd_896 : Cond.instanceMethod yX10_isParameter ∈ ax_WS := ax_wl wdl_16_ok 20 rfl
theorem wd_897 : Cond.code yX10_isParameter cX10_isParameter 3 (some .boolean) ∈ ax_WS := ax_wl wdl_16_ok 21 rfl
theorem wd_898 : Cond.methodLink RX10 112 yX10_low ∈ ax_WS := ax_wl wdl_16_ok 22 rfl
theorem wd_899 : Cond.static yX10_low ∈ ax_WS := ax_wl wdl_16_ok 23 rfl
theorem wd_900 : Cond.code yX10_low cX10_low 1 (some .int) ∈ ax_WS := ax_wl wdl_16_ok 24 rfl
theorem wd_901 : Cond.methodLink RX10 115 yX10_high ∈ ax_WS := ax_wl wdl_16_ok 25 rfl
theorem wd_902 : Cond.static yX10_high ∈ ax_WS := ax_wl wdl_16_ok 26 rfl
theorem wd_903 : Cond.code yX10_high cX10_high 2 (some .int) ∈ ax_WS := ax_wl wdl_16_ok 27 rfl
theorem wd_904 : Cond.methodLink RL 35 yX10_setRange ∈ ax_WS := ax_wl wdl_16_ok 28 rfl
theorem wd_905 : Cond.instanceMethod yX10_setRange ∈ ax_WS := ax_wl wdl_16_ok 29 rfl
theorem wd_906 : Cond.selects RX10 yX10_setRange yX10_setRange ∈ ax_WS := ax_wl wdl_16_ok 30 rfl
theorem wd_907 : Cond.code yX10_setRange cX10_setRange 6 (some .int) ∈ ax_WS := ax_wl wdl_16_ok 31 rfl
theorem wd_908 : Cond.methodLink RL 39 yX10_nodes ∈ ax_WS := ax_wl wdl_16_ok 32 rfl
theorem wd_909 : Cond.instanceMethod yX10_nodes ∈ ax_WS := ax_wl wdl_16_ok 33 rfl
theorem wd_910 : Cond.selects RX10 yX10_nodes yX10_nodes ∈ ax_WS := ax_wl wdl_16_ok 34 rfl
theorem wd_911 : Cond.code yX10_nodes cX10_nodes 1 (some .int) ∈ ax_WS := ax_wl wdl_16_ok 35 rfl
theorem wd_912 : Cond.methodLink RL 44 yX10_node ∈ ax_WS := ax_wl wdl_16_ok 36 rfl
theorem wd_913 : Cond.instanceMethod yX10_node ∈ ax_WS := ax_wl wdl_16_ok 37 rfl
theorem wd_914 : Cond.selects RX10 yX10_node yX10_node ∈ ax_WS := ax_wl wdl_16_ok 38 rfl
theorem wd_915 : Cond.code yX10_node cX10_node 3 (some .int) ∈ ax_WS := ax_wl wdl_16_ok 39 rfl
def wdl_17 : List Cond := [Cond.methodLink RX10 130 yX10_nodeTells, Cond.instanceMethod yX10_nodeTells, Cond.code yX10_nodeTells cX10_nodeTells 3 (some .int), Cond.methodLink RX10 121 yX10_size, Cond.static yX10_size, Cond.code yX10_size cX10_size 3 (some .int), Cond.methodLink RX10 124 yX10_placeOf, Cond.instanceMethod yX10_placeOf, Cond.code yX10_placeOf cX10_placeOf 5 (some .int), Cond.methodLink RX10 118 yX10_isReady, Cond.instanceMethod yX10_isReady, Cond.code yX10_isReady cX10_isReady 6 (some .boolean), Cond.methodLink RX10 127 yX10_depthOf, Cond.instanceMethod yX10_depthOf, Cond.code yX10_depthOf cX10_depthOf 6 (some .int), Cond.methodLink RL 48 yX10_input, Cond.instanceMethod yX10_input, Cond.selects RX10 yX10_input yX10_input, Cond.code yX10_input cX10_input 3 (some .int), Cond.methodLink RL 52 yX10_parameter, Cond.instanceMethod yX10_parameter, Cond.selects RX10 yX10_parameter yX10_parameter, Cond.code yX10_parameter cX10_parameter 3 (some .int), Cond.methodLink RL 57 yX10_value, Cond.instanceMethod yX10_value, Cond.selects RX10 yX10_value yX10_value, Cond.code yX10_value cX10_value 6 (some .int), Cond.methodLink RX10 178 yX10_isPicture, Cond.instanceMethod yX10_isPicture, Cond.code yX10_isPicture cX10_isPicture 3 (some .boolean), Cond.methodLink RX10 181 yX10_picture, Cond.instanceMethod yX10_picture, Cond.code yX10_picture cX10_picture 7 (some .int), Cond.methodLink RX10 148 yX10_asks, Cond.instanceMethod yX10_asks, Cond.code yX10_asks cX10_asks 4 none, Cond.methodLink RX10 140 yX10_find, Cond.instanceMethod yX10_find, Cond.code yX10_find cX10_find 4 (some .int), Cond.methodLink RX10 143 yX10_uses]
theorem wdl_17_ok : wdl_17.all goodWord = true ∧ [916, 918, 919, 920, 921, 922, 923, 925, 926, 927, 929, 930, 931, 933, 934, 935, 936, 937, 938, 939, 940, 941, 942, 943, 944, 945, 946, 947, 949, 950, 951, 953, 954, 955, 957, 958, 959, 961, 962, 963].map (fun i => lw_tbl[i]?) = wdl_17.map some := by decide +kernel
theorem wd_916 : Cond.methodLink RX10 130 yX10_nodeTells ∈ ax_WS := ax_wl wdl_17_ok 0 rfl
theorem wd_918 : Cond.instanceMethod yX10_nodeTells ∈ ax_WS := ax_wl wdl_17_ok 1 rfl
theorem wd_919 : Cond.code yX10_nodeTells cX10_nodeTells 3 (some .int) ∈ ax_WS := ax_wl wdl_17_ok 2 rfl
theorem wd_920 : Cond.methodLink RX10 121 yX10_size ∈ ax_WS := ax_wl wdl_17_ok 3 rfl
theorem wd_921 : Cond.static yX10_size ∈ ax_WS := ax_wl wdl_17_ok 4 rfl
theorem wd_922 : Cond.code yX10_size cX10_size 3 (some .int) ∈ ax_WS := ax_wl wdl_17_ok 5 rfl
theorem wd_923 : Cond.methodLink RX10 124 yX10_placeOf ∈ ax_WS := ax_wl wdl_17_ok 6 rfl
theorem wd_925 : Cond.instanceMethod yX10_placeOf ∈ ax_WS := ax_wl wdl_17_ok 7 rfl
theorem wd_926 : Cond.code yX10_placeOf cX10_placeOf 5 (some .int) ∈ ax_WS := ax_wl wdl_17_ok 8 rfl
theorem wd_927 : Cond.methodLink RX10 118 yX10_isReady ∈ ax_WS := ax_wl wdl_17_ok 9 rfl
theorem wd_929 : Cond.instanceMethod yX10_isReady ∈ ax_WS := ax_wl wdl_17_ok 10 rfl
theorem wd_930 : Cond.code yX10_isReady cX10_isReady 6 (some .boolean) ∈ ax_WS := ax_wl wdl_17_ok 11 rfl
theorem wd_931 : Cond.methodLink RX10 127 yX10_depthOf ∈ ax_WS := ax_wl wdl_17_ok 12 rfl
theorem wd_933 : Cond.instanceMethod yX10_depthOf ∈ ax_WS := ax_wl wdl_17_ok 13 rfl
theorem wd_934 : Cond.code yX10_depthOf cX10_depthOf 6 (some .int) ∈ ax_WS := ax_wl wdl_17_ok 14 rfl
theorem wd_935 : Cond.methodLink RL 48 yX10_input ∈ ax_WS := ax_wl wdl_17_ok 15 rfl
theorem wd_936 : Cond.instanceMethod yX10_input ∈ ax_WS := ax_wl wdl_17_ok 16 rfl
theorem wd_937 : Cond.selects RX10 yX10_input yX10_input ∈ ax_WS := ax_wl wdl_17_ok 17 rfl
theorem wd_938 : Cond.code yX10_input cX10_input 3 (some .int) ∈ ax_WS := ax_wl wdl_17_ok 18 rfl
theorem wd_939 : Cond.methodLink RL 52 yX10_parameter ∈ ax_WS := ax_wl wdl_17_ok 19 rfl
theorem wd_940 : Cond.instanceMethod yX10_parameter ∈ ax_WS := ax_wl wdl_17_ok 20 rfl
theorem wd_941 : Cond.selects RX10 yX10_parameter yX10_parameter ∈ ax_WS := ax_wl wdl_17_ok 21 rfl
theorem wd_942 : Cond.code yX10_parameter cX10_parameter 3 (some .int) ∈ ax_WS := ax_wl wdl_17_ok 22 rfl
theorem wd_943 : Cond.methodLink RL 57 yX10_value ∈ ax_WS := ax_wl wdl_17_ok 23 rfl
theorem wd_944 : Cond.instanceMethod yX10_value ∈ ax_WS := ax_wl wdl_17_ok 24 rfl
theorem wd_945 : Cond.selects RX10 yX10_value yX10_value ∈ ax_WS := ax_wl wdl_17_ok 25 rfl
theorem wd_946 : Cond.code yX10_value cX10_value 6 (some .int) ∈ ax_WS := ax_wl wdl_17_ok 26 rfl
theorem wd_947 : Cond.methodLink RX10 178 yX10_isPicture ∈ ax_WS := ax_wl wdl_17_ok 27 rfl
theorem wd_949 : Cond.instanceMethod yX10_isPicture ∈ ax_WS := ax_wl wdl_17_ok 28 rfl
theorem wd_950 : Cond.code yX10_isPicture cX10_isPicture 3 (some .boolean) ∈ ax_WS := ax_wl wdl_17_ok 29 rfl
theorem wd_951 : Cond.methodLink RX10 181 yX10_picture ∈ ax_WS := ax_wl wdl_17_ok 30 rfl
theorem wd_953 : Cond.instanceMethod yX10_picture ∈ ax_WS := ax_wl wdl_17_ok 31 rfl
theorem wd_954 : Cond.code yX10_picture cX10_picture 7 (some .int) ∈ ax_WS := ax_wl wdl_17_ok 32 rfl
theorem wd_955 : Cond.methodLink RX10 148 yX10_asks ∈ ax_WS := ax_wl wdl_17_ok 33 rfl
theorem wd_957 : Cond.instanceMethod yX10_asks ∈ ax_WS := ax_wl wdl_17_ok 34 rfl
theorem wd_958 : Cond.code yX10_asks cX10_asks 4 none ∈ ax_WS := ax_wl wdl_17_ok 35 rfl
theorem wd_959 : Cond.methodLink RX10 140 yX10_find ∈ ax_WS := ax_wl wdl_17_ok 36 rfl
theorem wd_961 : Cond.instanceMethod yX10_find ∈ ax_WS := ax_wl wdl_17_ok 37 rfl
theorem wd_962 : Cond.code yX10_find cX10_find 4 (some .int) ∈ ax_WS := ax_wl wdl_17_ok 38 rfl
theorem wd_963 : Cond.methodLink RX10 143 yX10_uses ∈ ax_WS := ax_wl wdl_17_ok 39 rfl
def wdl_18 : List Cond := [Cond.instanceMethod yX10_uses, Cond.code yX10_uses cX10_uses 2 none, Cond.methodLink RX10 152 yX10_isInRange, Cond.instanceMethod yX10_isInRange, Cond.code yX10_isInRange cX10_isInRange 3 (some .boolean), Cond.methodLink RX10 155 yX10_makes, Cond.instanceMethod yX10_makes, Cond.code yX10_makes cX10_makes 5 none, Cond.methodLink RX10 158 yX10_makesRoom, Cond.instanceMethod yX10_makesRoom, Cond.code yX10_makesRoom cX10_makesRoom 2 none, Cond.methodLink RX10 136 yX10_oldest, Cond.instanceMethod yX10_oldest, Cond.code yX10_oldest cX10_oldest 3 (some .int), Cond.methodLink RX10 161 yX10_made, Cond.instanceMethod yX10_made, Cond.code yX10_made cX10_made 7 (some .int), Cond.methodLink RX10 165 yX10_seen, Cond.instanceMethod yX10_seen, Cond.code yX10_seen cX10_seen 6 (some .int), Cond.methodLink RX10 169 yX10_limit, Cond.static yX10_limit, Cond.code yX10_limit cX10_limit 1 (some .int), Cond.methodLink RX10 172 yX10_blurred, Cond.instanceMethod yX10_blurred, Cond.code yX10_blurred cX10_blurred 8 (some .int), Cond.methodLink RX10 175 yX10_keyed, Cond.static yX10_keyed, Cond.code yX10_keyed cX10_keyed 5 (some .int), Cond.methodLink RL 62 yX10_scope, Cond.instanceMethod yX10_scope, Cond.selects RX10 yX10_scope yX10_scope, Cond.code yX10_scope cX10_scope 8 (some .int), Cond.methodLink RL 66 yX10_sum, Cond.instanceMethod yX10_sum, Cond.selects RX10 yX10_sum yX10_sum, Cond.code yX10_sum cX10_sum 5 (some .int), Cond.methodLink RX10 184 yX10_sums, Cond.instanceMethod yX10_sums, Cond.code yX10_sums cX10_sums 11 (some .int)]
theorem wdl_18_ok : wdl_18.all goodWord = true ∧ [965, 966, 967, 969, 970, 971, 973, 974, 975, 977, 978, 979, 981, 982, 983, 985, 986, 987, 989, 990, 991, 992, 993, 994, 996, 997, 998, 999, 1000, 1001, 1002, 1003, 1004, 1005, 1006, 1007, 1008, 1009, 1011, 1012].map (fun i => lw_tbl[i]?) = wdl_18.map some := by decide +kernel
theorem wd_965 : Cond.instanceMethod yX10_uses ∈ ax_WS := ax_wl wdl_18_ok 0 rfl
theorem wd_966 : Cond.code yX10_uses cX10_uses 2 none ∈ ax_WS := ax_wl wdl_18_ok 1 rfl
theorem wd_967 : Cond.methodLink RX10 152 yX10_isInRange ∈ ax_WS := ax_wl wdl_18_ok 2 rfl
theorem wd_969 : Cond.instanceMethod yX10_isInRange ∈ ax_WS := ax_wl wdl_18_ok 3 rfl
theorem wd_970 : Cond.code yX10_isInRange cX10_isInRange 3 (some .boolean) ∈ ax_WS := ax_wl wdl_18_ok 4 rfl
theorem wd_971 : Cond.methodLink RX10 155 yX10_makes ∈ ax_WS := ax_wl wdl_18_ok 5 rfl
theorem wd_973 : Cond.instanceMethod yX10_makes ∈ ax_WS := ax_wl wdl_18_ok 6 rfl
theorem wd_974 : Cond.code yX10_makes cX10_makes 5 none ∈ ax_WS := ax_wl wdl_18_ok 7 rfl
theorem wd_975 : Cond.methodLink RX10 158 yX10_makesRoom ∈ ax_WS := ax_wl wdl_18_ok 8 rfl
theorem wd_977 : Cond.instanceMethod yX10_makesRoom ∈ ax_WS := ax_wl wdl_18_ok 9 rfl
theorem wd_978 : Cond.code yX10_makesRoom cX10_makesRoom 2 none ∈ ax_WS := ax_wl wdl_18_ok 10 rfl
theorem wd_979 : Cond.methodLink RX10 136 yX10_oldest ∈ ax_WS := ax_wl wdl_18_ok 11 rfl
theorem wd_981 : Cond.instanceMethod yX10_oldest ∈ ax_WS := ax_wl wdl_18_ok 12 rfl
theorem wd_982 : Cond.code yX10_oldest cX10_oldest 3 (some .int) ∈ ax_WS := ax_wl wdl_18_ok 13 rfl
theorem wd_983 : Cond.methodLink RX10 161 yX10_made ∈ ax_WS := ax_wl wdl_18_ok 14 rfl
theorem wd_985 : Cond.instanceMethod yX10_made ∈ ax_WS := ax_wl wdl_18_ok 15 rfl
theorem wd_986 : Cond.code yX10_made cX10_made 7 (some .int) ∈ ax_WS := ax_wl wdl_18_ok 16 rfl
theorem wd_987 : Cond.methodLink RX10 165 yX10_seen ∈ ax_WS := ax_wl wdl_18_ok 17 rfl
theorem wd_989 : Cond.instanceMethod yX10_seen ∈ ax_WS := ax_wl wdl_18_ok 18 rfl
theorem wd_990 : Cond.code yX10_seen cX10_seen 6 (some .int) ∈ ax_WS := ax_wl wdl_18_ok 19 rfl
theorem wd_991 : Cond.methodLink RX10 169 yX10_limit ∈ ax_WS := ax_wl wdl_18_ok 20 rfl
theorem wd_992 : Cond.static yX10_limit ∈ ax_WS := ax_wl wdl_18_ok 21 rfl
theorem wd_993 : Cond.code yX10_limit cX10_limit 1 (some .int) ∈ ax_WS := ax_wl wdl_18_ok 22 rfl
theorem wd_994 : Cond.methodLink RX10 172 yX10_blurred ∈ ax_WS := ax_wl wdl_18_ok 23 rfl
theorem wd_996 : Cond.instanceMethod yX10_blurred ∈ ax_WS := ax_wl wdl_18_ok 24 rfl
theorem wd_997 : Cond.code yX10_blurred cX10_blurred 8 (some .int) ∈ ax_WS := ax_wl wdl_18_ok 25 rfl
theorem wd_998 : Cond.methodLink RX10 175 yX10_keyed ∈ ax_WS := ax_wl wdl_18_ok 26 rfl
theorem wd_999 : Cond.static yX10_keyed ∈ ax_WS := ax_wl wdl_18_ok 27 rfl
theorem wd_1000 : Cond.code yX10_keyed cX10_keyed 5 (some .int) ∈ ax_WS := ax_wl wdl_18_ok 28 rfl
theorem wd_1001 : Cond.methodLink RL 62 yX10_scope ∈ ax_WS := ax_wl wdl_18_ok 29 rfl
theorem wd_1002 : Cond.instanceMethod yX10_scope ∈ ax_WS := ax_wl wdl_18_ok 30 rfl
theorem wd_1003 : Cond.selects RX10 yX10_scope yX10_scope ∈ ax_WS := ax_wl wdl_18_ok 31 rfl
theorem wd_1004 : Cond.code yX10_scope cX10_scope 8 (some .int) ∈ ax_WS := ax_wl wdl_18_ok 32 rfl
theorem wd_1005 : Cond.methodLink RL 66 yX10_sum ∈ ax_WS := ax_wl wdl_18_ok 33 rfl
theorem wd_1006 : Cond.instanceMethod yX10_sum ∈ ax_WS := ax_wl wdl_18_ok 34 rfl
theorem wd_1007 : Cond.selects RX10 yX10_sum yX10_sum ∈ ax_WS := ax_wl wdl_18_ok 35 rfl
theorem wd_1008 : Cond.code yX10_sum cX10_sum 5 (some .int) ∈ ax_WS := ax_wl wdl_18_ok 36 rfl
theorem wd_1009 : Cond.methodLink RX10 184 yX10_sums ∈ ax_WS := ax_wl wdl_18_ok 37 rfl
theorem wd_1011 : Cond.instanceMethod yX10_sums ∈ ax_WS := ax_wl wdl_18_ok 38 rfl
theorem wd_1012 : Cond.code yX10_sums cX10_sums 11 (some .int) ∈ ax_WS := ax_wl wdl_18_ok 39 rfl
def wdl_19 : List Cond := [Cond.methodLink RL 70 yX10_compare, Cond.instanceMethod yX10_compare, Cond.selects RX10 yX10_compare yX10_compare, Cond.code yX10_compare cX10_compare 10 (some .int), Cond.methodLink RL 74 yX10_setRoom, Cond.instanceMethod yX10_setRoom, Cond.selects RX10 yX10_setRoom yX10_setRoom, Cond.code yX10_setRoom cX10_setRoom 3 (some .int), Cond.methodLink RL 78 yX10_isCached, Cond.instanceMethod yX10_isCached, Cond.selects RX10 yX10_isCached yX10_isCached, Cond.code yX10_isCached cX10_isCached 3 (some .int), Cond.methodLink RL 82 yX10_count, Cond.instanceMethod yX10_count, Cond.selects RX10 yX10_count yX10_count, Cond.code yX10_count cX10_count 2 (some .int), Cond.methodLink RX10 187 yX10_countOf, Cond.instanceMethod yX10_countOf, Cond.code yX10_countOf cX10_countOf 2 (some .int), Cond.methodLink RL 86 yX10_append, Cond.instanceMethod yX10_append, Cond.selects RX10 yX10_append yX10_append, Cond.code yX10_append cX10_append 2 (some .int), Cond.methodLink RL 90 yX10_clearText, Cond.instanceMethod yX10_clearText, Cond.selects RX10 yX10_clearText yX10_clearText, Cond.code yX10_clearText cX10_clearText 2 (some .int), Cond.methodLink RL 94 yX10_faultPosition, Cond.instanceMethod yX10_faultPosition, Cond.selects RX10 yX10_faultPosition yX10_faultPosition, Cond.code yX10_faultPosition cX10_faultPosition 1 (some .int), Cond.methodLink RX10 232 yX10_isText, Cond.instanceMethod yX10_isText, Cond.code yX10_isText cX10_isText 4 (some .boolean), Cond.methodLink RX10 226 yX10_begins, Cond.instanceMethod yX10_begins, Cond.code yX10_begins cX10_begins 2 (some .boolean), Cond.methodLink RX10 220 yX10_kindHere, Cond.instanceMethod yX10_kindHere, Cond.code yX10_kindHere cX10_kindHere 1 (some .int)]
theorem wdl_19_ok : wdl_19.all goodWord = true ∧ [1013, 1014, 1015, 1016, 1017, 1018, 1019, 1020, 1021, 1022, 1023, 1024, 1025, 1026, 1027, 1028, 1029, 1031, 1032, 1033, 1034, 1035, 1036, 1037, 1038, 1039, 1040, 1041, 1042, 1043, 1044, 1045, 1047, 1048, 1049, 1051, 1052, 1053, 1055, 1056].map (fun i => lw_tbl[i]?) = wdl_19.map some := by decide +kernel
theorem wd_1013 : Cond.methodLink RL 70 yX10_compare ∈ ax_WS := ax_wl wdl_19_ok 0 rfl
theorem wd_1014 : Cond.instanceMethod yX10_compare ∈ ax_WS := ax_wl wdl_19_ok 1 rfl
theorem wd_1015 : Cond.selects RX10 yX10_compare yX10_compare ∈ ax_WS := ax_wl wdl_19_ok 2 rfl
theorem wd_1016 : Cond.code yX10_compare cX10_compare 10 (some .int) ∈ ax_WS := ax_wl wdl_19_ok 3 rfl
theorem wd_1017 : Cond.methodLink RL 74 yX10_setRoom ∈ ax_WS := ax_wl wdl_19_ok 4 rfl
theorem wd_1018 : Cond.instanceMethod yX10_setRoom ∈ ax_WS := ax_wl wdl_19_ok 5 rfl
theorem wd_1019 : Cond.selects RX10 yX10_setRoom yX10_setRoom ∈ ax_WS := ax_wl wdl_19_ok 6 rfl
theorem wd_1020 : Cond.code yX10_setRoom cX10_setRoom 3 (some .int) ∈ ax_WS := ax_wl wdl_19_ok 7 rfl
theorem wd_1021 : Cond.methodLink RL 78 yX10_isCached ∈ ax_WS := ax_wl wdl_19_ok 8 rfl
theorem wd_1022 : Cond.instanceMethod yX10_isCached ∈ ax_WS := ax_wl wdl_19_ok 9 rfl
theorem wd_1023 : Cond.selects RX10 yX10_isCached yX10_isCached ∈ ax_WS := ax_wl wdl_19_ok 10 rfl
theorem wd_1024 : Cond.code yX10_isCached cX10_isCached 3 (some .int) ∈ ax_WS := ax_wl wdl_19_ok 11 rfl
theorem wd_1025 : Cond.methodLink RL 82 yX10_count ∈ ax_WS := ax_wl wdl_19_ok 12 rfl
theorem wd_1026 : Cond.instanceMethod yX10_count ∈ ax_WS := ax_wl wdl_19_ok 13 rfl
theorem wd_1027 : Cond.selects RX10 yX10_count yX10_count ∈ ax_WS := ax_wl wdl_19_ok 14 rfl
theorem wd_1028 : Cond.code yX10_count cX10_count 2 (some .int) ∈ ax_WS := ax_wl wdl_19_ok 15 rfl
theorem wd_1029 : Cond.methodLink RX10 187 yX10_countOf ∈ ax_WS := ax_wl wdl_19_ok 16 rfl
theorem wd_1031 : Cond.instanceMethod yX10_countOf ∈ ax_WS := ax_wl wdl_19_ok 17 rfl
theorem wd_1032 : Cond.code yX10_countOf cX10_countOf 2 (some .int) ∈ ax_WS := ax_wl wdl_19_ok 18 rfl
theorem wd_1033 : Cond.methodLink RL 86 yX10_append ∈ ax_WS := ax_wl wdl_19_ok 19 rfl
theorem wd_1034 : Cond.instanceMethod yX10_append ∈ ax_WS := ax_wl wdl_19_ok 20 rfl
theorem wd_1035 : Cond.selects RX10 yX10_append yX10_append ∈ ax_WS := ax_wl wdl_19_ok 21 rfl
theorem wd_1036 : Cond.code yX10_append cX10_append 2 (some .int) ∈ ax_WS := ax_wl wdl_19_ok 22 rfl
theorem wd_1037 : Cond.methodLink RL 90 yX10_clearText ∈ ax_WS := ax_wl wdl_19_ok 23 rfl
theorem wd_1038 : Cond.instanceMethod yX10_clearText ∈ ax_WS := ax_wl wdl_19_ok 24 rfl
theorem wd_1039 : Cond.selects RX10 yX10_clearText yX10_clearText ∈ ax_WS := ax_wl wdl_19_ok 25 rfl
theorem wd_1040 : Cond.code yX10_clearText cX10_clearText 2 (some .int) ∈ ax_WS := ax_wl wdl_19_ok 26 rfl
theorem wd_1041 : Cond.methodLink RL 94 yX10_faultPosition ∈ ax_WS := ax_wl wdl_19_ok 27 rfl
theorem wd_1042 : Cond.instanceMethod yX10_faultPosition ∈ ax_WS := ax_wl wdl_19_ok 28 rfl
theorem wd_1043 : Cond.selects RX10 yX10_faultPosition yX10_faultPosition ∈ ax_WS := ax_wl wdl_19_ok 29 rfl
theorem wd_1044 : Cond.code yX10_faultPosition cX10_faultPosition 1 (some .int) ∈ ax_WS := ax_wl wdl_19_ok 30 rfl
theorem wd_1045 : Cond.methodLink RX10 232 yX10_isText ∈ ax_WS := ax_wl wdl_19_ok 31 rfl
theorem wd_1047 : Cond.instanceMethod yX10_isText ∈ ax_WS := ax_wl wdl_19_ok 32 rfl
theorem wd_1048 : Cond.code yX10_isText cX10_isText 4 (some .boolean) ∈ ax_WS := ax_wl wdl_19_ok 33 rfl
theorem wd_1049 : Cond.methodLink RX10 226 yX10_begins ∈ ax_WS := ax_wl wdl_19_ok 34 rfl
theorem wd_1051 : Cond.instanceMethod yX10_begins ∈ ax_WS := ax_wl wdl_19_ok 35 rfl
theorem wd_1052 : Cond.code yX10_begins cX10_begins 2 (some .boolean) ∈ ax_WS := ax_wl wdl_19_ok 36 rfl
theorem wd_1053 : Cond.methodLink RX10 220 yX10_kindHere ∈ ax_WS := ax_wl wdl_19_ok 37 rfl
theorem wd_1055 : Cond.instanceMethod yX10_kindHere ∈ ax_WS := ax_wl wdl_19_ok 38 rfl
theorem wd_1056 : Cond.code yX10_kindHere cX10_kindHere 1 (some .int) ∈ ax_WS := ax_wl wdl_19_ok 39 rfl
def wdl_20 : List Cond := [Cond.methodLink RX10 196 yX10_here, Cond.instanceMethod yX10_here, Cond.code yX10_here cX10_here 1 (some .int), Cond.methodLink RX10 214 yX10_takes, Cond.instanceMethod yX10_takes, Cond.code yX10_takes cX10_takes 3 (some .boolean), Cond.methodLink RX10 229 yX10_ends, Cond.instanceMethod yX10_ends, Cond.code yX10_ends cX10_ends 10 (some .boolean), Cond.methodLink RX10 212 yX10_number, Cond.instanceMethod yX10_number, Cond.code yX10_number cX10_number 6 (some .boolean), Cond.methodLink RX10 199 yX10_isDigit, Cond.instanceMethod yX10_isDigit, Cond.code yX10_isDigit cX10_isDigit 1 (some .boolean), Cond.methodLink RX10 217 yX10_tells, Cond.instanceMethod yX10_tells, Cond.code yX10_tells cX10_tells 5 none, Cond.methodLink RL 98 yX10_faultDepth, Cond.instanceMethod yX10_faultDepth, Cond.selects RX10 yX10_faultDepth yX10_faultDepth, Cond.code yX10_faultDepth cX10_faultDepth 1 (some .int), Cond.methodLink RL 102 yX10_build, Cond.instanceMethod yX10_build, Cond.selects RX10 yX10_build yX10_build, Cond.code yX10_build cX10_build 6 (some .int), Cond.methodLink RL 106 yX10_save, Cond.instanceMethod yX10_save, Cond.selects RX10 yX10_save yX10_save, Cond.code yX10_save cX10_save 3 (some .int), Cond.methodLink RL 110 yX10_restore, Cond.instanceMethod yX10_restore, Cond.selects RX10 yX10_restore yX10_restore, Cond.code yX10_restore cX10_restore 3 (some .int), Cond.methodLink RL 115 yX10_checksum, Cond.instanceMethod yX10_checksum, Cond.selects RX10 yX10_checksum yX10_checksum, Cond.code yX10_checksum cX10_checksum 5 (some .long), Cond.constantLong RX10 237 (127), Cond.methodLink RX10 239 yX10_more]
theorem wdl_20_ok : wdl_20.all goodWord = true ∧ [1057, 1059, 1060, 1061, 1063, 1064, 1065, 1067, 1068, 1069, 1071, 1072, 1073, 1075, 1076, 1077, 1079, 1080, 1081, 1082, 1083, 1084, 1085, 1086, 1087, 1088, 1089, 1090, 1091, 1092, 1093, 1094, 1095, 1096, 1097, 1098, 1099, 1100, 1101, 1102].map (fun i => lw_tbl[i]?) = wdl_20.map some := by decide +kernel
theorem wd_1057 : Cond.methodLink RX10 196 yX10_here ∈ ax_WS := ax_wl wdl_20_ok 0 rfl
theorem wd_1059 : Cond.instanceMethod yX10_here ∈ ax_WS := ax_wl wdl_20_ok 1 rfl
theorem wd_1060 : Cond.code yX10_here cX10_here 1 (some .int) ∈ ax_WS := ax_wl wdl_20_ok 2 rfl
theorem wd_1061 : Cond.methodLink RX10 214 yX10_takes ∈ ax_WS := ax_wl wdl_20_ok 3 rfl
theorem wd_1063 : Cond.instanceMethod yX10_takes ∈ ax_WS := ax_wl wdl_20_ok 4 rfl
theorem wd_1064 : Cond.code yX10_takes cX10_takes 3 (some .boolean) ∈ ax_WS := ax_wl wdl_20_ok 5 rfl
theorem wd_1065 : Cond.methodLink RX10 229 yX10_ends ∈ ax_WS := ax_wl wdl_20_ok 6 rfl
theorem wd_1067 : Cond.instanceMethod yX10_ends ∈ ax_WS := ax_wl wdl_20_ok 7 rfl
theorem wd_1068 : Cond.code yX10_ends cX10_ends 10 (some .boolean) ∈ ax_WS := ax_wl wdl_20_ok 8 rfl
theorem wd_1069 : Cond.methodLink RX10 212 yX10_number ∈ ax_WS := ax_wl wdl_20_ok 9 rfl
theorem wd_1071 : Cond.instanceMethod yX10_number ∈ ax_WS := ax_wl wdl_20_ok 10 rfl
theorem wd_1072 : Cond.code yX10_number cX10_number 6 (some .boolean) ∈ ax_WS := ax_wl wdl_20_ok 11 rfl
theorem wd_1073 : Cond.methodLink RX10 199 yX10_isDigit ∈ ax_WS := ax_wl wdl_20_ok 12 rfl
theorem wd_1075 : Cond.instanceMethod yX10_isDigit ∈ ax_WS := ax_wl wdl_20_ok 13 rfl
theorem wd_1076 : Cond.code yX10_isDigit cX10_isDigit 1 (some .boolean) ∈ ax_WS := ax_wl wdl_20_ok 14 rfl
theorem wd_1077 : Cond.methodLink RX10 217 yX10_tells ∈ ax_WS := ax_wl wdl_20_ok 15 rfl
theorem wd_1079 : Cond.instanceMethod yX10_tells ∈ ax_WS := ax_wl wdl_20_ok 16 rfl
theorem wd_1080 : Cond.code yX10_tells cX10_tells 5 none ∈ ax_WS := ax_wl wdl_20_ok 17 rfl
theorem wd_1081 : Cond.methodLink RL 98 yX10_faultDepth ∈ ax_WS := ax_wl wdl_20_ok 18 rfl
theorem wd_1082 : Cond.instanceMethod yX10_faultDepth ∈ ax_WS := ax_wl wdl_20_ok 19 rfl
theorem wd_1083 : Cond.selects RX10 yX10_faultDepth yX10_faultDepth ∈ ax_WS := ax_wl wdl_20_ok 20 rfl
theorem wd_1084 : Cond.code yX10_faultDepth cX10_faultDepth 1 (some .int) ∈ ax_WS := ax_wl wdl_20_ok 21 rfl
theorem wd_1085 : Cond.methodLink RL 102 yX10_build ∈ ax_WS := ax_wl wdl_20_ok 22 rfl
theorem wd_1086 : Cond.instanceMethod yX10_build ∈ ax_WS := ax_wl wdl_20_ok 23 rfl
theorem wd_1087 : Cond.selects RX10 yX10_build yX10_build ∈ ax_WS := ax_wl wdl_20_ok 24 rfl
theorem wd_1088 : Cond.code yX10_build cX10_build 6 (some .int) ∈ ax_WS := ax_wl wdl_20_ok 25 rfl
theorem wd_1089 : Cond.methodLink RL 106 yX10_save ∈ ax_WS := ax_wl wdl_20_ok 26 rfl
theorem wd_1090 : Cond.instanceMethod yX10_save ∈ ax_WS := ax_wl wdl_20_ok 27 rfl
theorem wd_1091 : Cond.selects RX10 yX10_save yX10_save ∈ ax_WS := ax_wl wdl_20_ok 28 rfl
theorem wd_1092 : Cond.code yX10_save cX10_save 3 (some .int) ∈ ax_WS := ax_wl wdl_20_ok 29 rfl
theorem wd_1093 : Cond.methodLink RL 110 yX10_restore ∈ ax_WS := ax_wl wdl_20_ok 30 rfl
theorem wd_1094 : Cond.instanceMethod yX10_restore ∈ ax_WS := ax_wl wdl_20_ok 31 rfl
theorem wd_1095 : Cond.selects RX10 yX10_restore yX10_restore ∈ ax_WS := ax_wl wdl_20_ok 32 rfl
theorem wd_1096 : Cond.code yX10_restore cX10_restore 3 (some .int) ∈ ax_WS := ax_wl wdl_20_ok 33 rfl
theorem wd_1097 : Cond.methodLink RL 115 yX10_checksum ∈ ax_WS := ax_wl wdl_20_ok 34 rfl
theorem wd_1098 : Cond.instanceMethod yX10_checksum ∈ ax_WS := ax_wl wdl_20_ok 35 rfl
theorem wd_1099 : Cond.selects RX10 yX10_checksum yX10_checksum ∈ ax_WS := ax_wl wdl_20_ok 36 rfl
theorem wd_1100 : Cond.code yX10_checksum cX10_checksum 5 (some .long) ∈ ax_WS := ax_wl wdl_20_ok 37 rfl
theorem wd_1101 : Cond.constantLong RX10 237 (127) ∈ ax_WS := ax_wl wdl_20_ok 38 rfl
theorem wd_1102 : Cond.methodLink RX10 239 yX10_more ∈ ax_WS := ax_wl wdl_20_ok 39 rfl
def wdl_21 : List Cond := [Cond.static yX10_more, Cond.code yX10_more cX10_more 3 (some .long), Cond.constantLong RX10 235 (31), Cond.fieldLink RJ0 15 RJ0 "coder" "B", Cond.fieldLink RJ0 9 RJ0 "value" "[B"]
theorem wdl_21_ok : wdl_21.all goodWord = true ∧ [1103, 1104, 1105, 1106, 1107].map (fun i => lw_tbl[i]?) = wdl_21.map some := by decide +kernel
theorem wd_1103 : Cond.static yX10_more ∈ ax_WS := ax_wl wdl_21_ok 0 rfl
theorem wd_1104 : Cond.code yX10_more cX10_more 3 (some .long) ∈ ax_WS := ax_wl wdl_21_ok 1 rfl
theorem wd_1105 : Cond.constantLong RX10 235 (31) ∈ ax_WS := ax_wl wdl_21_ok 2 rfl
theorem wd_1106 : Cond.fieldLink RJ0 15 RJ0 "coder" "B" ∈ ax_WS := ax_wl wdl_21_ok 3 rfl
theorem wd_1107 : Cond.fieldLink RJ0 9 RJ0 "value" "[B" ∈ ax_WS := ax_wl wdl_21_ok 4 rfl
def wnl_0 : List Cond := [Cond.methodLinkNest RX1 27 yX3_init RX9, Cond.methodLinkNest RX0 21 yX5_init RX9, Cond.methodLinkNest RX6 11 yX8_init RX9, Cond.methodLinkNest RX6 28 yX3_init RX9, Cond.methodLinkNest RX1 84 yX9_contains RX9, Cond.methodLinkNest RX1 32 yX9_isIn RX9, Cond.methodLinkNest RX0 48 yX9_isIn RX9, Cond.methodLinkNest RX0 52 yX9_contains RX9, Cond.methodLinkNest RX8 19 yX9_isIn RX9, Cond.methodLinkNest RX6 108 yX9_isIn RX9]
theorem wnl_0_ok : wnl_0.all ax_isN = true ∧ [88, 149, 206, 221, 317, 328, 364, 365, 575, 671].map (fun i => lw_tbl[i]?) = wnl_0.map some := by decide +kernel
theorem wn_88 : Cond.methodLinkNest RX1 27 yX3_init RX9 ∈ ax_NW := ax_nl wnl_0_ok 0 rfl
theorem wn_149 : Cond.methodLinkNest RX0 21 yX5_init RX9 ∈ ax_NW := ax_nl wnl_0_ok 1 rfl
theorem wn_206 : Cond.methodLinkNest RX6 11 yX8_init RX9 ∈ ax_NW := ax_nl wnl_0_ok 2 rfl
theorem wn_221 : Cond.methodLinkNest RX6 28 yX3_init RX9 ∈ ax_NW := ax_nl wnl_0_ok 3 rfl
theorem wn_317 : Cond.methodLinkNest RX1 84 yX9_contains RX9 ∈ ax_NW := ax_nl wnl_0_ok 4 rfl
theorem wn_328 : Cond.methodLinkNest RX1 32 yX9_isIn RX9 ∈ ax_NW := ax_nl wnl_0_ok 5 rfl
theorem wn_364 : Cond.methodLinkNest RX0 48 yX9_isIn RX9 ∈ ax_NW := ax_nl wnl_0_ok 6 rfl
theorem wn_365 : Cond.methodLinkNest RX0 52 yX9_contains RX9 ∈ ax_NW := ax_nl wnl_0_ok 7 rfl
theorem wn_575 : Cond.methodLinkNest RX8 19 yX9_isIn RX9 ∈ ax_NW := ax_nl wnl_0_ok 8 rfl
theorem wn_671 : Cond.methodLinkNest RX6 108 yX9_isIn RX9 ∈ ax_NW := ax_nl wnl_0_ok 9 rfl
theorem cy_J0_coder_7d493 : ax_cy0 yJ0_coder_7d493 0 := by
  unfold ax_cy0
  exact ⟨by decide +kernel, by decide +kernel, by decide +kernel⟩
theorem cy_J0_indexOf_0f7a4 : ax_cy0 yJ0_indexOf_0f7a4 1 := by
  unfold ax_cy0
  exact ⟨by decide +kernel, by decide +kernel, by decide +kernel⟩
theorem cy_J0_indexOf_7cf53 : ax_cy0 yJ0_indexOf_7cf53 2 := by
  unfold ax_cy0
  exact ⟨by decide +kernel, by decide +kernel, by decide +kernel⟩
theorem cy_J0_isLatin1_aae02 : ax_cy0 yJ0_isLatin1_aae02 0 := by
  unfold ax_cy0
  exact ⟨by decide +kernel, by decide +kernel, by decide +kernel⟩
theorem cy_J0_length_8abf5 : ax_cy0 yJ0_length_8abf5 0 := by
  unfold ax_cy0
  exact ⟨by decide +kernel, by decide +kernel, by decide +kernel⟩
theorem cy_J1_canEncode_9a6ad : ax_cy0 yJ1_canEncode_9a6ad 1 := by
  unfold ax_cy0
  exact ⟨by decide +kernel, by decide +kernel, by decide +kernel⟩
theorem cy_J1_indexOfChar_4cfef : ax_cy0 yJ1_indexOfChar_4cfef 4 := by
  unfold ax_cy0
  exact ⟨by decide +kernel, by decide +kernel, by decide +kernel⟩
theorem cy_J1_indexOf_4cfef : ax_cy0 yJ1_indexOf_4cfef 4 := by
  unfold ax_cy0
  exact ⟨by decide +kernel, by decide +kernel, by decide +kernel⟩
theorem cy_J6_bitCount_0f7a4 : ax_cy0 yJ6_bitCount_0f7a4 1 := by
  unfold ax_cy0
  exact ⟨by decide +kernel, by decide +kernel, by decide +kernel⟩
theorem cy_X0_admit : ax_cy0 yX0_admit 2 := by
  unfold ax_cy0
  exact ⟨by decide +kernel, by decide +kernel, by decide +kernel⟩
theorem cy_X0_changeRoom : ax_cy0 yX0_changeRoom 1 := by
  unfold ax_cy0
  exact ⟨by decide +kernel, by decide +kernel, by decide +kernel⟩
theorem cy_X0_dropOldest : ax_cy0 yX0_dropOldest 0 := by
  unfold ax_cy0
  exact ⟨by decide +kernel, by decide +kernel, by decide +kernel⟩
theorem cy_X0_empty : ax_cy0 yX0_empty 0 := by
  unfold ax_cy0
  exact ⟨by decide +kernel, by decide +kernel, by decide +kernel⟩
theorem cy_X0_find : ax_cy0 yX0_find 2 := by
  unfold ax_cy0
  exact ⟨by decide +kernel, by decide +kernel, by decide +kernel⟩
theorem cy_X0_hit : ax_cy0 yX0_hit 1 := by
  unfold ax_cy0
  exact ⟨by decide +kernel, by decide +kernel, by decide +kernel⟩
theorem cy_X0_init : ax_cy0 yX0_init 0 := by
  unfold ax_cy0
  exact ⟨by decide +kernel, by decide +kernel, by decide +kernel⟩
theorem cy_X0_makeVoid : ax_cy0 yX0_makeVoid 3 := by
  unfold ax_cy0
  exact ⟨by decide +kernel, by decide +kernel, by decide +kernel⟩
theorem cy_X0_makeVoidInOne : ax_cy0 yX0_makeVoidInOne 5 := by
  unfold ax_cy0
  exact ⟨by decide +kernel, by decide +kernel, by decide +kernel⟩
theorem cy_X0_remove : ax_cy0 yX0_remove 1 := by
  unfold ax_cy0
  exact ⟨by decide +kernel, by decide +kernel, by decide +kernel⟩
theorem cy_X0_touch : ax_cy0 yX0_touch 1 := by
  unfold ax_cy0
  exact ⟨by decide +kernel, by decide +kernel, by decide +kernel⟩
theorem cy_X10_addNode : ax_cy0 yX10_addNode 1 := by
  unfold ax_cy0
  exact ⟨by decide +kernel, by decide +kernel, by decide +kernel⟩
theorem cy_X10_adds : ax_cy0 yX10_adds 1 := by
  unfold ax_cy0
  exact ⟨by decide +kernel, by decide +kernel, by decide +kernel⟩
theorem cy_X10_append : ax_cy0 yX10_append 1 := by
  unfold ax_cy0
  exact ⟨by decide +kernel, by decide +kernel, by decide +kernel⟩
theorem cy_X10_asks : ax_cy0 yX10_asks 2 := by
  unfold ax_cy0
  exact ⟨by decide +kernel, by decide +kernel, by decide +kernel⟩
theorem cy_X10_at : ax_cy0 yX10_at 2 := by
  unfold ax_cy0
  exact ⟨by decide +kernel, by decide +kernel, by decide +kernel⟩
theorem cy_X10_begins : ax_cy0 yX10_begins 0 := by
  unfold ax_cy0
  exact ⟨by decide +kernel, by decide +kernel, by decide +kernel⟩
theorem cy_X10_blurred : ax_cy0 yX10_blurred 4 := by
  unfold ax_cy0
  exact ⟨by decide +kernel, by decide +kernel, by decide +kernel⟩
theorem cy_X10_build : ax_cy0 yX10_build 0 := by
  unfold ax_cy0
  exact ⟨by decide +kernel, by decide +kernel, by decide +kernel⟩
theorem cy_X10_checksum : ax_cy0 yX10_checksum 0 := by
  unfold ax_cy0
  exact ⟨by decide +kernel, by decide +kernel, by decide +kernel⟩
theorem cy_X10_clear : ax_cy0 yX10_clear 0 := by
  unfold ax_cy0
  exact ⟨by decide +kernel, by decide +kernel, by decide +kernel⟩
theorem cy_X10_clearText : ax_cy0 yX10_clearText 0 := by
  unfold ax_cy0
  exact ⟨by decide +kernel, by decide +kernel, by decide +kernel⟩
theorem cy_X10_compare : ax_cy0 yX10_compare 3 := by
  unfold ax_cy0
  exact ⟨by decide +kernel, by decide +kernel, by decide +kernel⟩
theorem cy_X10_connect : ax_cy0 yX10_connect 3 := by
  unfold ax_cy0
  exact ⟨by decide +kernel, by decide +kernel, by decide +kernel⟩
theorem cy_X10_count : ax_cy0 yX10_count 1 := by
  unfold ax_cy0
  exact ⟨by decide +kernel, by decide +kernel, by decide +kernel⟩
theorem cy_X10_countOf : ax_cy0 yX10_countOf 1 := by
  unfold ax_cy0
  exact ⟨by decide +kernel, by decide +kernel, by decide +kernel⟩
theorem cy_X10_dependents : ax_cy0 yX10_dependents 1 := by
  unfold ax_cy0
  exact ⟨by decide +kernel, by decide +kernel, by decide +kernel⟩
theorem cy_X10_depthOf : ax_cy0 yX10_depthOf 1 := by
  unfold ax_cy0
  exact ⟨by decide +kernel, by decide +kernel, by decide +kernel⟩
theorem cy_X10_drops : ax_cy0 yX10_drops 1 := by
  unfold ax_cy0
  exact ⟨by decide +kernel, by decide +kernel, by decide +kernel⟩
theorem cy_X10_ends : ax_cy0 yX10_ends 1 := by
  unfold ax_cy0
  exact ⟨by decide +kernel, by decide +kernel, by decide +kernel⟩
theorem cy_X10_faultDepth : ax_cy0 yX10_faultDepth 0 := by
  unfold ax_cy0
  exact ⟨by decide +kernel, by decide +kernel, by decide +kernel⟩
theorem cy_X10_faultPosition : ax_cy0 yX10_faultPosition 0 := by
  unfold ax_cy0
  exact ⟨by decide +kernel, by decide +kernel, by decide +kernel⟩
theorem cy_X10_find : ax_cy0 yX10_find 2 := by
  unfold ax_cy0
  exact ⟨by decide +kernel, by decide +kernel, by decide +kernel⟩
theorem cy_X10_first : ax_cy0 yX10_first 2 := by
  unfold ax_cy0
  exact ⟨by decide +kernel, by decide +kernel, by decide +kernel⟩
theorem cy_X10_here : ax_cy0 yX10_here 0 := by
  unfold ax_cy0
  exact ⟨by decide +kernel, by decide +kernel, by decide +kernel⟩
theorem cy_X10_high : ax_cy0 yX10_high 2 := by
  unfold ax_cy0
  exact ⟨by decide +kernel, by decide +kernel, by decide +kernel⟩
theorem cy_X10_in : ax_cy0 yX10_in 3 := by
  unfold ax_cy0
  exact ⟨by decide +kernel, by decide +kernel, by decide +kernel⟩
theorem cy_X10_init : ax_cy0 yX10_init 0 := by
  unfold ax_cy0
  exact ⟨by decide +kernel, by decide +kernel, by decide +kernel⟩
theorem cy_X10_input : ax_cy0 yX10_input 2 := by
  unfold ax_cy0
  exact ⟨by decide +kernel, by decide +kernel, by decide +kernel⟩
theorem cy_X10_isCached : ax_cy0 yX10_isCached 2 := by
  unfold ax_cy0
  exact ⟨by decide +kernel, by decide +kernel, by decide +kernel⟩
theorem cy_X10_isDigit : ax_cy0 yX10_isDigit 0 := by
  unfold ax_cy0
  exact ⟨by decide +kernel, by decide +kernel, by decide +kernel⟩
theorem cy_X10_isInRange : ax_cy0 yX10_isInRange 2 := by
  unfold ax_cy0
  exact ⟨by decide +kernel, by decide +kernel, by decide +kernel⟩
theorem cy_X10_isInput : ax_cy0 yX10_isInput 2 := by
  unfold ax_cy0
  exact ⟨by decide +kernel, by decide +kernel, by decide +kernel⟩
theorem cy_X10_isNode : ax_cy0 yX10_isNode 1 := by
  unfold ax_cy0
  exact ⟨by decide +kernel, by decide +kernel, by decide +kernel⟩
theorem cy_X10_isParameter : ax_cy0 yX10_isParameter 2 := by
  unfold ax_cy0
  exact ⟨by decide +kernel, by decide +kernel, by decide +kernel⟩
theorem cy_X10_isPicture : ax_cy0 yX10_isPicture 2 := by
  unfold ax_cy0
  exact ⟨by decide +kernel, by decide +kernel, by decide +kernel⟩
theorem cy_X10_isReady : ax_cy0 yX10_isReady 2 := by
  unfold ax_cy0
  exact ⟨by decide +kernel, by decide +kernel, by decide +kernel⟩
theorem cy_X10_isText : ax_cy0 yX10_isText 0 := by
  unfold ax_cy0
  exact ⟨by decide +kernel, by decide +kernel, by decide +kernel⟩
theorem cy_X10_keyed : ax_cy0 yX10_keyed 4 := by
  unfold ax_cy0
  exact ⟨by decide +kernel, by decide +kernel, by decide +kernel⟩
theorem cy_X10_kind : ax_cy0 yX10_kind 1 := by
  unfold ax_cy0
  exact ⟨by decide +kernel, by decide +kernel, by decide +kernel⟩
theorem cy_X10_kindHere : ax_cy0 yX10_kindHere 0 := by
  unfold ax_cy0
  exact ⟨by decide +kernel, by decide +kernel, by decide +kernel⟩
theorem cy_X10_limit : ax_cy0 yX10_limit 1 := by
  unfold ax_cy0
  exact ⟨by decide +kernel, by decide +kernel, by decide +kernel⟩
theorem cy_X10_low : ax_cy0 yX10_low 1 := by
  unfold ax_cy0
  exact ⟨by decide +kernel, by decide +kernel, by decide +kernel⟩
theorem cy_X10_made : ax_cy0 yX10_made 3 := by
  unfold ax_cy0
  exact ⟨by decide +kernel, by decide +kernel, by decide +kernel⟩
theorem cy_X10_makes : ax_cy0 yX10_makes 2 := by
  unfold ax_cy0
  exact ⟨by decide +kernel, by decide +kernel, by decide +kernel⟩
theorem cy_X10_makesRoom : ax_cy0 yX10_makesRoom 1 := by
  unfold ax_cy0
  exact ⟨by decide +kernel, by decide +kernel, by decide +kernel⟩
theorem cy_X10_more : ax_cy0 yX10_more 2 := by
  unfold ax_cy0
  exact ⟨by decide +kernel, by decide +kernel, by decide +kernel⟩
theorem cy_X10_node : ax_cy0 yX10_node 2 := by
  unfold ax_cy0
  exact ⟨by decide +kernel, by decide +kernel, by decide +kernel⟩
theorem cy_X10_nodeTells : ax_cy0 yX10_nodeTells 2 := by
  unfold ax_cy0
  exact ⟨by decide +kernel, by decide +kernel, by decide +kernel⟩
theorem cy_X10_nodes : ax_cy0 yX10_nodes 0 := by
  unfold ax_cy0
  exact ⟨by decide +kernel, by decide +kernel, by decide +kernel⟩
theorem cy_X10_number : ax_cy0 yX10_number 2 := by
  unfold ax_cy0
  exact ⟨by decide +kernel, by decide +kernel, by decide +kernel⟩
theorem cy_X10_oldest : ax_cy0 yX10_oldest 0 := by
  unfold ax_cy0
  exact ⟨by decide +kernel, by decide +kernel, by decide +kernel⟩
theorem cy_X10_parameter : ax_cy0 yX10_parameter 2 := by
  unfold ax_cy0
  exact ⟨by decide +kernel, by decide +kernel, by decide +kernel⟩
theorem cy_X10_picture : ax_cy0 yX10_picture 2 := by
  unfold ax_cy0
  exact ⟨by decide +kernel, by decide +kernel, by decide +kernel⟩
theorem cy_X10_placeOf : ax_cy0 yX10_placeOf 1 := by
  unfold ax_cy0
  exact ⟨by decide +kernel, by decide +kernel, by decide +kernel⟩
theorem cy_X10_restore : ax_cy0 yX10_restore 1 := by
  unfold ax_cy0
  exact ⟨by decide +kernel, by decide +kernel, by decide +kernel⟩
theorem cy_X10_save : ax_cy0 yX10_save 1 := by
  unfold ax_cy0
  exact ⟨by decide +kernel, by decide +kernel, by decide +kernel⟩
theorem cy_X10_scope : ax_cy0 yX10_scope 4 := by
  unfold ax_cy0
  exact ⟨by decide +kernel, by decide +kernel, by decide +kernel⟩
theorem cy_X10_seen : ax_cy0 yX10_seen 4 := by
  unfold ax_cy0
  exact ⟨by decide +kernel, by decide +kernel, by decide +kernel⟩
theorem cy_X10_set : ax_cy0 yX10_set 3 := by
  unfold ax_cy0
  exact ⟨by decide +kernel, by decide +kernel, by decide +kernel⟩
theorem cy_X10_setRange : ax_cy0 yX10_setRange 3 := by
  unfold ax_cy0
  exact ⟨by decide +kernel, by decide +kernel, by decide +kernel⟩
theorem cy_X10_setRoom : ax_cy0 yX10_setRoom 1 := by
  unfold ax_cy0
  exact ⟨by decide +kernel, by decide +kernel, by decide +kernel⟩
theorem cy_X10_size : ax_cy0 yX10_size 1 := by
  unfold ax_cy0
  exact ⟨by decide +kernel, by decide +kernel, by decide +kernel⟩
theorem cy_X10_sum : ax_cy0 yX10_sum 4 := by
  unfold ax_cy0
  exact ⟨by decide +kernel, by decide +kernel, by decide +kernel⟩
theorem cy_X10_sums : ax_cy0 yX10_sums 2 := by
  unfold ax_cy0
  exact ⟨by decide +kernel, by decide +kernel, by decide +kernel⟩
theorem cy_X10_takes : ax_cy0 yX10_takes 1 := by
  unfold ax_cy0
  exact ⟨by decide +kernel, by decide +kernel, by decide +kernel⟩
theorem cy_X10_tells : ax_cy0 yX10_tells 1 := by
  unfold ax_cy0
  exact ⟨by decide +kernel, by decide +kernel, by decide +kernel⟩
theorem cy_X10_uses : ax_cy0 yX10_uses 1 := by
  unfold ax_cy0
  exact ⟨by decide +kernel, by decide +kernel, by decide +kernel⟩
theorem cy_X10_value : ax_cy0 yX10_value 5 := by
  unfold ax_cy0
  exact ⟨by decide +kernel, by decide +kernel, by decide +kernel⟩
theorem cy_X10_voids : ax_cy0 yX10_voids 5 := by
  unfold ax_cy0
  exact ⟨by decide +kernel, by decide +kernel, by decide +kernel⟩
theorem cy_X1_add : ax_cy0 yX1_add 1 := by
  unfold ax_cy0
  exact ⟨by decide +kernel, by decide +kernel, by decide +kernel⟩
theorem cy_X1_addAll : ax_cy0 yX1_addAll 2 := by
  unfold ax_cy0
  exact ⟨by decide +kernel, by decide +kernel, by decide +kernel⟩
theorem cy_X1_arrange : ax_cy0 yX1_arrange 0 := by
  unfold ax_cy0
  exact ⟨by decide +kernel, by decide +kernel, by decide +kernel⟩
theorem cy_X1_copyFrom : ax_cy0 yX1_copyFrom 1 := by
  unfold ax_cy0
  exact ⟨by decide +kernel, by decide +kernel, by decide +kernel⟩
theorem cy_X1_dependents : ax_cy0 yX1_dependents 1 := by
  unfold ax_cy0
  exact ⟨by decide +kernel, by decide +kernel, by decide +kernel⟩
theorem cy_X1_depthBehindInputs : ax_cy0 yX1_depthBehindInputs 1 := by
  unfold ax_cy0
  exact ⟨by decide +kernel, by decide +kernel, by decide +kernel⟩
theorem cy_X1_firstReady : ax_cy0 yX1_firstReady 1 := by
  unfold ax_cy0
  exact ⟨by decide +kernel, by decide +kernel, by decide +kernel⟩
theorem cy_X1_has : ax_cy0 yX1_has 1 := by
  unfold ax_cy0
  exact ⟨by decide +kernel, by decide +kernel, by decide +kernel⟩
theorem cy_X1_hasInput : ax_cy0 yX1_hasInput 2 := by
  unfold ax_cy0
  exact ⟨by decide +kernel, by decide +kernel, by decide +kernel⟩
theorem cy_X1_hasParameter : ax_cy0 yX1_hasParameter 2 := by
  unfold ax_cy0
  exact ⟨by decide +kernel, by decide +kernel, by decide +kernel⟩
theorem cy_X1_init : ax_cy0 yX1_init 0 := by
  unfold ax_cy0
  exact ⟨by decide +kernel, by decide +kernel, by decide +kernel⟩
theorem cy_X1_link : ax_cy0 yX1_link 3 := by
  unfold ax_cy0
  exact ⟨by decide +kernel, by decide +kernel, by decide +kernel⟩
theorem cy_X1_removeAll : ax_cy0 yX1_removeAll 0 := by
  unfold ax_cy0
  exact ⟨by decide +kernel, by decide +kernel, by decide +kernel⟩
theorem cy_X2_atFirst : ax_cy0 yX2_atFirst 2 := by
  unfold ax_cy0
  exact ⟨by decide +kernel, by decide +kernel, by decide +kernel⟩
theorem cy_X2_entry : ax_cy0 yX2_entry 2 := by
  unfold ax_cy0
  exact ⟨by decide +kernel, by decide +kernel, by decide +kernel⟩
theorem cy_X2_highest : ax_cy0 yX2_highest 2 := by
  unfold ax_cy0
  exact ⟨by decide +kernel, by decide +kernel, by decide +kernel⟩
theorem cy_X2_inputs : ax_cy0 yX2_inputs 1 := by
  unfold ax_cy0
  exact ⟨by decide +kernel, by decide +kernel, by decide +kernel⟩
theorem cy_X2_lowest : ax_cy0 yX2_lowest 2 := by
  unfold ax_cy0
  exact ⟨by decide +kernel, by decide +kernel, by decide +kernel⟩
theorem cy_X2_numbers : ax_cy0 yX2_numbers 1 := by
  unfold ax_cy0
  exact ⟨by decide +kernel, by decide +kernel, by decide +kernel⟩
theorem cy_X2_parameters : ax_cy0 yX2_parameters 1 := by
  unfold ax_cy0
  exact ⟨by decide +kernel, by decide +kernel, by decide +kernel⟩
theorem cy_X3_copyFrom : ax_cy0 yX3_copyFrom 1 := by
  unfold ax_cy0
  exact ⟨by decide +kernel, by decide +kernel, by decide +kernel⟩
theorem cy_X3_init : ax_cy0 yX3_init 0 := by
  unfold ax_cy0
  exact ⟨by decide +kernel, by decide +kernel, by decide +kernel⟩
theorem cy_X3_inputSet : ax_cy0 yX3_inputSet 0 := by
  unfold ax_cy0
  exact ⟨by decide +kernel, by decide +kernel, by decide +kernel⟩
theorem cy_X3_reset : ax_cy0 yX3_reset 1 := by
  unfold ax_cy0
  exact ⟨by decide +kernel, by decide +kernel, by decide +kernel⟩
theorem cy_X4_mask : ax_cy0 yX4_mask 4 := by
  unfold ax_cy0
  exact ⟨by decide +kernel, by decide +kernel, by decide +kernel⟩
theorem cy_X4_paint : ax_cy0 yX4_paint 6 := by
  unfold ax_cy0
  exact ⟨by decide +kernel, by decide +kernel, by decide +kernel⟩
theorem cy_X4_paintAmounts : ax_cy0 yX4_paintAmounts 3 := by
  unfold ax_cy0
  exact ⟨by decide +kernel, by decide +kernel, by decide +kernel⟩
theorem cy_X4_paintBlend : ax_cy0 yX4_paintBlend 4 := by
  unfold ax_cy0
  exact ⟨by decide +kernel, by decide +kernel, by decide +kernel⟩
theorem cy_X4_paintBlur : ax_cy0 yX4_paintBlur 3 := by
  unfold ax_cy0
  exact ⟨by decide +kernel, by decide +kernel, by decide +kernel⟩
theorem cy_X4_paintInverse : ax_cy0 yX4_paintInverse 2 := by
  unfold ax_cy0
  exact ⟨by decide +kernel, by decide +kernel, by decide +kernel⟩
theorem cy_X4_paintKey : ax_cy0 yX4_paintKey 3 := by
  unfold ax_cy0
  exact ⟨by decide +kernel, by decide +kernel, by decide +kernel⟩
theorem cy_X4_paintSource : ax_cy0 yX4_paintSource 3 := by
  unfold ax_cy0
  exact ⟨by decide +kernel, by decide +kernel, by decide +kernel⟩
theorem cy_X5_init : ax_cy0 yX5_init 0 := by
  unfold ax_cy0
  exact ⟨by decide +kernel, by decide +kernel, by decide +kernel⟩
theorem cy_X6_expect : ax_cy0 yX6_expect 1 := by
  unfold ax_cy0
  exact ⟨by decide +kernel, by decide +kernel, by decide +kernel⟩
theorem cy_X6_expression : ax_cy0 yX6_expression 1 := by
  unfold ax_cy0
  exact ⟨by decide +kernel, by decide +kernel, by decide +kernel⟩
theorem cy_X6_fill : ax_cy0 yX6_fill 5 := by
  unfold ax_cy0
  exact ⟨by decide +kernel, by decide +kernel, by decide +kernel⟩
theorem cy_X6_init : ax_cy0 yX6_init 0 := by
  unfold ax_cy0
  exact ⟨by decide +kernel, by decide +kernel, by decide +kernel⟩
theorem cy_X6_kindHere : ax_cy0 yX6_kindHere 0 := by
  unfold ax_cy0
  exact ⟨by decide +kernel, by decide +kernel, by decide +kernel⟩
theorem cy_X6_newNode : ax_cy0 yX6_newNode 2 := by
  unfold ax_cy0
  exact ⟨by decide +kernel, by decide +kernel, by decide +kernel⟩
theorem cy_X6_nextExpression : ax_cy0 yX6_nextExpression 1 := by
  unfold ax_cy0
  exact ⟨by decide +kernel, by decide +kernel, by decide +kernel⟩
theorem cy_X6_read : ax_cy0 yX6_read 1 := by
  unfold ax_cy0
  exact ⟨by decide +kernel, by decide +kernel, by decide +kernel⟩
theorem cy_X6_readDigits : ax_cy0 yX6_readDigits 0 := by
  unfold ax_cy0
  exact ⟨by decide +kernel, by decide +kernel, by decide +kernel⟩
theorem cy_X6_readNumber : ax_cy0 yX6_readNumber 2 := by
  unfold ax_cy0
  exact ⟨by decide +kernel, by decide +kernel, by decide +kernel⟩
theorem cy_X7_different : ax_cy0 yX7_different 2 := by
  unfold ax_cy0
  exact ⟨by decide +kernel, by decide +kernel, by decide +kernel⟩
theorem cy_X7_greatest : ax_cy0 yX7_greatest 2 := by
  unfold ax_cy0
  exact ⟨by decide +kernel, by decide +kernel, by decide +kernel⟩
theorem cy_X7_greatestDifference : ax_cy0 yX7_greatestDifference 2 := by
  unfold ax_cy0
  exact ⟨by decide +kernel, by decide +kernel, by decide +kernel⟩
theorem cy_X7_inPart : ax_cy0 yX7_inPart 3 := by
  unfold ax_cy0
  exact ⟨by decide +kernel, by decide +kernel, by decide +kernel⟩
theorem cy_X7_least : ax_cy0 yX7_least 2 := by
  unfold ax_cy0
  exact ⟨by decide +kernel, by decide +kernel, by decide +kernel⟩
theorem cy_X7_standsBefore : ax_cy0 yX7_standsBefore 3 := by
  unfold ax_cy0
  exact ⟨by decide +kernel, by decide +kernel, by decide +kernel⟩
theorem cy_X7_total : ax_cy0 yX7_total 2 := by
  unfold ax_cy0
  exact ⟨by decide +kernel, by decide +kernel, by decide +kernel⟩
theorem cy_X8_at : ax_cy0 yX8_at 1 := by
  unfold ax_cy0
  exact ⟨by decide +kernel, by decide +kernel, by decide +kernel⟩
theorem cy_X8_empty : ax_cy0 yX8_empty 0 := by
  unfold ax_cy0
  exact ⟨by decide +kernel, by decide +kernel, by decide +kernel⟩
theorem cy_X8_init : ax_cy0 yX8_init 0 := by
  unfold ax_cy0
  exact ⟨by decide +kernel, by decide +kernel, by decide +kernel⟩
theorem cy_X8_openAhead : ax_cy0 yX8_openAhead 1 := by
  unfold ax_cy0
  exact ⟨by decide +kernel, by decide +kernel, by decide +kernel⟩
theorem cy_X8_put : ax_cy0 yX8_put 1 := by
  unfold ax_cy0
  exact ⟨by decide +kernel, by decide +kernel, by decide +kernel⟩
theorem cy_X9_addNode : ax_cy0 yX9_addNode 1 := by
  unfold ax_cy0
  exact ⟨by decide +kernel, by decide +kernel, by decide +kernel⟩
theorem cy_X9_append : ax_cy0 yX9_append 1 := by
  unfold ax_cy0
  exact ⟨by decide +kernel, by decide +kernel, by decide +kernel⟩
theorem cy_X9_ask : ax_cy0 yX9_ask 3 := by
  unfold ax_cy0
  exact ⟨by decide +kernel, by decide +kernel, by decide +kernel⟩
theorem cy_X9_build : ax_cy0 yX9_build 0 := by
  unfold ax_cy0
  exact ⟨by decide +kernel, by decide +kernel, by decide +kernel⟩
theorem cy_X9_checksum : ax_cy0 yX9_checksum 0 := by
  unfold ax_cy0
  exact ⟨by decide +kernel, by decide +kernel, by decide +kernel⟩
theorem cy_X9_clear : ax_cy0 yX9_clear 0 := by
  unfold ax_cy0
  exact ⟨by decide +kernel, by decide +kernel, by decide +kernel⟩
theorem cy_X9_clearText : ax_cy0 yX9_clearText 0 := by
  unfold ax_cy0
  exact ⟨by decide +kernel, by decide +kernel, by decide +kernel⟩
theorem cy_X9_compare : ax_cy0 yX9_compare 3 := by
  unfold ax_cy0
  exact ⟨by decide +kernel, by decide +kernel, by decide +kernel⟩
theorem cy_X9_connect : ax_cy0 yX9_connect 3 := by
  unfold ax_cy0
  exact ⟨by decide +kernel, by decide +kernel, by decide +kernel⟩
theorem cy_X9_contains : ax_cy0 yX9_contains 2 := by
  unfold ax_cy0
  exact ⟨by decide +kernel, by decide +kernel, by decide +kernel⟩
theorem cy_X9_count : ax_cy0 yX9_count 1 := by
  unfold ax_cy0
  exact ⟨by decide +kernel, by decide +kernel, by decide +kernel⟩
theorem cy_X9_faultDepth : ax_cy0 yX9_faultDepth 0 := by
  unfold ax_cy0
  exact ⟨by decide +kernel, by decide +kernel, by decide +kernel⟩
theorem cy_X9_faultPosition : ax_cy0 yX9_faultPosition 0 := by
  unfold ax_cy0
  exact ⟨by decide +kernel, by decide +kernel, by decide +kernel⟩
theorem cy_X9_init : ax_cy0 yX9_init 0 := by
  unfold ax_cy0
  exact ⟨by decide +kernel, by decide +kernel, by decide +kernel⟩
theorem cy_X9_input : ax_cy0 yX9_input 2 := by
  unfold ax_cy0
  exact ⟨by decide +kernel, by decide +kernel, by decide +kernel⟩
theorem cy_X9_isCached : ax_cy0 yX9_isCached 2 := by
  unfold ax_cy0
  exact ⟨by decide +kernel, by decide +kernel, by decide +kernel⟩
theorem cy_X9_isChannel : ax_cy0 yX9_isChannel 1 := by
  unfold ax_cy0
  exact ⟨by decide +kernel, by decide +kernel, by decide +kernel⟩
theorem cy_X9_isFrame : ax_cy0 yX9_isFrame 1 := by
  unfold ax_cy0
  exact ⟨by decide +kernel, by decide +kernel, by decide +kernel⟩
theorem cy_X9_isIn : ax_cy0 yX9_isIn 3 := by
  unfold ax_cy0
  exact ⟨by decide +kernel, by decide +kernel, by decide +kernel⟩
theorem cy_X9_mix : ax_cy0 yX9_mix 2 := by
  unfold ax_cy0
  exact ⟨by decide +kernel, by decide +kernel, by decide +kernel⟩
theorem cy_X9_mixNode : ax_cy0 yX9_mixNode 2 := by
  unfold ax_cy0
  exact ⟨by decide +kernel, by decide +kernel, by decide +kernel⟩
theorem cy_X9_node : ax_cy0 yX9_node 2 := by
  unfold ax_cy0
  exact ⟨by decide +kernel, by decide +kernel, by decide +kernel⟩
theorem cy_X9_nodes : ax_cy0 yX9_nodes 0 := by
  unfold ax_cy0
  exact ⟨by decide +kernel, by decide +kernel, by decide +kernel⟩
theorem cy_X9_parameter : ax_cy0 yX9_parameter 2 := by
  unfold ax_cy0
  exact ⟨by decide +kernel, by decide +kernel, by decide +kernel⟩
theorem cy_X9_restore : ax_cy0 yX9_restore 1 := by
  unfold ax_cy0
  exact ⟨by decide +kernel, by decide +kernel, by decide +kernel⟩
theorem cy_X9_save : ax_cy0 yX9_save 1 := by
  unfold ax_cy0
  exact ⟨by decide +kernel, by decide +kernel, by decide +kernel⟩
theorem cy_X9_scope : ax_cy0 yX9_scope 4 := by
  unfold ax_cy0
  exact ⟨by decide +kernel, by decide +kernel, by decide +kernel⟩
theorem cy_X9_set : ax_cy0 yX9_set 3 := by
  unfold ax_cy0
  exact ⟨by decide +kernel, by decide +kernel, by decide +kernel⟩
theorem cy_X9_setRange : ax_cy0 yX9_setRange 3 := by
  unfold ax_cy0
  exact ⟨by decide +kernel, by decide +kernel, by decide +kernel⟩
theorem cy_X9_setRoom : ax_cy0 yX9_setRoom 1 := by
  unfold ax_cy0
  exact ⟨by decide +kernel, by decide +kernel, by decide +kernel⟩
theorem cy_X9_sum : ax_cy0 yX9_sum 4 := by
  unfold ax_cy0
  exact ⟨by decide +kernel, by decide +kernel, by decide +kernel⟩
theorem cy_X9_value : ax_cy0 yX9_value 5 := by
  unfold ax_cy0
  exact ⟨by decide +kernel, by decide +kernel, by decide +kernel⟩
