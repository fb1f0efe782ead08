theorem cy_J0_coder_7d493 : ax_cy0 yJ0_coder_7d493 0 := by
  unfold ax_cy0
  exact ⟨by decide +kernel, by decide +kernel, by decide +kernel⟩
theorem cy_J0_indexOf_0f7a4 : ax_cy0 yJ0_indexOf_0f7a4 1 := by
  unfold ax_cy0
  exact ⟨by decide +kernel, by decide +kernel, by decide +kernel⟩
theorem cy_J0_indexOf_7cf53 : ax_cy0 yJ0_indexOf_7cf53 2 := by
  unfold ax_cy0
  exact ⟨by decide +kernel, by decide +kernel, by decide +kernel⟩
theorem cy_J0_isLatin1_aae02 : ax_cy0 yJ0_isLatin1_aae02 0 := by
  unfold ax_cy0
  exact ⟨by decide +kernel, by decide +kernel, by decide +kernel⟩
theorem cy_J0_length_8abf5 : ax_cy0 yJ0_length_8abf5 0 := by
  unfold ax_cy0
  exact ⟨by decide +kernel, by decide +kernel, by decide +kernel⟩
theorem cy_J1_canEncode_9a6ad : ax_cy0 yJ1_canEncode_9a6ad 1 := by
  unfold ax_cy0
  exact ⟨by decide +kernel, by decide +kernel, by decide +kernel⟩
theorem cy_J1_indexOfChar_4cfef : ax_cy0 yJ1_indexOfChar_4cfef 4 := by
  unfold ax_cy0
  exact ⟨by decide +kernel, by decide +kernel, by decide +kernel⟩
theorem cy_J1_indexOf_4cfef : ax_cy0 yJ1_indexOf_4cfef 4 := by
  unfold ax_cy0
  exact ⟨by decide +kernel, by decide +kernel, by decide +kernel⟩
theorem cy_J6_bitCount_0f7a4 : ax_cy0 yJ6_bitCount_0f7a4 1 := by
  unfold ax_cy0
  exact ⟨by decide +kernel, by decide +kernel, by decide +kernel⟩
theorem cy_L_adds : ax_cy0 yL_adds 6 := by
  unfold ax_cy0
  exact ⟨by decide +kernel, by decide +kernel, by decide +kernel⟩
theorem cy_L_cell : ax_cy0 yL_cell 2 := by
  unfold ax_cy0
  exact ⟨by decide +kernel, by decide +kernel, by decide +kernel⟩
theorem cy_L_depends : ax_cy0 yL_depends 4 := by
  unfold ax_cy0
  exact ⟨by decide +kernel, by decide +kernel, by decide +kernel⟩
theorem cy_L_high : ax_cy0 yL_high 2 := by
  unfold ax_cy0
  exact ⟨by decide +kernel, by decide +kernel, by decide +kernel⟩
theorem cy_L_inputs : ax_cy0 yL_inputs 1 := by
  unfold ax_cy0
  exact ⟨by decide +kernel, by decide +kernel, by decide +kernel⟩
theorem cy_L_parameters : ax_cy0 yL_parameters 1 := by
  unfold ax_cy0
  exact ⟨by decide +kernel, by decide +kernel, by decide +kernel⟩
theorem cy_L_refuses : ax_cy0 yL_refuses 2 := by
  unfold ax_cy0
  exact ⟨by decide +kernel, by decide +kernel, by decide +kernel⟩
theorem cy_L_same : ax_cy0 yL_same 4 := by
  unfold ax_cy0
  exact ⟨by decide +kernel, by decide +kernel, by decide +kernel⟩
theorem cy_L_sound : ax_cy0 yL_sound 2 := by
  unfold ax_cy0
  exact ⟨by decide +kernel, by decide +kernel, by decide +kernel⟩
theorem cy_X0_admit : ax_cy0 yX0_admit 2 := by
  unfold ax_cy0
  exact ⟨by decide +kernel, by decide +kernel, by decide +kernel⟩
theorem cy_X0_changeRoom : ax_cy0 yX0_changeRoom 1 := by
  unfold ax_cy0
  exact ⟨by decide +kernel, by decide +kernel, by decide +kernel⟩
theorem cy_X0_dropOldest : ax_cy0 yX0_dropOldest 0 := by
  unfold ax_cy0
  exact ⟨by decide +kernel, by decide +kernel, by decide +kernel⟩
theorem cy_X0_empty : ax_cy0 yX0_empty 0 := by
  unfold ax_cy0
  exact ⟨by decide +kernel, by decide +kernel, by decide +kernel⟩
theorem cy_X0_find : ax_cy0 yX0_find 2 := by
  unfold ax_cy0
  exact ⟨by decide +kernel, by decide +kernel, by decide +kernel⟩
theorem cy_X0_hit : ax_cy0 yX0_hit 1 := by
  unfold ax_cy0
  exact ⟨by decide +kernel, by decide +kernel, by decide +kernel⟩
theorem cy_X0_init : ax_cy0 yX0_init 0 := by
  unfold ax_cy0
  exact ⟨by decide +kernel, by decide +kernel, by decide +kernel⟩
theorem cy_X0_makeVoid : ax_cy0 yX0_makeVoid 3 := by
  unfold ax_cy0
  exact ⟨by decide +kernel, by decide +kernel, by decide +kernel⟩
theorem cy_X0_makeVoidInOne : ax_cy0 yX0_makeVoidInOne 5 := by
  unfold ax_cy0
  exact ⟨by decide +kernel, by decide +kernel, by decide +kernel⟩
theorem cy_X0_remove : ax_cy0 yX0_remove 1 := by
  unfold ax_cy0
  exact ⟨by decide +kernel, by decide +kernel, by decide +kernel⟩
theorem cy_X0_touch : ax_cy0 yX0_touch 1 := by
  unfold ax_cy0
  exact ⟨by decide +kernel, by decide +kernel, by decide +kernel⟩
theorem cy_X1_add : ax_cy0 yX1_add 1 := by
  unfold ax_cy0
  exact ⟨by decide +kernel, by decide +kernel, by decide +kernel⟩
theorem cy_X1_addAll : ax_cy0 yX1_addAll 2 := by
  unfold ax_cy0
  exact ⟨by decide +kernel, by decide +kernel, by decide +kernel⟩
theorem cy_X1_arrange : ax_cy0 yX1_arrange 0 := by
  unfold ax_cy0
  exact ⟨by decide +kernel, by decide +kernel, by decide +kernel⟩
theorem cy_X1_copyFrom : ax_cy0 yX1_copyFrom 1 := by
  unfold ax_cy0
  exact ⟨by decide +kernel, by decide +kernel, by decide +kernel⟩
theorem cy_X1_dependents : ax_cy0 yX1_dependents 1 := by
  unfold ax_cy0
  exact ⟨by decide +kernel, by decide +kernel, by decide +kernel⟩
theorem cy_X1_depthBehindInputs : ax_cy0 yX1_depthBehindInputs 1 := by
  unfold ax_cy0
  exact ⟨by decide +kernel, by decide +kernel, by decide +kernel⟩
theorem cy_X1_firstReady : ax_cy0 yX1_firstReady 1 := by
  unfold ax_cy0
  exact ⟨by decide +kernel, by decide +kernel, by decide +kernel⟩
theorem cy_X1_has : ax_cy0 yX1_has 1 := by
  unfold ax_cy0
  exact ⟨by decide +kernel, by decide +kernel, by decide +kernel⟩
theorem cy_X1_hasInput : ax_cy0 yX1_hasInput 2 := by
  unfold ax_cy0
  exact ⟨by decide +kernel, by decide +kernel, by decide +kernel⟩
theorem cy_X1_hasParameter : ax_cy0 yX1_hasParameter 2 := by
  unfold ax_cy0
  exact ⟨by decide +kernel, by decide +kernel, by decide +kernel⟩
theorem cy_X1_init : ax_cy0 yX1_init 0 := by
  unfold ax_cy0
  exact ⟨by decide +kernel, by decide +kernel, by decide +kernel⟩
theorem cy_X1_link : ax_cy0 yX1_link 3 := by
  unfold ax_cy0
  exact ⟨by decide +kernel, by decide +kernel, by decide +kernel⟩
theorem cy_X1_removeAll : ax_cy0 yX1_removeAll 0 := by
  unfold ax_cy0
  exact ⟨by decide +kernel, by decide +kernel, by decide +kernel⟩
theorem cy_X2_atFirst : ax_cy0 yX2_atFirst 2 := by
  unfold ax_cy0
  exact ⟨by decide +kernel, by decide +kernel, by decide +kernel⟩
theorem cy_X2_entry : ax_cy0 yX2_entry 2 := by
  unfold ax_cy0
  exact ⟨by decide +kernel, by decide +kernel, by decide +kernel⟩
theorem cy_X2_highest : ax_cy0 yX2_highest 2 := by
  unfold ax_cy0
  exact ⟨by decide +kernel, by decide +kernel, by decide +kernel⟩
theorem cy_X2_inputs : ax_cy0 yX2_inputs 1 := by
  unfold ax_cy0
  exact ⟨by decide +kernel, by decide +kernel, by decide +kernel⟩
theorem cy_X2_lowest : ax_cy0 yX2_lowest 2 := by
  unfold ax_cy0
  exact ⟨by decide +kernel, by decide +kernel, by decide +kernel⟩
theorem cy_X2_numbers : ax_cy0 yX2_numbers 1 := by
  unfold ax_cy0
  exact ⟨by decide +kernel, by decide +kernel, by decide +kernel⟩
theorem cy_X2_parameters : ax_cy0 yX2_parameters 1 := by
  unfold ax_cy0
  exact ⟨by decide +kernel, by decide +kernel, by decide +kernel⟩
theorem cy_X3_copyFrom : ax_cy0 yX3_copyFrom 1 := by
  unfold ax_cy0
  exact ⟨by decide +kernel, by decide +kernel, by decide +kernel⟩
theorem cy_X3_init : ax_cy0 yX3_init 0 := by
  unfold ax_cy0
  exact ⟨by decide +kernel, by decide +kernel, by decide +kernel⟩
theorem cy_X3_inputSet : ax_cy0 yX3_inputSet 0 := by
  unfold ax_cy0
  exact ⟨by decide +kernel, by decide +kernel, by decide +kernel⟩
theorem cy_X3_reset : ax_cy0 yX3_reset 1 := by
  unfold ax_cy0
  exact ⟨by decide +kernel, by decide +kernel, by decide +kernel⟩
theorem cy_X4_mask : ax_cy0 yX4_mask 4 := by
  unfold ax_cy0
  exact ⟨by decide +kernel, by decide +kernel, by decide +kernel⟩
theorem cy_X4_paint : ax_cy0 yX4_paint 6 := by
  unfold ax_cy0
  exact ⟨by decide +kernel, by decide +kernel, by decide +kernel⟩
theorem cy_X4_paintAmounts : ax_cy0 yX4_paintAmounts 3 := by
  unfold ax_cy0
  exact ⟨by decide +kernel, by decide +kernel, by decide +kernel⟩
theorem cy_X4_paintBlend : ax_cy0 yX4_paintBlend 4 := by
  unfold ax_cy0
  exact ⟨by decide +kernel, by decide +kernel, by decide +kernel⟩
theorem cy_X4_paintBlur : ax_cy0 yX4_paintBlur 3 := by
  unfold ax_cy0
  exact ⟨by decide +kernel, by decide +kernel, by decide +kernel⟩
theorem cy_X4_paintInverse : ax_cy0 yX4_paintInverse 2 := by
  unfold ax_cy0
  exact ⟨by decide +kernel, by decide +kernel, by decide +kernel⟩
theorem cy_X4_paintKey : ax_cy0 yX4_paintKey 3 := by
  unfold ax_cy0
  exact ⟨by decide +kernel, by decide +kernel, by decide +kernel⟩
theorem cy_X4_paintSource : ax_cy0 yX4_paintSource 3 := by
  unfold ax_cy0
  exact ⟨by decide +kernel, by decide +kernel, by decide +kernel⟩
theorem cy_X5_init : ax_cy0 yX5_init 0 := by
  unfold ax_cy0
  exact ⟨by decide +kernel, by decide +kernel, by decide +kernel⟩
theorem cy_X6_expect : ax_cy0 yX6_expect 1 := by
  unfold ax_cy0
  exact ⟨by decide +kernel, by decide +kernel, by decide +kernel⟩
theorem cy_X6_expression : ax_cy0 yX6_expression 1 := by
  unfold ax_cy0
  exact ⟨by decide +kernel, by decide +kernel, by decide +kernel⟩
theorem cy_X6_fill : ax_cy0 yX6_fill 5 := by
  unfold ax_cy0
  exact ⟨by decide +kernel, by decide +kernel, by decide +kernel⟩
theorem cy_X6_init : ax_cy0 yX6_init 0 := by
  unfold ax_cy0
  exact ⟨by decide +kernel, by decide +kernel, by decide +kernel⟩
theorem cy_X6_kindHere : ax_cy0 yX6_kindHere 0 := by
  unfold ax_cy0
  exact ⟨by decide +kernel, by decide +kernel, by decide +kernel⟩
theorem cy_X6_newNode : ax_cy0 yX6_newNode 2 := by
  unfold ax_cy0
  exact ⟨by decide +kernel, by decide +kernel, by decide +kernel⟩
theorem cy_X6_nextExpression : ax_cy0 yX6_nextExpression 1 := by
  unfold ax_cy0
  exact ⟨by decide +kernel, by decide +kernel, by decide +kernel⟩
theorem cy_X6_read : ax_cy0 yX6_read 1 := by
  unfold ax_cy0
  exact ⟨by decide +kernel, by decide +kernel, by decide +kernel⟩
theorem cy_X6_readDigits : ax_cy0 yX6_readDigits 0 := by
  unfold ax_cy0
  exact ⟨by decide +kernel, by decide +kernel, by decide +kernel⟩
theorem cy_X6_readNumber : ax_cy0 yX6_readNumber 2 := by
  unfold ax_cy0
  exact ⟨by decide +kernel, by decide +kernel, by decide +kernel⟩
theorem cy_X7_different : ax_cy0 yX7_different 2 := by
  unfold ax_cy0
  exact ⟨by decide +kernel, by decide +kernel, by decide +kernel⟩
theorem cy_X7_greatest : ax_cy0 yX7_greatest 2 := by
  unfold ax_cy0
  exact ⟨by decide +kernel, by decide +kernel, by decide +kernel⟩
theorem cy_X7_greatestDifference : ax_cy0 yX7_greatestDifference 2 := by
  unfold ax_cy0
  exact ⟨by decide +kernel, by decide +kernel, by decide +kernel⟩
theorem cy_X7_inPart : ax_cy0 yX7_inPart 3 := by
  unfold ax_cy0
  exact ⟨by decide +kernel, by decide +kernel, by decide +kernel⟩
theorem cy_X7_least : ax_cy0 yX7_least 2 := by
  unfold ax_cy0
  exact ⟨by decide +kernel, by decide +kernel, by decide +kernel⟩
theorem cy_X7_standsBefore : ax_cy0 yX7_standsBefore 3 := by
  unfold ax_cy0
  exact ⟨by decide +kernel, by decide +kernel, by decide +kernel⟩
theorem cy_X7_total : ax_cy0 yX7_total 2 := by
  unfold ax_cy0
  exact ⟨by decide +kernel, by decide +kernel, by decide +kernel⟩
theorem cy_X8_at : ax_cy0 yX8_at 1 := by
  unfold ax_cy0
  exact ⟨by decide +kernel, by decide +kernel, by decide +kernel⟩
theorem cy_X8_init : ax_cy0 yX8_init 0 := by
  unfold ax_cy0
  exact ⟨by decide +kernel, by decide +kernel, by decide +kernel⟩
theorem cy_X8_put : ax_cy0 yX8_put 1 := by
  unfold ax_cy0
  exact ⟨by decide +kernel, by decide +kernel, by decide +kernel⟩
theorem cy_X9_addNode : ax_cy0 yX9_addNode 1 := by
  unfold ax_cy0
  exact ⟨by decide +kernel, by decide +kernel, by decide +kernel⟩
theorem cy_X9_append : ax_cy0 yX9_append 1 := by
  unfold ax_cy0
  exact ⟨by decide +kernel, by decide +kernel, by decide +kernel⟩
theorem cy_X9_ask : ax_cy0 yX9_ask 3 := by
  unfold ax_cy0
  exact ⟨by decide +kernel, by decide +kernel, by decide +kernel⟩
theorem cy_X9_build : ax_cy0 yX9_build 0 := by
  unfold ax_cy0
  exact ⟨by decide +kernel, by decide +kernel, by decide +kernel⟩
theorem cy_X9_checksum : ax_cy0 yX9_checksum 0 := by
  unfold ax_cy0
  exact ⟨by decide +kernel, by decide +kernel, by decide +kernel⟩
theorem cy_X9_clear : ax_cy0 yX9_clear 0 := by
  unfold ax_cy0
  exact ⟨by decide +kernel, by decide +kernel, by decide +kernel⟩
theorem cy_X9_compare : ax_cy0 yX9_compare 3 := by
  unfold ax_cy0
  exact ⟨by decide +kernel, by decide +kernel, by decide +kernel⟩
theorem cy_X9_connect : ax_cy0 yX9_connect 3 := by
  unfold ax_cy0
  exact ⟨by decide +kernel, by decide +kernel, by decide +kernel⟩
theorem cy_X9_contains : ax_cy0 yX9_contains 2 := by
  unfold ax_cy0
  exact ⟨by decide +kernel, by decide +kernel, by decide +kernel⟩
theorem cy_X9_count : ax_cy0 yX9_count 1 := by
  unfold ax_cy0
  exact ⟨by decide +kernel, by decide +kernel, by decide +kernel⟩
theorem cy_X9_init : ax_cy0 yX9_init 0 := by
  unfold ax_cy0
  exact ⟨by decide +kernel, by decide +kernel, by decide +kernel⟩
theorem cy_X9_input : ax_cy0 yX9_input 2 := by
  unfold ax_cy0
  exact ⟨by decide +kernel, by decide +kernel, by decide +kernel⟩
theorem cy_X9_isCached : ax_cy0 yX9_isCached 2 := by
  unfold ax_cy0
  exact ⟨by decide +kernel, by decide +kernel, by decide +kernel⟩
theorem cy_X9_isChannel : ax_cy0 yX9_isChannel 1 := by
  unfold ax_cy0
  exact ⟨by decide +kernel, by decide +kernel, by decide +kernel⟩
theorem cy_X9_isFrame : ax_cy0 yX9_isFrame 1 := by
  unfold ax_cy0
  exact ⟨by decide +kernel, by decide +kernel, by decide +kernel⟩
theorem cy_X9_isIn : ax_cy0 yX9_isIn 3 := by
  unfold ax_cy0
  exact ⟨by decide +kernel, by decide +kernel, by decide +kernel⟩
theorem cy_X9_make : ax_cy0 yX9_make 4 := by
  unfold ax_cy0
  exact ⟨by decide +kernel, by decide +kernel, by decide +kernel⟩
theorem cy_X9_mix : ax_cy0 yX9_mix 2 := by
  unfold ax_cy0
  exact ⟨by decide +kernel, by decide +kernel, by decide +kernel⟩
theorem cy_X9_mixNode : ax_cy0 yX9_mixNode 2 := by
  unfold ax_cy0
  exact ⟨by decide +kernel, by decide +kernel, by decide +kernel⟩
theorem cy_X9_node : ax_cy0 yX9_node 2 := by
  unfold ax_cy0
  exact ⟨by decide +kernel, by decide +kernel, by decide +kernel⟩
theorem cy_X9_nodes : ax_cy0 yX9_nodes 0 := by
  unfold ax_cy0
  exact ⟨by decide +kernel, by decide +kernel, by decide +kernel⟩
theorem cy_X9_parameter : ax_cy0 yX9_parameter 2 := by
  unfold ax_cy0
  exact ⟨by decide +kernel, by decide +kernel, by decide +kernel⟩
theorem cy_X9_restore : ax_cy0 yX9_restore 1 := by
  unfold ax_cy0
  exact ⟨by decide +kernel, by decide +kernel, by decide +kernel⟩
theorem cy_X9_save : ax_cy0 yX9_save 1 := by
  unfold ax_cy0
  exact ⟨by decide +kernel, by decide +kernel, by decide +kernel⟩
theorem cy_X9_scope : ax_cy0 yX9_scope 4 := by
  unfold ax_cy0
  exact ⟨by decide +kernel, by decide +kernel, by decide +kernel⟩
theorem cy_X9_set : ax_cy0 yX9_set 3 := by
  unfold ax_cy0
  exact ⟨by decide +kernel, by decide +kernel, by decide +kernel⟩
theorem cy_X9_setRange : ax_cy0 yX9_setRange 3 := by
  unfold ax_cy0
  exact ⟨by decide +kernel, by decide +kernel, by decide +kernel⟩
theorem cy_X9_setRoom : ax_cy0 yX9_setRoom 1 := by
  unfold ax_cy0
  exact ⟨by decide +kernel, by decide +kernel, by decide +kernel⟩
theorem cy_X9_sum : ax_cy0 yX9_sum 4 := by
  unfold ax_cy0
  exact ⟨by decide +kernel, by decide +kernel, by decide +kernel⟩
theorem cy_X9_value : ax_cy0 yX9_value 5 := by
  unfold ax_cy0
  exact ⟨by decide +kernel, by decide +kernel, by decide +kernel⟩
