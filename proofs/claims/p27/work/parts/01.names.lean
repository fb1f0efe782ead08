-- ===== PART A: goes FIRST, ahead of the names: the tables' words, and 'selects' of the private methods out of them =====
/-- a private method of a class that the tables say can be made, by its rows of tables_1 -/
def lw_okq (q : MethodName × Nat) : Prop := (q.1.cls ≠ "java/lang/invoke/MethodHandle" ∧ q.1.cls ≠ "java/lang/invoke/VarHandle") ∧ Cond.instantiable q.1.cls q.2 ∈ tables_1 ∧ Cond.privateMethod q.1 ∈ tables_1 ∧ Cond.instanceMethod q.1 ∈ tables_1
theorem lw_p0 : lw_okq (⟨"GradeGraph$Graph", "arrange", "()V"⟩, 5) := ⟨⟨by decide +kernel, by decide +kernel⟩, List.mem_of_getElem? (i := 28) (by decide +kernel), List.mem_of_getElem? (i := 270) (by decide +kernel), List.mem_of_getElem? (i := 271) (by decide +kernel)⟩
theorem lw_p1 : lw_okq (⟨"GradeGraph$Graph", "firstReady", "(I)I"⟩, 5) := ⟨⟨by decide +kernel, by decide +kernel⟩, List.mem_of_getElem? (i := 28) (by decide +kernel), List.mem_of_getElem? (i := 274) (by decide +kernel), List.mem_of_getElem? (i := 275) (by decide +kernel)⟩
theorem lw_p2 : lw_okq (⟨"GradeGraph$Graph", "depthBehindInputs", "(LGradeGraph$Node;)I"⟩, 5) := ⟨⟨by decide +kernel, by decide +kernel⟩, List.mem_of_getElem? (i := 28) (by decide +kernel), List.mem_of_getElem? (i := 279) (by decide +kernel), List.mem_of_getElem? (i := 280) (by decide +kernel)⟩
theorem lw_p3 : lw_okq (⟨"GradeGraph$Cache", "remove", "(I)V"⟩, 8) := ⟨⟨by decide +kernel, by decide +kernel⟩, List.mem_of_getElem? (i := 89) (by decide +kernel), List.mem_of_getElem? (i := 296) (by decide +kernel), List.mem_of_getElem? (i := 297) (by decide +kernel)⟩
theorem lw_p4 : lw_okq (⟨"GradeGraph", "ask", "(III)[I"⟩, 6) := ⟨⟨by decide +kernel, by decide +kernel⟩, List.mem_of_getElem? (i := 20) (by decide +kernel), List.mem_of_getElem? (i := 339) (by decide +kernel), List.mem_of_getElem? (i := 340) (by decide +kernel)⟩
theorem lw_p5 : lw_okq (⟨"GradeGraph", "make", "(LGradeGraph$Node;III)[I"⟩, 6) := ⟨⟨by decide +kernel, by decide +kernel⟩, List.mem_of_getElem? (i := 20) (by decide +kernel), List.mem_of_getElem? (i := 347) (by decide +kernel), List.mem_of_getElem? (i := 348) (by decide +kernel)⟩
theorem lw_p6 : lw_okq (⟨"GradeGraph$Cache", "dropOldest", "()V"⟩, 8) := ⟨⟨by decide +kernel, by decide +kernel⟩, List.mem_of_getElem? (i := 89) (by decide +kernel), List.mem_of_getElem? (i := 355) (by decide +kernel), List.mem_of_getElem? (i := 356) (by decide +kernel)⟩
theorem lw_p7 : lw_okq (⟨"GradeGraph$Cache", "touch", "(LGradeGraph$Picture;)V"⟩, 8) := ⟨⟨by decide +kernel, by decide +kernel⟩, List.mem_of_getElem? (i := 89) (by decide +kernel), List.mem_of_getElem? (i := 359) (by decide +kernel), List.mem_of_getElem? (i := 360) (by decide +kernel)⟩
theorem lw_p8 : lw_okq (⟨"GradeGraph$Reader", "expression", "(I)I"⟩, 7) := ⟨⟨by decide +kernel, by decide +kernel⟩, List.mem_of_getElem? (i := 147) (by decide +kernel), List.mem_of_getElem? (i := 425) (by decide +kernel), List.mem_of_getElem? (i := 426) (by decide +kernel)⟩
theorem lw_p9 : lw_okq (⟨"GradeGraph$Reader", "kindHere", "()I"⟩, 7) := ⟨⟨by decide +kernel, by decide +kernel⟩, List.mem_of_getElem? (i := 147) (by decide +kernel), List.mem_of_getElem? (i := 429) (by decide +kernel), List.mem_of_getElem? (i := 430) (by decide +kernel)⟩
theorem lw_p10 : lw_okq (⟨"GradeGraph$Reader", "expect", "(I)V"⟩, 7) := ⟨⟨by decide +kernel, by decide +kernel⟩, List.mem_of_getElem? (i := 147) (by decide +kernel), List.mem_of_getElem? (i := 521) (by decide +kernel), List.mem_of_getElem? (i := 522) (by decide +kernel)⟩
theorem lw_p11 : lw_okq (⟨"GradeGraph$Reader", "readNumber", "(II)I"⟩, 7) := ⟨⟨by decide +kernel, by decide +kernel⟩, List.mem_of_getElem? (i := 147) (by decide +kernel), List.mem_of_getElem? (i := 525) (by decide +kernel), List.mem_of_getElem? (i := 526) (by decide +kernel)⟩
theorem lw_p12 : lw_okq (⟨"GradeGraph$Reader", "readDigits", "()I"⟩, 7) := ⟨⟨by decide +kernel, by decide +kernel⟩, List.mem_of_getElem? (i := 147) (by decide +kernel), List.mem_of_getElem? (i := 529) (by decide +kernel), List.mem_of_getElem? (i := 530) (by decide +kernel)⟩
theorem lw_p13 : lw_okq (⟨"GradeGraph$Reader", "newNode", "(II)I"⟩, 7) := ⟨⟨by decide +kernel, by decide +kernel⟩, List.mem_of_getElem? (i := 147) (by decide +kernel), List.mem_of_getElem? (i := 534) (by decide +kernel), List.mem_of_getElem? (i := 535) (by decide +kernel)⟩
theorem lw_p14 : lw_okq (⟨"GradeGraph$Reader", "nextExpression", "(I)I"⟩, 7) := ⟨⟨by decide +kernel, by decide +kernel⟩, List.mem_of_getElem? (i := 147) (by decide +kernel), List.mem_of_getElem? (i := 539) (by decide +kernel), List.mem_of_getElem? (i := 540) (by decide +kernel)⟩
theorem lw_p15 : lw_okq (⟨"GradeGraph$Reader", "fill", "(LGradeGraph$Node;IIII)V"⟩, 7) := ⟨⟨by decide +kernel, by decide +kernel⟩, List.mem_of_getElem? (i := 147) (by decide +kernel), List.mem_of_getElem? (i := 550) (by decide +kernel), List.mem_of_getElem? (i := 551) (by decide +kernel)⟩
def lw_privs_1 : List (MethodName × Nat) := [(⟨"GradeGraph$Graph", "arrange", "()V"⟩, 5), (⟨"GradeGraph$Graph", "firstReady", "(I)I"⟩, 5), (⟨"GradeGraph$Graph", "depthBehindInputs", "(LGradeGraph$Node;)I"⟩, 5), (⟨"GradeGraph$Cache", "remove", "(I)V"⟩, 8), (⟨"GradeGraph", "ask", "(III)[I"⟩, 6), (⟨"GradeGraph", "make", "(LGradeGraph$Node;III)[I"⟩, 6), (⟨"GradeGraph$Cache", "dropOldest", "()V"⟩, 8), (⟨"GradeGraph$Cache", "touch", "(LGradeGraph$Picture;)V"⟩, 8), (⟨"GradeGraph$Reader", "expression", "(I)I"⟩, 7), (⟨"GradeGraph$Reader", "kindHere", "()I"⟩, 7), (⟨"GradeGraph$Reader", "expect", "(I)V"⟩, 7), (⟨"GradeGraph$Reader", "readNumber", "(II)I"⟩, 7), (⟨"GradeGraph$Reader", "readDigits", "()I"⟩, 7), (⟨"GradeGraph$Reader", "newNode", "(II)I"⟩, 7), (⟨"GradeGraph$Reader", "nextExpression", "(I)I"⟩, 7), (⟨"GradeGraph$Reader", "fill", "(LGradeGraph$Node;IIII)V"⟩, 7)]
theorem lw_r1 : ∀ q ∈ lw_privs_1, lw_okq q := List.forall_mem_cons.mpr ⟨lw_p0, List.forall_mem_cons.mpr ⟨lw_p1, List.forall_mem_cons.mpr ⟨lw_p2, List.forall_mem_cons.mpr ⟨lw_p3, List.forall_mem_cons.mpr ⟨lw_p4, List.forall_mem_cons.mpr ⟨lw_p5, List.forall_mem_cons.mpr ⟨lw_p6, List.forall_mem_cons.mpr ⟨lw_p7, List.forall_mem_cons.mpr ⟨lw_p8, List.forall_mem_cons.mpr ⟨lw_p9, List.forall_mem_cons.mpr ⟨lw_p10, List.forall_mem_cons.mpr ⟨lw_p11, List.forall_mem_cons.mpr ⟨lw_p12, List.forall_mem_cons.mpr ⟨lw_p13, List.forall_mem_cons.mpr ⟨lw_p14, List.forall_mem_cons.mpr ⟨lw_p15, fun _ h => absurd h List.not_mem_nil⟩⟩⟩⟩⟩⟩⟩⟩⟩⟩⟩⟩⟩⟩⟩⟩
theorem lw_p16 : lw_okq (⟨"GradeGraph", "mixNode", "(JI)J"⟩, 6) := ⟨⟨by decide +kernel, by decide +kernel⟩, List.mem_of_getElem? (i := 20) (by decide +kernel), List.mem_of_getElem? (i := 596) (by decide +kernel), List.mem_of_getElem? (i := 597) (by decide +kernel)⟩
def lw_privs_2 : List (MethodName × Nat) := [(⟨"GradeGraph", "mixNode", "(JI)J"⟩, 6)]
theorem lw_r2 : ∀ q ∈ lw_privs_2, lw_okq q := List.forall_mem_cons.mpr ⟨lw_p16, fun _ h => absurd h List.not_mem_nil⟩
def lw_privs : List (MethodName × Nat) := lw_privs_1 ++ (lw_privs_2)
def lw_tbl : List Cond := k2_sels lw_privs ++ tables_1
theorem lw_privs_ok : ∀ q ∈ lw_privs, lw_okq q := by
  show ∀ q ∈ lw_privs_1 ++ (lw_privs_2), lw_okq q
  exact List.forall_mem_append.mpr ⟨lw_r1, lw_r2⟩
-- ===== end of PART A; then your names; then what follows =====
def RX0 : String := "GradeGraph$Cache"
def TX0 : u_T := fun k => match k with
  | 0 => ("GradeGraph$Cache", "pictures", "[LGradeGraph$Picture;", true)
  | 1 => ("GradeGraph$Cache", "uses", "I", false)
  | 2 => ("GradeGraph$Cache", "size", "I", false)
  | 3 => ("GradeGraph$Cache", "room", "I", false)
  | 4 => ("GradeGraph$Cache", "hits", "I", false)
  | 5 => ("GradeGraph$Cache", "misses", "I", false)
  | 6 => ("GradeGraph$Cache", "dropped", "I", false)
  | _ => ("GradeGraph$Cache", "voided", "I", false)
def tyX0 : Nat → FieldType := fun k => match k with
  | 0 => .array (.object "GradeGraph$Picture")
  | 1 => .int
  | 2 => .int
  | 3 => .int
  | 4 => .int
  | 5 => .int
  | 6 => .int
  | _ => .int
abbrev wsX00 : List Cond := u_ws RX0 TX0 8
theorem nmX0 : ∀ a, a < 8 → ∀ b, b < 8 → a ≠ b → (TX0 a).2.1 ≠ (TX0 b).2.1 := by decide +kernel
theorem tyX0_ok : ∀ k, k < 8 → parseFieldDescriptor (TX0 k).2.2.1 = some (tyX0 k) := by decide +kernel
abbrev cX0_init : ByteArray := prog_2_method_1_code
def yX0_init : MethodName := ⟨RX0, "<init>", "()V"⟩
abbrev cX0_empty : ByteArray := prog_2_method_2_code
def yX0_empty : MethodName := ⟨RX0, "empty", "()V"⟩
abbrev cX0_find : ByteArray := prog_2_method_3_code
def yX0_find : MethodName := ⟨RX0, "find", "(II)LGradeGraph$Picture;"⟩
abbrev cX0_hit : ByteArray := prog_2_method_4_code
def yX0_hit : MethodName := ⟨RX0, "hit", "(LGradeGraph$Picture;)V"⟩
abbrev cX0_admit : ByteArray := prog_2_method_5_code
/-- the name of the method that a link leads to -/
def nm_of : Cond → String
  | .methodLink _ _ q => q.name
  | _ => ""
/-- one method of the class bears a name that no row may hold: the name is taken from the Statement's own table, where the link to it stands -/
def yX0_admit : MethodName := ⟨RX0, nm_of (tables_1_2.getD 110 (Cond.initialized RX0)), "(II)LGradeGraph$Picture;"⟩
abbrev cX0_changeRoom : ByteArray := prog_2_method_6_code
def yX0_changeRoom : MethodName := ⟨RX0, "changeRoom", "(I)V"⟩
abbrev cX0_makeVoid : ByteArray := prog_2_method_7_code
def yX0_makeVoid : MethodName := ⟨RX0, "makeVoid", "(III)I"⟩
abbrev cX0_makeVoidInOne : ByteArray := prog_2_method_8_code
def yX0_makeVoidInOne : MethodName := ⟨RX0, "makeVoidInOne", "(IIIII)I"⟩
abbrev cX0_touch : ByteArray := prog_2_method_9_code
def yX0_touch : MethodName := ⟨RX0, "touch", "(LGradeGraph$Picture;)V"⟩
abbrev cX0_dropOldest : ByteArray := prog_2_method_10_code
def yX0_dropOldest : MethodName := ⟨RX0, "dropOldest", "()V"⟩
abbrev cX0_remove : ByteArray := prog_2_method_11_code
def yX0_remove : MethodName := ⟨RX0, "remove", "(I)V"⟩
def RX1 : String := "GradeGraph$Graph"
def TX1 : u_T := fun k => match k with
  | 0 => ("GradeGraph$Graph", "nodes", "[LGradeGraph$Node;", true)
  | 1 => ("GradeGraph$Graph", "size", "I", false)
  | 2 => ("GradeGraph$Graph", "order", "[I", true)
  | 3 => ("GradeGraph$Graph", "places", "[I", true)
  | _ => ("GradeGraph$Graph", "depths", "[I", true)
def tyX1 : Nat → FieldType := fun k => match k with
  | 0 => .array (.object "GradeGraph$Node")
  | 1 => .int
  | 2 => .array .int
  | 3 => .array .int
  | _ => .array .int
abbrev wsX10 : List Cond := u_ws RX1 TX1 5
theorem nmX1 : ∀ a, a < 5 → ∀ b, b < 5 → a ≠ b → (TX1 a).2.1 ≠ (TX1 b).2.1 := by decide +kernel
theorem tyX1_ok : ∀ k, k < 5 → parseFieldDescriptor (TX1 k).2.2.1 = some (tyX1 k) := by decide +kernel
abbrev cX1_init : ByteArray := prog_3_method_1_code
def yX1_init : MethodName := ⟨RX1, "<init>", "()V"⟩
abbrev cX1_has : ByteArray := prog_3_method_2_code
def yX1_has : MethodName := ⟨RX1, "has", "(I)Z"⟩
abbrev cX1_hasInput : ByteArray := prog_3_method_3_code
def yX1_hasInput : MethodName := ⟨RX1, "hasInput", "(II)Z"⟩
abbrev cX1_hasParameter : ByteArray := prog_3_method_4_code
def yX1_hasParameter : MethodName := ⟨RX1, "hasParameter", "(II)Z"⟩
abbrev cX1_removeAll : ByteArray := prog_3_method_5_code
def yX1_removeAll : MethodName := ⟨RX1, "removeAll", "()V"⟩
abbrev cX1_add : ByteArray := prog_3_method_6_code
def yX1_add : MethodName := ⟨RX1, "add", "(I)I"⟩
abbrev cX1_link : ByteArray := prog_3_method_7_code
def yX1_link : MethodName := ⟨RX1, "link", "(III)V"⟩
abbrev cX1_copyFrom : ByteArray := prog_3_method_8_code
def yX1_copyFrom : MethodName := ⟨RX1, "copyFrom", "(LGradeGraph$Graph;)V"⟩
abbrev cX1_addAll : ByteArray := prog_3_method_9_code
def yX1_addAll : MethodName := ⟨RX1, "addAll", "([LGradeGraph$Node;I)V"⟩
abbrev cX1_dependents : ByteArray := prog_3_method_10_code
def yX1_dependents : MethodName := ⟨RX1, "dependents", "(I)I"⟩
abbrev cX1_arrange : ByteArray := prog_3_method_11_code
def yX1_arrange : MethodName := ⟨RX1, "arrange", "()V"⟩
abbrev cX1_firstReady : ByteArray := prog_3_method_12_code
def yX1_firstReady : MethodName := ⟨RX1, "firstReady", "(I)I"⟩
abbrev cX1_depthBehindInputs : ByteArray := prog_3_method_13_code
def yX1_depthBehindInputs : MethodName := ⟨RX1, "depthBehindInputs", "(LGradeGraph$Node;)I"⟩
def RX2 : String := "GradeGraph$Kinds"
def TX2 : u_T := fun k => match k with
  | _ => ("", "", "", false)
def tyX2 : Nat → FieldType := fun k => match k with
  | _ => .int
abbrev wsX20 : List Cond := u_ws RX2 TX2 0
theorem nmX2 : ∀ a, a < 0 → ∀ b, b < 0 → a ≠ b → (TX2 a).2.1 ≠ (TX2 b).2.1 := by decide +kernel
theorem tyX2_ok : ∀ k, k < 0 → parseFieldDescriptor (TX2 k).2.2.1 = some (tyX2 k) := by decide +kernel
abbrev cX2_inputs : ByteArray := prog_4_method_2_code
def yX2_inputs : MethodName := ⟨RX2, "inputs", "(I)I"⟩
abbrev cX2_parameters : ByteArray := prog_4_method_3_code
def yX2_parameters : MethodName := ⟨RX2, "parameters", "(I)I"⟩
abbrev cX2_numbers : ByteArray := prog_4_method_4_code
def yX2_numbers : MethodName := ⟨RX2, "numbers", "(I)I"⟩
abbrev cX2_lowest : ByteArray := prog_4_method_5_code
def yX2_lowest : MethodName := ⟨RX2, "lowest", "(II)I"⟩
abbrev cX2_highest : ByteArray := prog_4_method_6_code
def yX2_highest : MethodName := ⟨RX2, "highest", "(II)I"⟩
abbrev cX2_atFirst : ByteArray := prog_4_method_7_code
def yX2_atFirst : MethodName := ⟨RX2, "atFirst", "(II)I"⟩
abbrev cX2_entry : ByteArray := prog_4_method_8_code
def yX2_entry : MethodName := ⟨RX2, "entry", "([II)I"⟩
def RX3 : String := "GradeGraph$Node"
def TX3 : u_T := fun k => match k with
  | 0 => ("GradeGraph$Node", "kind", "I", false)
  | 1 => ("GradeGraph$Node", "first", "I", false)
  | 2 => ("GradeGraph$Node", "last", "I", false)
  | 3 => ("GradeGraph$Node", "inputs", "[I", true)
  | _ => ("GradeGraph$Node", "parameters", "[I", true)
def tyX3 : Nat → FieldType := fun k => match k with
  | 0 => .int
  | 1 => .int
  | 2 => .int
  | 3 => .array .int
  | _ => .array .int
abbrev wsX30 : List Cond := u_ws RX3 TX3 5
theorem nmX3 : ∀ a, a < 5 → ∀ b, b < 5 → a ≠ b → (TX3 a).2.1 ≠ (TX3 b).2.1 := by decide +kernel
theorem tyX3_ok : ∀ k, k < 5 → parseFieldDescriptor (TX3 k).2.2.1 = some (tyX3 k) := by decide +kernel
abbrev cX3_init : ByteArray := prog_5_method_1_code
def yX3_init : MethodName := ⟨RX3, "<init>", "()V"⟩
abbrev cX3_reset : ByteArray := prog_5_method_2_code
def yX3_reset : MethodName := ⟨RX3, "reset", "(I)V"⟩
abbrev cX3_copyFrom : ByteArray := prog_5_method_3_code
def yX3_copyFrom : MethodName := ⟨RX3, "copyFrom", "(LGradeGraph$Node;)V"⟩
abbrev cX3_inputSet : ByteArray := prog_5_method_4_code
def yX3_inputSet : MethodName := ⟨RX3, "inputSet", "()I"⟩
def RX4 : String := "GradeGraph$Painter"
def TX4 : u_T := fun k => match k with
  | _ => ("", "", "", false)
def tyX4 : Nat → FieldType := fun k => match k with
  | _ => .int
abbrev wsX40 : List Cond := u_ws RX4 TX4 0
theorem nmX4 : ∀ a, a < 0 → ∀ b, b < 0 → a ≠ b → (TX4 a).2.1 ≠ (TX4 b).2.1 := by decide +kernel
theorem tyX4_ok : ∀ k, k < 0 → parseFieldDescriptor (TX4 k).2.2.1 = some (tyX4 k) := by decide +kernel
abbrev cX4_paint : ByteArray := prog_6_method_2_code
def yX4_paint : MethodName := ⟨RX4, "paint", "(LGradeGraph$Node;I[I[I[I[I)V"⟩
abbrev cX4_paintSource : ByteArray := prog_6_method_3_code
def yX4_paintSource : MethodName := ⟨RX4, "paintSource", "(II[I)V"⟩
abbrev cX4_paintAmounts : ByteArray := prog_6_method_4_code
def yX4_paintAmounts : MethodName := ⟨RX4, "paintAmounts", "(LGradeGraph$Node;[I[I)V"⟩
abbrev cX4_paintInverse : ByteArray := prog_6_method_5_code
def yX4_paintInverse : MethodName := ⟨RX4, "paintInverse", "([I[I)V"⟩
abbrev cX4_paintBlur : ByteArray := prog_6_method_6_code
def yX4_paintBlur : MethodName := ⟨RX4, "paintBlur", "(I[I[I)V"⟩
abbrev cX4_paintKey : ByteArray := prog_6_method_7_code
def yX4_paintKey : MethodName := ⟨RX4, "paintKey", "([I[I[I)V"⟩
abbrev cX4_mask : ByteArray := prog_6_method_8_code
def yX4_mask : MethodName := ⟨RX4, "mask", "(IIII)I"⟩
abbrev cX4_paintBlend : ByteArray := prog_6_method_9_code
def yX4_paintBlend : MethodName := ⟨RX4, "paintBlend", "([I[I[I[I)V"⟩
def RX5 : String := "GradeGraph$Picture"
def TX5 : u_T := fun k => match k with
  | 0 => ("GradeGraph$Picture", "node", "I", false)
  | 1 => ("GradeGraph$Picture", "frame", "I", false)
  | 2 => ("GradeGraph$Picture", "lastUse", "I", false)
  | _ => ("GradeGraph$Picture", "values", "[I", true)
def tyX5 : Nat → FieldType := fun k => match k with
  | 0 => .int
  | 1 => .int
  | 2 => .int
  | _ => .array .int
abbrev wsX50 : List Cond := u_ws RX5 TX5 4
theorem nmX5 : ∀ a, a < 4 → ∀ b, b < 4 → a ≠ b → (TX5 a).2.1 ≠ (TX5 b).2.1 := by decide +kernel
theorem tyX5_ok : ∀ k, k < 4 → parseFieldDescriptor (TX5 k).2.2.1 = some (tyX5 k) := by decide +kernel
abbrev cX5_init : ByteArray := prog_7_method_1_code
def yX5_init : MethodName := ⟨RX5, "<init>", "()V"⟩
def RX6 : String := "GradeGraph$Reader"
def TX6 : u_T := fun k => match k with
  | 0 => ("GradeGraph$Reader", "text", "LGradeGraph$Text;", true)
  | 1 => ("GradeGraph$Reader", "numbers", "[I", true)
  | 2 => ("GradeGraph$Reader", "drafts", "[LGradeGraph$Node;", true)
  | 3 => ("GradeGraph$Reader", "found", "I", false)
  | 4 => ("GradeGraph$Reader", "known", "I", false)
  | 5 => ("GradeGraph$Reader", "position", "I", false)
  | _ => ("GradeGraph$Reader", "faulty", "Z", false)
def tyX6 : Nat → FieldType := fun k => match k with
  | 0 => .object "GradeGraph$Text"
  | 1 => .array .int
  | 2 => .array (.object "GradeGraph$Node")
  | 3 => .int
  | 4 => .int
  | 5 => .int
  | _ => .boolean
abbrev wsX60 : List Cond := u_ws RX6 TX6 7
theorem nmX6 : ∀ a, a < 7 → ∀ b, b < 7 → a ≠ b → (TX6 a).2.1 ≠ (TX6 b).2.1 := by decide +kernel
theorem tyX6_ok : ∀ k, k < 7 → parseFieldDescriptor (TX6 k).2.2.1 = some (tyX6 k) := by decide +kernel
abbrev cX6_init : ByteArray := prog_8_method_1_code
def yX6_init : MethodName := ⟨RX6, "<init>", "()V"⟩
abbrev cX6_read : ByteArray := prog_8_method_2_code
def yX6_read : MethodName := ⟨RX6, "read", "(I)I"⟩
abbrev cX6_expression : ByteArray := prog_8_method_3_code
def yX6_expression : MethodName := ⟨RX6, "expression", "(I)I"⟩
abbrev cX6_nextExpression : ByteArray := prog_8_method_4_code
def yX6_nextExpression : MethodName := ⟨RX6, "nextExpression", "(I)I"⟩
abbrev cX6_kindHere : ByteArray := prog_8_method_5_code
def yX6_kindHere : MethodName := ⟨RX6, "kindHere", "()I"⟩
abbrev cX6_newNode : ByteArray := prog_8_method_6_code
def yX6_newNode : MethodName := ⟨RX6, "newNode", "(II)I"⟩
abbrev cX6_fill : ByteArray := prog_8_method_7_code
def yX6_fill : MethodName := ⟨RX6, "fill", "(LGradeGraph$Node;IIII)V"⟩
abbrev cX6_readNumber : ByteArray := prog_8_method_8_code
def yX6_readNumber : MethodName := ⟨RX6, "readNumber", "(II)I"⟩
abbrev cX6_readDigits : ByteArray := prog_8_method_9_code
def yX6_readDigits : MethodName := ⟨RX6, "readDigits", "()I"⟩
abbrev cX6_expect : ByteArray := prog_8_method_10_code
def yX6_expect : MethodName := ⟨RX6, "expect", "(I)V"⟩
def RX7 : String := "GradeGraph$Scopes"
def TX7 : u_T := fun k => match k with
  | _ => ("", "", "", false)
def tyX7 : Nat → FieldType := fun k => match k with
  | _ => .int
abbrev wsX70 : List Cond := u_ws RX7 TX7 0
theorem nmX7 : ∀ a, a < 0 → ∀ b, b < 0 → a ≠ b → (TX7 a).2.1 ≠ (TX7 b).2.1 := by decide +kernel
theorem tyX7_ok : ∀ k, k < 0 → parseFieldDescriptor (TX7 k).2.2.1 = some (tyX7 k) := by decide +kernel
abbrev cX7_inPart : ByteArray := prog_9_method_2_code
def yX7_inPart : MethodName := ⟨RX7, "inPart", "([III)I"⟩
abbrev cX7_least : ByteArray := prog_9_method_3_code
def yX7_least : MethodName := ⟨RX7, "least", "([II)I"⟩
abbrev cX7_greatest : ByteArray := prog_9_method_4_code
def yX7_greatest : MethodName := ⟨RX7, "greatest", "([II)I"⟩
abbrev cX7_total : ByteArray := prog_9_method_5_code
def yX7_total : MethodName := ⟨RX7, "total", "([II)I"⟩
abbrev cX7_different : ByteArray := prog_9_method_6_code
def yX7_different : MethodName := ⟨RX7, "different", "([II)I"⟩
abbrev cX7_standsBefore : ByteArray := prog_9_method_7_code
def yX7_standsBefore : MethodName := ⟨RX7, "standsBefore", "([III)Z"⟩
abbrev cX7_greatestDifference : ByteArray := prog_9_method_8_code
def yX7_greatestDifference : MethodName := ⟨RX7, "greatestDifference", "([I[I)I"⟩
def RX8 : String := "GradeGraph$Text"
def TX8 : u_T := fun k => match k with
  | 0 => ("GradeGraph$Text", "bytes", "[B", true)
  | _ => ("GradeGraph$Text", "length", "I", false)
def tyX8 : Nat → FieldType := fun k => match k with
  | 0 => .array .byte
  | _ => .int
abbrev wsX80 : List Cond := u_ws RX8 TX8 2
theorem nmX8 : ∀ a, a < 2 → ∀ b, b < 2 → a ≠ b → (TX8 a).2.1 ≠ (TX8 b).2.1 := by decide +kernel
theorem tyX8_ok : ∀ k, k < 2 → parseFieldDescriptor (TX8 k).2.2.1 = some (tyX8 k) := by decide +kernel
abbrev cX8_init : ByteArray := prog_10_method_1_code
def yX8_init : MethodName := ⟨RX8, "<init>", "()V"⟩
abbrev cX8_put : ByteArray := prog_10_method_2_code
def yX8_put : MethodName := ⟨RX8, "put", "(I)I"⟩
abbrev cX8_at : ByteArray := prog_10_method_4_code
def yX8_at : MethodName := ⟨RX8, "at", "(I)I"⟩
def RX9 : String := "GradeGraph"
def TX9 : u_T := fun k => match k with
  | 0 => ("GradeGraph", "graph", "LGradeGraph$Graph;", true)
  | 1 => ("GradeGraph", "cache", "LGradeGraph$Cache;", true)
  | 2 => ("GradeGraph", "reader", "LGradeGraph$Reader;", true)
  | 3 => ("GradeGraph", "slots", "[LGradeGraph$Graph;", true)
  | 4 => ("GradeGraph", "saved", "[Z", true)
  | _ => ("GradeGraph", "black", "[I", true)
def tyX9 : Nat → FieldType := fun k => match k with
  | 0 => .object "GradeGraph$Graph"
  | 1 => .object "GradeGraph$Cache"
  | 2 => .object "GradeGraph$Reader"
  | 3 => .array (.object "GradeGraph$Graph")
  | 4 => .array .boolean
  | _ => .array .int
abbrev wsX90 : List Cond := u_ws RX9 TX9 6
theorem nmX9 : ∀ a, a < 6 → ∀ b, b < 6 → a ≠ b → (TX9 a).2.1 ≠ (TX9 b).2.1 := by decide +kernel
theorem tyX9_ok : ∀ k, k < 6 → parseFieldDescriptor (TX9 k).2.2.1 = some (tyX9 k) := by decide +kernel
abbrev cX9_init : ByteArray := prog_1_method_1_code
def yX9_init : MethodName := ⟨RX9, "<init>", "()V"⟩
abbrev cX9_clear : ByteArray := prog_1_method_2_code
def yX9_clear : MethodName := ⟨RX9, "clear", "()I"⟩
abbrev cX9_addNode : ByteArray := prog_1_method_3_code
def yX9_addNode : MethodName := ⟨RX9, "addNode", "(I)I"⟩
abbrev cX9_connect : ByteArray := prog_1_method_4_code
def yX9_connect : MethodName := ⟨RX9, "connect", "(III)I"⟩
abbrev cX9_set : ByteArray := prog_1_method_5_code
def yX9_set : MethodName := ⟨RX9, "set", "(III)I"⟩
abbrev cX9_setRange : ByteArray := prog_1_method_6_code
def yX9_setRange : MethodName := ⟨RX9, "setRange", "(III)I"⟩
abbrev cX9_nodes : ByteArray := prog_1_method_7_code
def yX9_nodes : MethodName := ⟨RX9, "nodes", "()I"⟩
abbrev cX9_node : ByteArray := prog_1_method_8_code
def yX9_node : MethodName := ⟨RX9, "node", "(II)I"⟩
abbrev cX9_input : ByteArray := prog_1_method_9_code
def yX9_input : MethodName := ⟨RX9, "input", "(II)I"⟩
abbrev cX9_parameter : ByteArray := prog_1_method_10_code
def yX9_parameter : MethodName := ⟨RX9, "parameter", "(II)I"⟩
abbrev cX9_value : ByteArray := prog_1_method_11_code
def yX9_value : MethodName := ⟨RX9, "value", "(IIIII)I"⟩
abbrev cX9_scope : ByteArray := prog_1_method_12_code
def yX9_scope : MethodName := ⟨RX9, "scope", "(IIII)I"⟩
abbrev cX9_sum : ByteArray := prog_1_method_13_code
def yX9_sum : MethodName := ⟨RX9, "sum", "(IIII)I"⟩
abbrev cX9_compare : ByteArray := prog_1_method_14_code
def yX9_compare : MethodName := ⟨RX9, "compare", "(III)I"⟩
abbrev cX9_setRoom : ByteArray := prog_1_method_15_code
def yX9_setRoom : MethodName := ⟨RX9, "setRoom", "(I)I"⟩
abbrev cX9_isCached : ByteArray := prog_1_method_16_code
def yX9_isCached : MethodName := ⟨RX9, "isCached", "(II)I"⟩
abbrev cX9_count : ByteArray := prog_1_method_17_code
def yX9_count : MethodName := ⟨RX9, "count", "(I)I"⟩
abbrev cX9_append : ByteArray := prog_1_method_18_code
def yX9_append : MethodName := ⟨RX9, "append", "(I)I"⟩
abbrev cX9_build : ByteArray := prog_1_method_22_code
def yX9_build : MethodName := ⟨RX9, "build", "()I"⟩
abbrev cX9_save : ByteArray := prog_1_method_23_code
def yX9_save : MethodName := ⟨RX9, "save", "(I)I"⟩
abbrev cX9_restore : ByteArray := prog_1_method_24_code
def yX9_restore : MethodName := ⟨RX9, "restore", "(I)I"⟩
abbrev cX9_checksum : ByteArray := prog_1_method_25_code
def yX9_checksum : MethodName := ⟨RX9, "checksum", "()J"⟩
abbrev cX9_mixNode : ByteArray := prog_1_method_26_code
def yX9_mixNode : MethodName := ⟨RX9, "mixNode", "(JI)J"⟩
abbrev cX9_mix : ByteArray := prog_1_method_27_code
def yX9_mix : MethodName := ⟨RX9, "mix", "(JI)J"⟩
abbrev cX9_ask : ByteArray := prog_1_method_28_code
def yX9_ask : MethodName := ⟨RX9, "ask", "(III)[I"⟩
abbrev cX9_make : ByteArray := prog_1_method_29_code
def yX9_make : MethodName := ⟨RX9, "make", "(LGradeGraph$Node;III)[I"⟩
abbrev cX9_isFrame : ByteArray := prog_1_method_30_code
def yX9_isFrame : MethodName := ⟨RX9, "isFrame", "(I)Z"⟩
abbrev cX9_isChannel : ByteArray := prog_1_method_31_code
def yX9_isChannel : MethodName := ⟨RX9, "isChannel", "(I)Z"⟩
abbrev cX9_isIn : ByteArray := prog_1_method_32_code
def yX9_isIn : MethodName := ⟨RX9, "isIn", "(III)Z"⟩
abbrev cX9_contains : ByteArray := prog_1_method_33_code
def yX9_contains : MethodName := ⟨RX9, "contains", "(II)Z"⟩
def RX10 : String := "GradeGraphModel"
def TX10 : u_T := fun k => match k with
  | _ => ("", "", "", false)
def tyX10 : Nat → FieldType := fun k => match k with
  | _ => .int
abbrev wsX100 : List Cond := u_ws RX10 TX10 0
theorem nmX10 : ∀ a, a < 0 → ∀ b, b < 0 → a ≠ b → (TX10 a).2.1 ≠ (TX10 b).2.1 := by decide +kernel
theorem tyX10_ok : ∀ k, k < 0 → parseFieldDescriptor (TX10 k).2.2.1 = some (tyX10 k) := by decide +kernel
def RJ11 : String := "java/lang/Character"
def TJ11 : u_T := fun k => match k with
  | _ => ("", "", "", false)
def tyJ11 : Nat → FieldType := fun k => match k with
  | _ => .int
abbrev wsJ110 : List Cond := u_ws RJ11 TJ11 0
theorem nmJ11 : ∀ a, a < 0 → ∀ b, b < 0 → a ≠ b → (TJ11 a).2.1 ≠ (TJ11 b).2.1 := by decide +kernel
theorem tyJ11_ok : ∀ k, k < 0 → parseFieldDescriptor (TJ11 k).2.2.1 = some (tyJ11 k) := by decide +kernel
abbrev cJ11_isValidCodePoint_9a6ad : ByteArray := prog_13_method_11_code
def yJ11_isValidCodePoint_9a6ad : MethodName := ⟨RJ11, "isValidCodePoint", "(I)Z"⟩
abbrev cJ11_highSurrogate_5068e : ByteArray := prog_13_method_28_code
def yJ11_highSurrogate_5068e : MethodName := ⟨RJ11, "highSurrogate", "(I)C"⟩
abbrev cJ11_lowSurrogate_5068e : ByteArray := prog_13_method_29_code
def yJ11_lowSurrogate_5068e : MethodName := ⟨RJ11, "lowSurrogate", "(I)C"⟩
def RJ6 : String := "java/lang/Integer"
def TJ6 : u_T := fun k => match k with
  | _ => ("", "", "", false)
def tyJ6 : Nat → FieldType := fun k => match k with
  | _ => .int
abbrev wsJ60 : List Cond := u_ws RJ6 TJ6 0
theorem nmJ6 : ∀ a, a < 0 → ∀ b, b < 0 → a ≠ b → (TJ6 a).2.1 ≠ (TJ6 b).2.1 := by decide +kernel
theorem tyJ6_ok : ∀ k, k < 0 → parseFieldDescriptor (TJ6 k).2.2.1 = some (tyJ6 k) := by decide +kernel
abbrev cJ6_bitCount_0f7a4 : ByteArray := prog_14_method_49_code
def yJ6_bitCount_0f7a4 : MethodName := ⟨RJ6, "bitCount", "(I)I"⟩
def RJ9 : String := "java/lang/Math"
def TJ9 : u_T := fun k => match k with
  | _ => ("", "", "", false)
def tyJ9 : Nat → FieldType := fun k => match k with
  | _ => .int
abbrev wsJ90 : List Cond := u_ws RJ9 TJ9 0
theorem nmJ9 : ∀ a, a < 0 → ∀ b, b < 0 → a ≠ b → (TJ9 a).2.1 ≠ (TJ9 b).2.1 := by decide +kernel
theorem tyJ9_ok : ∀ k, k < 0 → parseFieldDescriptor (TJ9 k).2.2.1 = some (tyJ9 k) := by decide +kernel
abbrev cJ9_abs_0f7a4 : ByteArray := prog_15_method_59_code
def yJ9_abs_0f7a4 : MethodName := ⟨RJ9, "abs", "(I)I"⟩
abbrev cJ9_max_7cf53 : ByteArray := prog_15_method_65_code
def yJ9_max_7cf53 : MethodName := ⟨RJ9, "max", "(II)I"⟩
abbrev cJ9_min_7cf53 : ByteArray := prog_15_method_69_code
def yJ9_min_7cf53 : MethodName := ⟨RJ9, "min", "(II)I"⟩
def RJ0 : String := "java/lang/String"
def TJ0 : u_T := fun k => match k with
  | _ => ("", "", "", false)
def tyJ0 : Nat → FieldType := fun k => match k with
  | _ => .int
abbrev wsJ00 : List Cond := u_ws RJ0 TJ0 0
theorem nmJ0 : ∀ a, a < 0 → ∀ b, b < 0 → a ≠ b → (TJ0 a).2.1 ≠ (TJ0 b).2.1 := by decide +kernel
theorem tyJ0_ok : ∀ k, k < 0 → parseFieldDescriptor (TJ0 k).2.2.1 = some (tyJ0 k) := by decide +kernel
abbrev cJ0_length_8abf5 : ByteArray := prog_16_method_54_code
def yJ0_length_8abf5 : MethodName := ⟨RJ0, "length", "()I"⟩
abbrev cJ0_indexOf_0f7a4 : ByteArray := prog_16_method_79_code
def yJ0_indexOf_0f7a4 : MethodName := ⟨RJ0, "indexOf", "(I)I"⟩
abbrev cJ0_indexOf_7cf53 : ByteArray := prog_16_method_80_code
def yJ0_indexOf_7cf53 : MethodName := ⟨RJ0, "indexOf", "(II)I"⟩
abbrev cJ0_coder_7d493 : ByteArray := prog_16_method_152_code
def yJ0_coder_7d493 : MethodName := ⟨RJ0, "coder", "()B"⟩
abbrev cJ0_isLatin1_aae02 : ByteArray := prog_16_method_154_code
def yJ0_isLatin1_aae02 : MethodName := ⟨RJ0, "isLatin1", "()Z"⟩
abbrev cJ0_checkBoundsBeginEnd_23922 : ByteArray := prog_16_method_158_code
def yJ0_checkBoundsBeginEnd_23922 : MethodName := ⟨RJ0, "checkBoundsBeginEnd", "(III)V"⟩
def RJ1 : String := "java/lang/StringLatin1"
def TJ1 : u_T := fun k => match k with
  | _ => ("", "", "", false)
def tyJ1 : Nat → FieldType := fun k => match k with
  | _ => .int
abbrev wsJ10 : List Cond := u_ws RJ1 TJ1 0
theorem nmJ1 : ∀ a, a < 0 → ∀ b, b < 0 → a ≠ b → (TJ1 a).2.1 ≠ (TJ1 b).2.1 := by decide +kernel
theorem tyJ1_ok : ∀ k, k < 0 → parseFieldDescriptor (TJ1 k).2.2.1 = some (tyJ1 k) := by decide +kernel
abbrev cJ1_canEncode_9a6ad : ByteArray := prog_17_method_4_code
def yJ1_canEncode_9a6ad : MethodName := ⟨RJ1, "canEncode", "(I)Z"⟩
abbrev cJ1_indexOf_4cfef : ByteArray := prog_17_method_22_code
def yJ1_indexOf_4cfef : MethodName := ⟨RJ1, "indexOf", "([BIII)I"⟩
abbrev cJ1_indexOfChar_4cfef : ByteArray := prog_17_method_23_code
def yJ1_indexOfChar_4cfef : MethodName := ⟨RJ1, "indexOfChar", "([BIII)I"⟩
def RJ2 : String := "java/lang/StringUTF16"
def TJ2 : u_T := fun k => match k with
  | _ => ("", "", "", false)
def tyJ2 : Nat → FieldType := fun k => match k with
  | _ => .int
abbrev wsJ20 : List Cond := u_ws RJ2 TJ2 0
theorem nmJ2 : ∀ a, a < 0 → ∀ b, b < 0 → a ≠ b → (TJ2 a).2.1 ≠ (TJ2 b).2.1 := by decide +kernel
theorem tyJ2_ok : ∀ k, k < 0 → parseFieldDescriptor (TJ2 k).2.2.1 = some (tyJ2 k) := by decide +kernel
abbrev cJ2_getChar_3b067 : ByteArray := prog_18_method_5_code
def yJ2_getChar_3b067 : MethodName := ⟨RJ2, "getChar", "([BI)C"⟩
abbrev cJ2_length_9d52b : ByteArray := prog_18_method_6_code
def yJ2_length_9d52b : MethodName := ⟨RJ2, "length", "([B)I"⟩
abbrev cJ2_indexOf_4cfef : ByteArray := prog_18_method_40_code
def yJ2_indexOf_4cfef : MethodName := ⟨RJ2, "indexOf", "([BIII)I"⟩
abbrev cJ2_indexOfChar_4cfef : ByteArray := prog_18_method_47_code
def yJ2_indexOfChar_4cfef : MethodName := ⟨RJ2, "indexOfChar", "([BIII)I"⟩
abbrev cJ2_indexOfCharUnsafe_4cfef : ByteArray := prog_18_method_48_code
def yJ2_indexOfCharUnsafe_4cfef : MethodName := ⟨RJ2, "indexOfCharUnsafe", "([BIII)I"⟩
abbrev cJ2_indexOfSupplementary_4cfef : ByteArray := prog_18_method_49_code
def yJ2_indexOfSupplementary_4cfef : MethodName := ⟨RJ2, "indexOfSupplementary", "([BIII)I"⟩
abbrev cJ2_checkBoundsBeginEnd_d044e : ByteArray := prog_18_method_93_code
def yJ2_checkBoundsBeginEnd_d044e : MethodName := ⟨RJ2, "checkBoundsBeginEnd", "(II[B)V"⟩
def RJ10 : String := "java/lang/System"
def TJ10 : u_T := fun k => match k with
  | _ => ("", "", "", false)
def tyJ10 : Nat → FieldType := fun k => match k with
  | _ => .int
abbrev wsJ100 : List Cond := u_ws RJ10 TJ10 0
theorem nmJ10 : ∀ a, a < 0 → ∀ b, b < 0 → a ≠ b → (TJ10 a).2.1 ≠ (TJ10 b).2.1 := by decide +kernel
theorem tyJ10_ok : ∀ k, k < 0 → parseFieldDescriptor (TJ10 k).2.2.1 = some (tyJ10 k) := by decide +kernel
def RJ3 : String := "jdk/internal/util/Preconditions"
def TJ3 : u_T := fun k => match k with
  | _ => ("", "", "", false)
def tyJ3 : Nat → FieldType := fun k => match k with
  | _ => .int
abbrev wsJ30 : List Cond := u_ws RJ3 TJ3 0
theorem nmJ3 : ∀ a, a < 0 → ∀ b, b < 0 → a ≠ b → (TJ3 a).2.1 ≠ (TJ3 b).2.1 := by decide +kernel
theorem tyJ3_ok : ∀ k, k < 0 → parseFieldDescriptor (TJ3 k).2.2.1 = some (tyJ3 k) := by decide +kernel
abbrev cJ3_checkFromToIndex_8c36e : ByteArray := prog_20_method_12_code
def yJ3_checkFromToIndex_8c36e : MethodName := ⟨RJ3, "checkFromToIndex", "(IIILjava/util/function/BiFunction;)I"⟩
def RL : String := "GradeGraphLaw"
abbrev cL_cell : ByteArray := method_2_code
def yL_cell : MethodName := ⟨RL, "cell", "([II)I"⟩
abbrev cL_inputs : ByteArray := method_3_code
def yL_inputs : MethodName := ⟨RL, "inputs", "(I)I"⟩
abbrev cL_parameters : ByteArray := method_4_code
def yL_parameters : MethodName := ⟨RL, "parameters", "(I)I"⟩
abbrev cL_high : ByteArray := method_5_code
def yL_high : MethodName := ⟨RL, "high", "(II)I"⟩
abbrev cL_adds : ByteArray := method_6_code
def yL_adds : MethodName := ⟨RL, "adds", "(LGradeGraph;[I[I[III)Z"⟩
abbrev cL_depends : ByteArray := method_7_code
def yL_depends : MethodName := ⟨RL, "depends", "([IIII)Z"⟩
abbrev cL_same : ByteArray := method_8_code
def yL_same : MethodName := ⟨RL, "same", "(LGradeGraph;III)Z"⟩
abbrev cL_sound : ByteArray := method_9_code
def yL_sound : MethodName := ⟨RL, "sound", "(LGradeGraph;I)Z"⟩
abbrev cL_refuses : ByteArray := method_10_code
def yL_refuses : MethodName := ⟨RL, "refuses", "(LGradeGraph;I)Z"⟩
abbrev cL_law : ByteArray := code
def yL_law : MethodName := ⟨RL, "law", "([I)Z"⟩
abbrev vwCl : List vw_C := [(RX0, TX0, 8), (RX1, TX1, 5), (RX3, TX3, 5), (RX5, TX5, 4), (RX6, TX6, 7), (RX8, TX8, 2), (RX9, TX9, 6)]
