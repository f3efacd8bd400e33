theorem clX11_16 : Cond.classLink RX11 16 RX3 ∈ gW := mW_1 (List.mem_of_getElem? (i := 130) rfl) rfl
theorem clX11_25 : Cond.classLink RX11 25 RX7 ∈ gW := mW_1 (List.mem_of_getElem? (i := 146) rfl) rfl
theorem clX11_34 : Cond.classLink RX11 34 RX2 ∈ gW := mW_1 (List.mem_of_getElem? (i := 159) rfl) rfl
theorem clX11_41 : Cond.classLink RX11 41 RX9 ∈ gW := mW_1 (List.mem_of_getElem? (i := 184) rfl) rfl
theorem clX11_43 : Cond.classLink RX11 43 RX4 ∈ gW := mW_1 (List.mem_of_getElem? (i := 186) rfl) rfl
theorem clX11_53 : Cond.classLink RX11 53 RX10 ∈ gW := mW_2 (List.mem_of_getElem? (i := 104) rfl) rfl
theorem clX11_62 : Cond.classLink RX11 62 RX1 ∈ gW := mW_2 (List.mem_of_getElem? (i := 128) rfl) rfl
theorem clX11_69 : Cond.classLink RX11 69 RX8 ∈ gW := mW_2 (List.mem_of_getElem? (i := 158) rfl) rfl
theorem clX11_76 : Cond.classLink RX11 76 RX0 ∈ gW := mW_2 (List.mem_of_getElem? (i := 193) rfl) rfl
theorem clX11_9 : Cond.classLink RX11 9 RX5 ∈ gW := mW_1 (List.mem_of_getElem? (i := 30) rfl) rfl
theorem clX2_15 : Cond.classLink RX2 15 ("[" ++ (FieldType.array .int).toString) ∈ gW := mW_1 (List.mem_of_getElem? (i := 165) rfl) rfl
theorem clX4_42 : Cond.classLink RX4 42 RX0 ∈ gW := mW_1 (List.mem_of_getElem? (i := 192) rfl) rfl
theorem clX9_9 : Cond.classLink RX9 9 RX6 ∈ gW := mW_2 (List.mem_of_getElem? (i := 67) rfl) rfl
theorem clL_10 : Cond.classLink RL 10 RX12 ∈ gW := mW_6 (List.mem_of_getElem? (i := 104) rfl) rfl
theorem clL_7 : Cond.classLink RL 7 RX11 ∈ gW := mW_1 (List.mem_of_getElem? (i := 22) rfl) rfl
theorem in0 : Cond.instantiable RX0 4 ∈ gW := mW_1 (List.mem_of_getElem? (i := 193) rfl) rfl
theorem ini0 : Cond.initialized RX0 ∈ gW := mW_1 (List.mem_of_getElem? (i := 12) rfl) rfl
theorem in1 : Cond.instantiable RX1 7 ∈ gW := mW_2 (List.mem_of_getElem? (i := 129) rfl) rfl
theorem ini1 : Cond.initialized RX1 ∈ gW := mW_1 (List.mem_of_getElem? (i := 15) rfl) rfl
theorem in2 : Cond.instantiable RX2 5 ∈ gW := mW_1 (List.mem_of_getElem? (i := 160) rfl) rfl
theorem ini2 : Cond.initialized RX2 ∈ gW := mW_1 (List.mem_of_getElem? (i := 9) rfl) rfl
theorem in3 : Cond.instantiable RX3 3 ∈ gW := mW_1 (List.mem_of_getElem? (i := 131) rfl) rfl
theorem ini3 : Cond.initialized RX3 ∈ gW := mW_1 (List.mem_of_getElem? (i := 7) rfl) rfl
theorem in4 : Cond.instantiable RX4 18 ∈ gW := mW_1 (List.mem_of_getElem? (i := 187) rfl) rfl
theorem ini4 : Cond.initialized RX4 ∈ gW := mW_1 (List.mem_of_getElem? (i := 11) rfl) rfl
theorem in5 : Cond.instantiable RX5 10 ∈ gW := mW_1 (List.mem_of_getElem? (i := 31) rfl) rfl
theorem ini5 : Cond.initialized RX5 ∈ gW := mW_1 (List.mem_of_getElem? (i := 2) rfl) rfl
theorem in6 : Cond.instantiable RX6 4 ∈ gW := mW_2 (List.mem_of_getElem? (i := 68) rfl) rfl
theorem ini6 : Cond.initialized RX6 ∈ gW := mW_1 (List.mem_of_getElem? (i := 13) rfl) rfl
theorem in7 : Cond.instantiable RX7 2 ∈ gW := mW_1 (List.mem_of_getElem? (i := 147) rfl) rfl
theorem ini7 : Cond.initialized RX7 ∈ gW := mW_1 (List.mem_of_getElem? (i := 8) rfl) rfl
theorem in8 : Cond.instantiable RX8 8 ∈ gW := mW_2 (List.mem_of_getElem? (i := 159) rfl) rfl
theorem ini8 : Cond.initialized RX8 ∈ gW := mW_1 (List.mem_of_getElem? (i := 16) rfl) rfl
theorem in9 : Cond.instantiable RX9 3 ∈ gW := mW_1 (List.mem_of_getElem? (i := 185) rfl) rfl
theorem ini9 : Cond.initialized RX9 ∈ gW := mW_1 (List.mem_of_getElem? (i := 10) rfl) rfl
theorem in10 : Cond.instantiable RX10 5 ∈ gW := mW_2 (List.mem_of_getElem? (i := 105) rfl) rfl
theorem ini10 : Cond.initialized RX10 ∈ gW := mW_1 (List.mem_of_getElem? (i := 14) rfl) rfl
theorem in11 : Cond.instantiable RX11 14 ∈ gW := mW_1 (List.mem_of_getElem? (i := 23) rfl) rfl
theorem ini11 : Cond.initialized RX11 ∈ gW := mW_1 (List.mem_of_getElem? (i := 1) rfl) rfl
theorem in12 : Cond.instantiable RX12 117 ∈ gW := mW_6 (List.mem_of_getElem? (i := 105) rfl) rfl
theorem ini12 : Cond.initialized RX12 ∈ gW := mW_1 (List.mem_of_getElem? (i := 17) rfl) rfl
theorem acint : Cond.arrayClass .int ∈ gW := mW_1 (List.mem_of_getElem? (i := 128) rfl) rfl
theorem acchar : Cond.arrayClass .char ∈ gW := mW_7 (List.mem_of_getElem? (i := 222) rfl) rfl
theorem aclong : Cond.arrayClass .long ∈ gW := mW_7 (List.mem_of_getElem? (i := 223) rfl) rfl
theorem lOX11_3 : Cond.methodLink RX11 3 objectInit ∈ gW := mW_1 (List.mem_of_getElem? (i := 27) rfl) rfl
theorem lOX0_3 : Cond.methodLink RX0 3 objectInit ∈ gW := mW_1 (List.mem_of_getElem? (i := 197) rfl) rfl
theorem lOX1_3 : Cond.methodLink RX1 3 objectInit ∈ gW := mW_2 (List.mem_of_getElem? (i := 133) rfl) rfl
theorem lOX2_5 : Cond.methodLink RX2 5 objectInit ∈ gW := mW_1 (List.mem_of_getElem? (i := 164) rfl) rfl
theorem lOX3_5 : Cond.methodLink RX3 5 objectInit ∈ gW := mW_1 (List.mem_of_getElem? (i := 135) rfl) rfl
theorem lOX4_3 : Cond.methodLink RX4 3 objectInit ∈ gW := mW_1 (List.mem_of_getElem? (i := 191) rfl) rfl
theorem lOX5_3 : Cond.methodLink RX5 3 objectInit ∈ gW := mW_1 (List.mem_of_getElem? (i := 35) rfl) rfl
theorem lOX6_3 : Cond.methodLink RX6 3 objectInit ∈ gW := mW_2 (List.mem_of_getElem? (i := 72) rfl) rfl
theorem lOX7_3 : Cond.methodLink RX7 3 objectInit ∈ gW := mW_1 (List.mem_of_getElem? (i := 151) rfl) rfl
theorem lOX8_3 : Cond.methodLink RX8 3 objectInit ∈ gW := mW_2 (List.mem_of_getElem? (i := 163) rfl) rfl
theorem lOX9_3 : Cond.methodLink RX9 3 objectInit ∈ gW := mW_2 (List.mem_of_getElem? (i := 66) rfl) rfl
theorem lOX10_3 : Cond.methodLink RX10 3 objectInit ∈ gW := mW_2 (List.mem_of_getElem? (i := 109) rfl) rfl
theorem lOX12_1 : Cond.methodLink RX12 1 objectInit ∈ gW := mW_6 (List.mem_of_getElem? (i := 109) rfl) rfl
theorem gO_i : Cond.instanceMethod objectInit ∈ gW := mW_1 (List.mem_of_getElem? (i := 28) rfl) rfl
theorem gO_c : Cond.code objectInit ⟨#[0xb1]⟩ 1 none ∈ gW := mW_1 (List.mem_of_getElem? (i := 29) rfl) rfl
theorem fjJ0_1053 : Cond.fieldLink RJ0 1053 "jdk/internal/util/Preconditions" "SIOOBE_FORMATTER" "Ljava/util/function/BiFunction;" ∈ gW := mW_1 (List.mem_of_getElem? (i := 61) rfl) rfl
theorem fjJ0_15 : Cond.fieldLink RJ0 15 "java/lang/String" "coder" "B" ∈ gW := mW_10 (List.mem_of_getElem? (i := 163) rfl) rfl
theorem fjJ0_38 : Cond.fieldLink RJ0 38 "java/lang/String" "COMPACT_STRINGS" "Z" ∈ gW := mW_1 (List.mem_of_getElem? (i := 45) rfl) rfl
theorem fjJ0_9 : Cond.fieldLink RJ0 9 "java/lang/String" "value" "[B" ∈ gW := mW_10 (List.mem_of_getElem? (i := 162) rfl) rfl
theorem fjJ2_44 : Cond.fieldLink RJ2 44 "java/lang/StringUTF16" "$assertionsDisabled" "Z" ∈ gW := mW_1 (List.mem_of_getElem? (i := 79) rfl) rfl
theorem fjJ2_59 : Cond.fieldLink RJ2 59 "java/lang/StringUTF16" "HI_BYTE_SHIFT" "I" ∈ gW := mW_1 (List.mem_of_getElem? (i := 81) rfl) rfl
theorem fjJ2_63 : Cond.fieldLink RJ2 63 "java/lang/StringUTF16" "LO_BYTE_SHIFT" "I" ∈ gW := mW_1 (List.mem_of_getElem? (i := 83) rfl) rfl
