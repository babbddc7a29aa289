/-! ===== the JDK: J0_length_8abf5, J0_coder_7d493, J0_charAt_5068e, J0_isLatin1_aae02, J1_charAt_3b067, J0_checkIndex_df160, J3_checkIndex_8e157, J9_min_7cf53, J5_length_8abf5, J5_charAt_5068e, J5_isLatin1_aae02, J5_ensureCapacityInternal_d00df, J5_newCapacity_0f7a4, J8_newLength_cabcc, J7_copyOf_9075b, J5_setLength_d00df, J1_canEncode_fc78d, J5_append_3fe6f, J6_stringSize_0f7a4, J6_getChars_ba4f3, J5_append_c97b9, J5_init_d00df, J4_length_8abf5, J4_charAt_5068e, J4_setLength_d00df, J4_append_cf468, J4_append_bf812, J4_init_da8c8 ===== -/
theorem w_10 : (Jvm.Cond.initialized "java/lang/AbstractStringBuilder") ∈ TBL := tk_1 (List.mem_of_getElem? (i := 10) rfl) rfl
theorem w_22 : (Jvm.Cond.initialized "java/lang/StringLatin1") ∈ TBL := tk_1 (List.mem_of_getElem? (i := 22) rfl) rfl
theorem w_23 : (Jvm.Cond.initialized "jdk/internal/util/Preconditions") ∈ TBL := tk_1 (List.mem_of_getElem? (i := 23) rfl) rfl
theorem w_26 : (Jvm.Cond.initialized "jdk/internal/util/ArraysSupport") ∈ TBL := tk_1 (List.mem_of_getElem? (i := 26) rfl) rfl
theorem w_27 : (Jvm.Cond.initialized "java/util/Arrays") ∈ TBL := tk_1 (List.mem_of_getElem? (i := 27) rfl) rfl
theorem w_28 : (Jvm.Cond.initialized "java/lang/System") ∈ TBL := tk_1 (List.mem_of_getElem? (i := 28) rfl) rfl
theorem w_30 : (Jvm.Cond.initialized "java/lang/Integer") ∈ TBL := tk_1 (List.mem_of_getElem? (i := 30) rfl) rfl
theorem w_308 : (Jvm.Cond.methodLink "java/lang/StringBuilder" (1 : Nat) ({ cls := "java/lang/AbstractStringBuilder", name := "<init>", desc := "(I)V" } : Jvm.MethodName)) ∈ TBL := tk_2 (List.mem_of_getElem? (i := 68) rfl) rfl
theorem w_309 : (Jvm.Cond.instanceMethod ({ cls := "java/lang/AbstractStringBuilder", name := "<init>", desc := "(I)V" } : Jvm.MethodName)) ∈ TBL := tk_2 (List.mem_of_getElem? (i := 69) rfl) rfl
theorem w_310 : (Jvm.Cond.code ({ cls := "java/lang/AbstractStringBuilder", name := "<init>", desc := "(I)V" } : Jvm.MethodName) prog_13_method_2_code (2 : Nat) (Option.none : Option Jvm.ClassFile.FieldType)) ∈ TBL := tk_2 (List.mem_of_getElem? (i := 70) rfl) rfl
theorem w_311 : (Jvm.Cond.methodLink "java/lang/AbstractStringBuilder" (3 : Nat) ({ cls := "java/lang/Object", name := "<init>", desc := "()V" } : Jvm.MethodName)) ∈ TBL := tk_2 (List.mem_of_getElem? (i := 71) rfl) rfl
theorem w_312 : (Jvm.Cond.fieldLink "java/lang/AbstractStringBuilder" (18 : Nat) "java/lang/String" "COMPACT_STRINGS" "Z") ∈ TBL := tk_2 (List.mem_of_getElem? (i := 72) rfl) rfl
theorem w_321 : (Jvm.Cond.fieldLink "java/lang/AbstractStringBuilder" (15 : Nat) "java/lang/AbstractStringBuilder" "value" "[B") ∈ TBL := tk_2 (List.mem_of_getElem? (i := 81) rfl) rfl
theorem w_322 : (Jvm.Cond.fieldLink "java/lang/AbstractStringBuilder" (22 : Nat) "java/lang/AbstractStringBuilder" "coder" "B") ∈ TBL := tk_2 (List.mem_of_getElem? (i := 82) rfl) rfl
theorem w_323 : (Jvm.Cond.fieldLink "java/lang/AbstractStringBuilder" (73 : Nat) "java/lang/AbstractStringBuilder" "maybeLatin1" "Z") ∈ TBL := tk_2 (List.mem_of_getElem? (i := 83) rfl) rfl
theorem w_325 : (Jvm.Cond.fieldLink "java/lang/AbstractStringBuilder" (79 : Nat) "java/lang/AbstractStringBuilder" "count" "I") ∈ TBL := tk_2 (List.mem_of_getElem? (i := 85) rfl) rfl
theorem w_334 : (Jvm.Cond.superclass "java/lang/StringBuilder" "java/lang/AbstractStringBuilder") ∈ TBL := tk_2 (List.mem_of_getElem? (i := 94) rfl) rfl
theorem w_335 : (Jvm.Cond.arrayClass Jvm.ClassFile.FieldType.byte) ∈ TBL := tk_2 (List.mem_of_getElem? (i := 95) rfl) rfl
theorem w_564 : (Jvm.Cond.methodLink "java/lang/String" (492 : Nat) ({ cls := "java/lang/String", name := "isLatin1", desc := "()Z" } : Jvm.MethodName)) ∈ TBL := tk_3 (List.mem_of_getElem? (i := 84) rfl) rfl
theorem w_565 : (Jvm.Cond.instanceMethod ({ cls := "java/lang/String", name := "isLatin1", desc := "()Z" } : Jvm.MethodName)) ∈ TBL := tk_3 (List.mem_of_getElem? (i := 85) rfl) rfl
theorem w_566 : (Jvm.Cond.selects "java/lang/String" ({ cls := "java/lang/String", name := "isLatin1", desc := "()Z" } : Jvm.MethodName) ({ cls := "java/lang/String", name := "isLatin1", desc := "()Z" } : Jvm.MethodName)) ∈ TBL := tk_3 (List.mem_of_getElem? (i := 86) rfl) rfl
theorem w_567 : (Jvm.Cond.code ({ cls := "java/lang/String", name := "isLatin1", desc := "()Z" } : Jvm.MethodName) prog_28_method_154_code (1 : Nat) (Option.some Jvm.ClassFile.FieldType.boolean)) ∈ TBL := tk_3 (List.mem_of_getElem? (i := 87) rfl) rfl
theorem w_568 : (Jvm.Cond.fieldLink "java/lang/String" (38 : Nat) "java/lang/String" "COMPACT_STRINGS" "Z") ∈ TBL := tk_3 (List.mem_of_getElem? (i := 88) rfl) rfl
theorem w_569 : (Jvm.Cond.methodLink "java/lang/String" (495 : Nat) ({ cls := "java/lang/StringLatin1", name := "charAt", desc := "([BI)C" } : Jvm.MethodName)) ∈ TBL := tk_3 (List.mem_of_getElem? (i := 89) rfl) rfl
theorem w_570 : (Jvm.Cond.static ({ cls := "java/lang/StringLatin1", name := "charAt", desc := "([BI)C" } : Jvm.MethodName)) ∈ TBL := tk_3 (List.mem_of_getElem? (i := 90) rfl) rfl
theorem w_571 : (Jvm.Cond.code ({ cls := "java/lang/StringLatin1", name := "charAt", desc := "([BI)C" } : Jvm.MethodName) prog_31_method_2_code (2 : Nat) (Option.some Jvm.ClassFile.FieldType.char)) ∈ TBL := tk_3 (List.mem_of_getElem? (i := 91) rfl) rfl
theorem w_572 : (Jvm.Cond.methodLink "java/lang/StringLatin1" (9 : Nat) ({ cls := "java/lang/String", name := "checkIndex", desc := "(II)V" } : Jvm.MethodName)) ∈ TBL := tk_3 (List.mem_of_getElem? (i := 92) rfl) rfl
theorem w_573 : (Jvm.Cond.static ({ cls := "java/lang/String", name := "checkIndex", desc := "(II)V" } : Jvm.MethodName)) ∈ TBL := tk_3 (List.mem_of_getElem? (i := 93) rfl) rfl
theorem w_574 : (Jvm.Cond.code ({ cls := "java/lang/String", name := "checkIndex", desc := "(II)V" } : Jvm.MethodName) prog_28_method_155_code (2 : Nat) (Option.none : Option Jvm.ClassFile.FieldType)) ∈ TBL := tk_3 (List.mem_of_getElem? (i := 94) rfl) rfl
theorem w_575 : (Jvm.Cond.fieldLink "java/lang/String" (1053 : Nat) "jdk/internal/util/Preconditions" "SIOOBE_FORMATTER" "Ljava/util/function/BiFunction;") ∈ TBL := tk_3 (List.mem_of_getElem? (i := 95) rfl) rfl
theorem w_577 : (Jvm.Cond.methodLink "java/lang/String" (1059 : Nat) ({ cls := "jdk/internal/util/Preconditions", name := "checkIndex", desc := "(IILjava/util/function/BiFunction;)I" } : Jvm.MethodName)) ∈ TBL := tk_3 (List.mem_of_getElem? (i := 97) rfl) rfl
theorem w_578 : (Jvm.Cond.static ({ cls := "jdk/internal/util/Preconditions", name := "checkIndex", desc := "(IILjava/util/function/BiFunction;)I" } : Jvm.MethodName)) ∈ TBL := tk_3 (List.mem_of_getElem? (i := 98) rfl) rfl
theorem w_579 : (Jvm.Cond.code ({ cls := "jdk/internal/util/Preconditions", name := "checkIndex", desc := "(IILjava/util/function/BiFunction;)I" } : Jvm.MethodName) prog_40_method_11_code (3 : Nat) (Option.some Jvm.ClassFile.FieldType.int)) ∈ TBL := tk_3 (List.mem_of_getElem? (i := 99) rfl) rfl
theorem w_1103 : (Jvm.Cond.methodLink "java/lang/AbstractStringBuilder" (100 : Nat) ({ cls := "java/lang/AbstractStringBuilder", name := "ensureCapacityInternal", desc := "(I)V" } : Jvm.MethodName)) ∈ TBL := tk_5 (List.mem_of_getElem? (i := 143) rfl) rfl
theorem w_1105 : (Jvm.Cond.instanceMethod ({ cls := "java/lang/AbstractStringBuilder", name := "ensureCapacityInternal", desc := "(I)V" } : Jvm.MethodName)) ∈ TBL := tk_5 (List.mem_of_getElem? (i := 145) rfl) rfl
theorem w_1106 : (Jvm.Cond.code ({ cls := "java/lang/AbstractStringBuilder", name := "ensureCapacityInternal", desc := "(I)V" } : Jvm.MethodName) prog_13_method_9_code (3 : Nat) (Option.none : Option Jvm.ClassFile.FieldType)) ∈ TBL := tk_5 (List.mem_of_getElem? (i := 146) rfl) rfl
theorem w_1107 : (Jvm.Cond.methodLink "java/lang/AbstractStringBuilder" (104 : Nat) ({ cls := "java/lang/AbstractStringBuilder", name := "newCapacity", desc := "(I)I" } : Jvm.MethodName)) ∈ TBL := tk_5 (List.mem_of_getElem? (i := 147) rfl) rfl
theorem w_1109 : (Jvm.Cond.instanceMethod ({ cls := "java/lang/AbstractStringBuilder", name := "newCapacity", desc := "(I)I" } : Jvm.MethodName)) ∈ TBL := tk_5 (List.mem_of_getElem? (i := 149) rfl) rfl
theorem w_1110 : (Jvm.Cond.code ({ cls := "java/lang/AbstractStringBuilder", name := "newCapacity", desc := "(I)I" } : Jvm.MethodName) prog_13_method_10_code (6 : Nat) (Option.some Jvm.ClassFile.FieldType.int)) ∈ TBL := tk_5 (List.mem_of_getElem? (i := 150) rfl) rfl
theorem w_1111 : (Jvm.Cond.methodLink "java/lang/AbstractStringBuilder" (114 : Nat) ({ cls := "jdk/internal/util/ArraysSupport", name := "newLength", desc := "(III)I" } : Jvm.MethodName)) ∈ TBL := tk_5 (List.mem_of_getElem? (i := 151) rfl) rfl
theorem w_1112 : (Jvm.Cond.static ({ cls := "jdk/internal/util/ArraysSupport", name := "newLength", desc := "(III)I" } : Jvm.MethodName)) ∈ TBL := tk_5 (List.mem_of_getElem? (i := 152) rfl) rfl
theorem w_1113 : (Jvm.Cond.code ({ cls := "jdk/internal/util/ArraysSupport", name := "newLength", desc := "(III)I" } : Jvm.MethodName) prog_39_method_27_code (4 : Nat) (Option.some Jvm.ClassFile.FieldType.int)) ∈ TBL := tk_5 (List.mem_of_getElem? (i := 153) rfl) rfl
theorem w_1114 : (Jvm.Cond.methodLink "jdk/internal/util/ArraysSupport" (194 : Nat) ({ cls := "java/lang/Math", name := "max", desc := "(II)I" } : Jvm.MethodName)) ∈ TBL := tk_5 (List.mem_of_getElem? (i := 154) rfl) rfl
theorem w_1117 : (Jvm.Cond.constant "jdk/internal/util/ArraysSupport" (200 : Nat) (2147483639 : Int32)) ∈ TBL := tk_5 (List.mem_of_getElem? (i := 157) rfl) rfl
theorem w_1121 : (Jvm.Cond.constant "java/lang/AbstractStringBuilder" (39 : Nat) (2147483647 : Int32)) ∈ TBL := tk_5 (List.mem_of_getElem? (i := 161) rfl) rfl
theorem w_1122 : (Jvm.Cond.methodLink "java/lang/AbstractStringBuilder" (108 : Nat) ({ cls := "java/util/Arrays", name := "copyOf", desc := "([BI)[B" } : Jvm.MethodName)) ∈ TBL := tk_5 (List.mem_of_getElem? (i := 162) rfl) rfl
theorem w_1123 : (Jvm.Cond.static ({ cls := "java/util/Arrays", name := "copyOf", desc := "([BI)[B" } : Jvm.MethodName)) ∈ TBL := tk_5 (List.mem_of_getElem? (i := 163) rfl) rfl
theorem w_1124 : (Jvm.Cond.code ({ cls := "java/util/Arrays", name := "copyOf", desc := "([BI)[B" } : Jvm.MethodName) prog_37_method_121_code (3 : Nat) (Option.some (Jvm.ClassFile.FieldType.array Jvm.ClassFile.FieldType.byte))) ∈ TBL := tk_5 (List.mem_of_getElem? (i := 164) rfl) rfl
theorem w_1132 : (Jvm.Cond.methodLink "java/util/Arrays" (304 : Nat) ({ cls := "java/lang/Math", name := "min", desc := "(II)I" } : Jvm.MethodName)) ∈ TBL := tk_5 (List.mem_of_getElem? (i := 172) rfl) rfl
theorem w_1133 : (Jvm.Cond.static ({ cls := "java/lang/Math", name := "min", desc := "(II)I" } : Jvm.MethodName)) ∈ TBL := tk_5 (List.mem_of_getElem? (i := 173) rfl) rfl
theorem w_1134 : (Jvm.Cond.code ({ cls := "java/lang/Math", name := "min", desc := "(II)I" } : Jvm.MethodName) prog_25_method_69_code (2 : Nat) (Option.some Jvm.ClassFile.FieldType.int)) ∈ TBL := tk_5 (List.mem_of_getElem? (i := 174) rfl) rfl
theorem w_1135 : (Jvm.Cond.methodLink "java/util/Arrays" (150 : Nat) ({ cls := "java/lang/System", name := "arraycopy", desc := "(Ljava/lang/Object;ILjava/lang/Object;II)V" } : Jvm.MethodName)) ∈ TBL := tk_5 (List.mem_of_getElem? (i := 175) rfl) rfl
theorem w_1136 : (Jvm.Cond.static ({ cls := "java/lang/System", name := "arraycopy", desc := "(Ljava/lang/Object;ILjava/lang/Object;II)V" } : Jvm.MethodName)) ∈ TBL := tk_5 (List.mem_of_getElem? (i := 176) rfl) rfl
theorem w_1137 : (Jvm.Cond.native ({ cls := "java/lang/System", name := "arraycopy", desc := "(Ljava/lang/Object;ILjava/lang/Object;II)V" } : Jvm.MethodName)) ∈ TBL := tk_5 (List.mem_of_getElem? (i := 177) rfl) rfl
theorem w_1138 : (Jvm.Cond.methodLink "java/lang/AbstractStringBuilder" (83 : Nat) ({ cls := "java/lang/AbstractStringBuilder", name := "isLatin1", desc := "()Z" } : Jvm.MethodName)) ∈ TBL := tk_5 (List.mem_of_getElem? (i := 178) rfl) rfl
theorem w_1139 : (Jvm.Cond.instanceMethod ({ cls := "java/lang/AbstractStringBuilder", name := "isLatin1", desc := "()Z" } : Jvm.MethodName)) ∈ TBL := tk_5 (List.mem_of_getElem? (i := 179) rfl) rfl
theorem w_1141 : (Jvm.Cond.selects "java/lang/StringBuilder" ({ cls := "java/lang/AbstractStringBuilder", name := "isLatin1", desc := "()Z" } : Jvm.MethodName) ({ cls := "java/lang/AbstractStringBuilder", name := "isLatin1", desc := "()Z" } : Jvm.MethodName)) ∈ TBL := tk_5 (List.mem_of_getElem? (i := 181) rfl) rfl
theorem w_1142 : (Jvm.Cond.code ({ cls := "java/lang/AbstractStringBuilder", name := "isLatin1", desc := "()Z" } : Jvm.MethodName) prog_13_method_68_code (1 : Nat) (Option.some Jvm.ClassFile.FieldType.boolean)) ∈ TBL := tk_5 (List.mem_of_getElem? (i := 182) rfl) rfl
theorem w_1162 : (Jvm.Cond.methodLink "java/lang/String" (335 : Nat) ({ cls := "java/lang/String", name := "coder", desc := "()B" } : Jvm.MethodName)) ∈ TBL := tk_5 (List.mem_of_getElem? (i := 202) rfl) rfl
theorem w_1163 : (Jvm.Cond.instanceMethod ({ cls := "java/lang/String", name := "coder", desc := "()B" } : Jvm.MethodName)) ∈ TBL := tk_5 (List.mem_of_getElem? (i := 203) rfl) rfl
theorem w_1164 : (Jvm.Cond.selects "java/lang/String" ({ cls := "java/lang/String", name := "coder", desc := "()B" } : Jvm.MethodName) ({ cls := "java/lang/String", name := "coder", desc := "()B" } : Jvm.MethodName)) ∈ TBL := tk_5 (List.mem_of_getElem? (i := 204) rfl) rfl
theorem w_1165 : (Jvm.Cond.code ({ cls := "java/lang/String", name := "coder", desc := "()B" } : Jvm.MethodName) prog_28_method_152_code (1 : Nat) (Option.some Jvm.ClassFile.FieldType.byte)) ∈ TBL := tk_5 (List.mem_of_getElem? (i := 205) rfl) rfl
theorem w_1205 : (Jvm.Cond.methodLink "java/lang/StringBuilder" (50 : Nat) ({ cls := "java/lang/AbstractStringBuilder", name := "append", desc := "(C)Ljava/lang/AbstractStringBuilder;" } : Jvm.MethodName)) ∈ TBL := tk_6 (List.mem_of_getElem? (i := 5) rfl) rfl
theorem w_1206 : (Jvm.Cond.instanceMethod ({ cls := "java/lang/AbstractStringBuilder", name := "append", desc := "(C)Ljava/lang/AbstractStringBuilder;" } : Jvm.MethodName)) ∈ TBL := tk_6 (List.mem_of_getElem? (i := 6) rfl) rfl
theorem w_1207 : (Jvm.Cond.code ({ cls := "java/lang/AbstractStringBuilder", name := "append", desc := "(C)Ljava/lang/AbstractStringBuilder;" } : Jvm.MethodName) prog_13_method_31_code (2 : Nat) (Option.some (Jvm.ClassFile.FieldType.object "java/lang/AbstractStringBuilder"))) ∈ TBL := tk_6 (List.mem_of_getElem? (i := 7) rfl) rfl
theorem w_1208 : (Jvm.Cond.methodLink "java/lang/AbstractStringBuilder" (191 : Nat) ({ cls := "java/lang/StringLatin1", name := "canEncode", desc := "(C)Z" } : Jvm.MethodName)) ∈ TBL := tk_6 (List.mem_of_getElem? (i := 8) rfl) rfl
theorem w_1209 : (Jvm.Cond.static ({ cls := "java/lang/StringLatin1", name := "canEncode", desc := "(C)Z" } : Jvm.MethodName)) ∈ TBL := tk_6 (List.mem_of_getElem? (i := 9) rfl) rfl
theorem w_1210 : (Jvm.Cond.code ({ cls := "java/lang/StringLatin1", name := "canEncode", desc := "(C)Z" } : Jvm.MethodName) prog_31_method_3_code (1 : Nat) (Option.some Jvm.ClassFile.FieldType.boolean)) ∈ TBL := tk_6 (List.mem_of_getElem? (i := 10) rfl) rfl
theorem w_1218 : (Jvm.Cond.methodLink "java/lang/StringBuilder" (53 : Nat) ({ cls := "java/lang/AbstractStringBuilder", name := "append", desc := "(I)Ljava/lang/AbstractStringBuilder;" } : Jvm.MethodName)) ∈ TBL := tk_6 (List.mem_of_getElem? (i := 18) rfl) rfl
theorem w_1219 : (Jvm.Cond.instanceMethod ({ cls := "java/lang/AbstractStringBuilder", name := "append", desc := "(I)Ljava/lang/AbstractStringBuilder;" } : Jvm.MethodName)) ∈ TBL := tk_6 (List.mem_of_getElem? (i := 19) rfl) rfl
theorem w_1220 : (Jvm.Cond.code ({ cls := "java/lang/AbstractStringBuilder", name := "append", desc := "(I)Ljava/lang/AbstractStringBuilder;" } : Jvm.MethodName) prog_13_method_32_code (4 : Nat) (Option.some (Jvm.ClassFile.FieldType.object "java/lang/AbstractStringBuilder"))) ∈ TBL := tk_6 (List.mem_of_getElem? (i := 20) rfl) rfl
theorem w_1221 : (Jvm.Cond.methodLink "java/lang/AbstractStringBuilder" (245 : Nat) ({ cls := "java/lang/Integer", name := "stringSize", desc := "(I)I" } : Jvm.MethodName)) ∈ TBL := tk_6 (List.mem_of_getElem? (i := 21) rfl) rfl
theorem w_1222 : (Jvm.Cond.static ({ cls := "java/lang/Integer", name := "stringSize", desc := "(I)I" } : Jvm.MethodName)) ∈ TBL := tk_6 (List.mem_of_getElem? (i := 22) rfl) rfl
theorem w_1223 : (Jvm.Cond.code ({ cls := "java/lang/Integer", name := "stringSize", desc := "(I)I" } : Jvm.MethodName) prog_24_method_13_code (4 : Nat) (Option.some Jvm.ClassFile.FieldType.int)) ∈ TBL := tk_6 (List.mem_of_getElem? (i := 23) rfl) rfl
theorem w_1224 : (Jvm.Cond.methodLink "java/lang/AbstractStringBuilder" (248 : Nat) ({ cls := "java/lang/Integer", name := "getChars", desc := "(II[B)I" } : Jvm.MethodName)) ∈ TBL := tk_6 (List.mem_of_getElem? (i := 24) rfl) rfl
theorem w_1225 : (Jvm.Cond.static ({ cls := "java/lang/Integer", name := "getChars", desc := "(II[B)I" } : Jvm.MethodName)) ∈ TBL := tk_6 (List.mem_of_getElem? (i := 25) rfl) rfl
theorem w_1226 : (Jvm.Cond.code ({ cls := "java/lang/Integer", name := "getChars", desc := "(II[B)I" } : Jvm.MethodName) prog_24_method_12_code (7 : Nat) (Option.some Jvm.ClassFile.FieldType.int)) ∈ TBL := tk_6 (List.mem_of_getElem? (i := 26) rfl) rfl
theorem w_1227 : (Jvm.Cond.fieldLink "java/lang/Integer" (83 : Nat) "java/lang/Integer" "DigitOnes" "[B") ∈ TBL := tk_6 (List.mem_of_getElem? (i := 27) rfl) rfl
theorem w_1229 : (Jvm.Cond.fieldLink "java/lang/Integer" (87 : Nat) "java/lang/Integer" "DigitTens" "[B") ∈ TBL := tk_6 (List.mem_of_getElem? (i := 29) rfl) rfl
theorem w_1259 : (Jvm.Cond.instanceMethod ({ cls := "java/lang/AbstractStringBuilder", name := "length", desc := "()I" } : Jvm.MethodName)) ∈ TBL := tk_6 (List.mem_of_getElem? (i := 59) rfl) rfl
theorem w_1260 : (Jvm.Cond.sameMethod "java/lang/AbstractStringBuilder" "java/lang/AbstractStringBuilder" "length" "()I") ∈ TBL := tk_6 (List.mem_of_getElem? (i := 60) rfl) rfl
theorem w_1264 : (Jvm.Cond.methodLink "java/lang/StringBuilder" (343 : Nat) ({ cls := "java/lang/AbstractStringBuilder", name := "length", desc := "()I" } : Jvm.MethodName)) ∈ TBL := tk_6 (List.mem_of_getElem? (i := 64) rfl) rfl
theorem w_1265 : (Jvm.Cond.code ({ cls := "java/lang/AbstractStringBuilder", name := "length", desc := "()I" } : Jvm.MethodName) prog_13_method_6_code (1 : Nat) (Option.some Jvm.ClassFile.FieldType.int)) ∈ TBL := tk_6 (List.mem_of_getElem? (i := 65) rfl) rfl
theorem w_1294 : (Jvm.Cond.fieldLink "java/lang/String" (9 : Nat) "java/lang/String" "value" "[B") ∈ TBL := tk_6 (List.mem_of_getElem? (i := 94) rfl) rfl
theorem w_1295 : (Jvm.Cond.fieldLink "java/lang/String" (15 : Nat) "java/lang/String" "coder" "B") ∈ TBL := tk_6 (List.mem_of_getElem? (i := 95) rfl) rfl
theorem w_1312 : (Jvm.Cond.methodLink "java/lang/StringBuilder" (333 : Nat) ({ cls := "java/lang/AbstractStringBuilder", name := "setLength", desc := "(I)V" } : Jvm.MethodName)) ∈ TBL := tk_6 (List.mem_of_getElem? (i := 112) rfl) rfl
theorem w_1313 : (Jvm.Cond.instanceMethod ({ cls := "java/lang/AbstractStringBuilder", name := "setLength", desc := "(I)V" } : Jvm.MethodName)) ∈ TBL := tk_6 (List.mem_of_getElem? (i := 113) rfl) rfl
theorem w_1314 : (Jvm.Cond.code ({ cls := "java/lang/AbstractStringBuilder", name := "setLength", desc := "(I)V" } : Jvm.MethodName) prog_13_method_13_code (2 : Nat) (Option.none : Option Jvm.ClassFile.FieldType)) ∈ TBL := tk_6 (List.mem_of_getElem? (i := 114) rfl) rfl
theorem w_1383 : (Jvm.Cond.methodLink "java/lang/StringBuilder" (329 : Nat) ({ cls := "java/lang/AbstractStringBuilder", name := "charAt", desc := "(I)C" } : Jvm.MethodName)) ∈ TBL := tk_6 (List.mem_of_getElem? (i := 183) rfl) rfl
theorem w_1384 : (Jvm.Cond.instanceMethod ({ cls := "java/lang/AbstractStringBuilder", name := "charAt", desc := "(I)C" } : Jvm.MethodName)) ∈ TBL := tk_6 (List.mem_of_getElem? (i := 184) rfl) rfl
theorem w_1385 : (Jvm.Cond.code ({ cls := "java/lang/AbstractStringBuilder", name := "charAt", desc := "(I)C" } : Jvm.MethodName) prog_13_method_14_code (5 : Nat) (Option.some Jvm.ClassFile.FieldType.char)) ∈ TBL := tk_6 (List.mem_of_getElem? (i := 185) rfl) rfl
theorem w_1386 : (Jvm.Cond.methodLink "java/lang/AbstractStringBuilder" (138 : Nat) ({ cls := "java/lang/Math", name := "min", desc := "(II)I" } : Jvm.MethodName)) ∈ TBL := tk_6 (List.mem_of_getElem? (i := 186) rfl) rfl
theorem w_1387 : (Jvm.Cond.methodLink "java/lang/AbstractStringBuilder" (144 : Nat) ({ cls := "java/lang/String", name := "checkIndex", desc := "(II)V" } : Jvm.MethodName)) ∈ TBL := tk_6 (List.mem_of_getElem? (i := 187) rfl) rfl
theorem w_1560 : (Jvm.Cond.sameMethod "java/lang/AbstractStringBuilder" "java/lang/AbstractStringBuilder" "ensureCapacityInternal" "(I)V") ∈ TBL := tk_7 (List.mem_of_getElem? (i := 120) rfl) rfl
theorem w_1561 : (Jvm.Cond.sameMethod "java/lang/AbstractStringBuilder" "java/lang/AbstractStringBuilder" "newCapacity" "(I)I") ∈ TBL := tk_7 (List.mem_of_getElem? (i := 121) rfl) rfl
theorem w_1565 : (Jvm.Cond.sameMethod "java/lang/AbstractStringBuilder" "java/lang/AbstractStringBuilder" "append" "(C)Ljava/lang/AbstractStringBuilder;") ∈ TBL := tk_7 (List.mem_of_getElem? (i := 125) rfl) rfl
theorem w_1566 : (Jvm.Cond.sameMethod "java/lang/AbstractStringBuilder" "java/lang/AbstractStringBuilder" "append" "(I)Ljava/lang/AbstractStringBuilder;") ∈ TBL := tk_7 (List.mem_of_getElem? (i := 126) rfl) rfl
theorem w_1567 : (Jvm.Cond.sameMethod "java/lang/AbstractStringBuilder" "java/lang/AbstractStringBuilder" "setLength" "(I)V") ∈ TBL := tk_7 (List.mem_of_getElem? (i := 127) rfl) rfl
theorem w_1569 : (Jvm.Cond.sameMethod "java/lang/AbstractStringBuilder" "java/lang/AbstractStringBuilder" "charAt" "(I)C") ∈ TBL := tk_7 (List.mem_of_getElem? (i := 129) rfl) rfl
theorem fJ5_79 : fOk RJ5 79 10 3 := ⟨by decide, by decide, w_325⟩
theorem fJ5_22 : fOk RJ5 22 10 1 := ⟨by decide, by decide, w_322⟩
theorem fJ5_15 : fOk RJ5 15 10 0 := ⟨by decide, by decide, w_321⟩
theorem fJ5_73 : fOk RJ5 73 10 2 := ⟨by decide, by decide, w_323⟩
theorem gJ0_335 : yOk RJ0 335 0 mJ0_coder_7d493 := ⟨w_1162, w_1165, w_12, ⟨by decide, by decide⟩, by decide +kernel⟩
theorem gJ0_492 : yOk RJ0 492 0 mJ0_isLatin1_aae02 := ⟨w_564, w_567, w_12, ⟨by decide, by decide⟩, by decide +kernel⟩
theorem gJ0_495 : yOk RJ0 495 2 mJ1_charAt_3b067 := ⟨w_569, w_571, w_22, ⟨by decide, by decide⟩, by decide +kernel⟩
theorem gJ1_9 : yOk RJ1 9 2 mJ0_checkIndex_df160 := ⟨w_572, w_574, w_12, ⟨by decide, by decide⟩, by decide +kernel⟩
theorem gJ0_1059 : yOk RJ0 1059 3 mJ3_checkIndex_8e157 := ⟨w_577, w_579, w_23, ⟨by decide, by decide⟩, by decide +kernel⟩
theorem gJ5_138 : yOk RJ5 138 2 mJ9_min_7cf53 := ⟨w_1386, w_1134, w_21, ⟨by decide, by decide⟩, by decide +kernel⟩
theorem gJ5_144 : yOk RJ5 144 2 mJ0_checkIndex_df160 := ⟨w_1387, w_574, w_12, ⟨by decide, by decide⟩, by decide +kernel⟩
theorem gJ5_104 : yOk RJ5 104 1 mJ5_newCapacity_0f7a4 := ⟨w_1107, w_1110, w_10, ⟨by decide, by decide⟩, by decide +kernel⟩
theorem gJ5_108 : yOk RJ5 108 2 mJ7_copyOf_9075b := ⟨w_1122, w_1124, w_27, ⟨by decide, by decide⟩, by decide +kernel⟩
theorem gJ5_114 : yOk RJ5 114 3 mJ8_newLength_cabcc := ⟨w_1111, w_1113, w_26, ⟨by decide, by decide⟩, by decide +kernel⟩
theorem gJ8_194 : yOk RJ8 194 2 mJ9_max_7cf53 := ⟨w_1114, w_1116, w_21, ⟨by decide, by decide⟩, by decide +kernel⟩
theorem gJ7_304 : yOk RJ7 304 2 mJ9_min_7cf53 := ⟨w_1132, w_1134, w_21, ⟨by decide, by decide⟩, by decide +kernel⟩
theorem gJ5_100 : yOk RJ5 100 1 mJ5_ensureCapacityInternal_d00df := ⟨w_1103, w_1106, w_10, ⟨by decide, by decide⟩, by decide +kernel⟩
theorem gJ5_83 : yOk RJ5 83 0 mJ5_isLatin1_aae02 := ⟨w_1138, w_1142, w_10, ⟨by decide, by decide⟩, by decide +kernel⟩
theorem gJ5_191 : yOk RJ5 191 1 mJ1_canEncode_fc78d := ⟨w_1208, w_1210, w_22, ⟨by decide, by decide⟩, by decide +kernel⟩
theorem gJ5_245 : yOk RJ5 245 1 mJ6_stringSize_0f7a4 := ⟨w_1221, w_1223, w_30, ⟨by decide, by decide⟩, by decide +kernel⟩
theorem gJ5_248 : yOk RJ5 248 3 mJ6_getChars_ba4f3 := ⟨w_1224, w_1226, w_30, ⟨by decide, by decide⟩, by decide +kernel⟩
theorem gJ4_343 : yOk RJ4 343 0 mJ5_length_8abf5 := ⟨w_1264, w_1265, w_10, ⟨by decide, by decide⟩, by decide +kernel⟩
theorem gJ4_329 : yOk RJ4 329 1 mJ5_charAt_5068e := ⟨w_1383, w_1385, w_10, ⟨by decide, by decide⟩, by decide +kernel⟩
theorem gJ4_333 : yOk RJ4 333 1 mJ5_setLength_d00df := ⟨w_1312, w_1314, w_10, ⟨by decide, by decide⟩, by decide +kernel⟩
theorem gJ4_50 : yOk RJ4 50 1 mJ5_append_3fe6f := ⟨w_1205, w_1207, w_10, ⟨by decide, by decide⟩, by decide +kernel⟩
theorem gJ4_53 : yOk RJ4 53 1 mJ5_append_c97b9 := ⟨w_1218, w_1220, w_10, ⟨by decide, by decide⟩, by decide +kernel⟩
theorem gJ4_1 : yOk RJ4 1 1 mJ5_init_d00df := ⟨w_308, w_310, w_10, ⟨by decide, by decide⟩, by decide +kernel⟩
theorem sl_J5_isLatin1_aae02 {G : GG} (gk : GOK G) : ∀ {s : State} {args : Array Value}, (gs G).WarmedH s.vm → (Cond.selects (clN 10) mJ5_isLatin1_aae02.1 mJ5_isLatin1_aae02.1).before args s = true := fun hW => tb_s gk hW _ w_1141
theorem sl_J5_ensureCapacityInternal_d00df {G : GG} (gk : GOK G) : ∀ {s : State} {args : Array Value}, (gs G).WarmedH s.vm → (Cond.selects (clN 10) mJ5_ensureCapacityInternal_d00df.1 mJ5_ensureCapacityInternal_d00df.1).before args s = true := fun hW => word_at hW (good_of_word rfl) (sel_pv ⟨by decide, by decide⟩ (gk.2.1 _ (List.mem_filter.mp w_304).1) (gk.2.1 _ (tl_5 (List.mem_of_getElem? (i := 144) rfl))) (gk.2.1 _ (List.mem_filter.mp w_1105).1) (gk.2.1 _ (List.mem_filter.mp w_1560).1))
theorem sl_J5_newCapacity_0f7a4 {G : GG} (gk : GOK G) : ∀ {s : State} {args : Array Value}, (gs G).WarmedH s.vm → (Cond.selects (clN 10) mJ5_newCapacity_0f7a4.1 mJ5_newCapacity_0f7a4.1).before args s = true := fun hW => word_at hW (good_of_word rfl) (sel_pv ⟨by decide, by decide⟩ (gk.2.1 _ (List.mem_filter.mp w_304).1) (gk.2.1 _ (tl_5 (List.mem_of_getElem? (i := 148) rfl))) (gk.2.1 _ (List.mem_filter.mp w_1109).1) (gk.2.1 _ (List.mem_filter.mp w_1561).1))
def rJ5_ensureCapacityInternal_d00df_b : Room := { frames := 5, cells := 1, slots := 140, locals := 130 }
def rJ7_copyOf_9075b_b : Room := { frames := 3, cells := 1, slots := 140, locals := 100 }
def rJ5_setLength_d00df_b : Room := { frames := 7, cells := 0, slots := 0, locals := 200 }
def rJ5_append_3fe6f_b : Room := { frames := 7, cells := 1, slots := 140, locals := 200 }
def rJ5_append_c97b9_b : Room := { frames := 7, cells := 1, slots := 140, locals := 200 }
def rJ5_init_d00df_b : Room := { frames := 3, cells := 1, slots := 16, locals := 60 }
theorem dJ0_length_8abf5_0 : decode mJ0_length_8abf5.2.1 0 = .ok (.aload_n 0, 1) := by decide +kernel
theorem dJ0_length_8abf5_1 : decode mJ0_length_8abf5.2.1 1 = .ok (.getfield 9, 3) := by decide +kernel
theorem dJ0_length_8abf5_4 : decode mJ0_length_8abf5.2.1 4 = .ok (.arraylength, 1) := by decide +kernel
theorem dJ0_length_8abf5_5 : decode mJ0_length_8abf5.2.1 5 = .ok (.aload_n 0, 1) := by decide +kernel
theorem dJ0_length_8abf5_6 : decode mJ0_length_8abf5.2.1 6 = .ok (.invokevirtual 335, 3) := by decide +kernel
theorem dJ0_length_8abf5_9 : decode mJ0_length_8abf5.2.1 9 = .ok (.ishr, 1) := by decide +kernel
theorem dJ0_length_8abf5_10 : decode mJ0_length_8abf5.2.1 10 = .ok (.ireturn, 1) := by decide +kernel
theorem dJ0_coder_7d493_0 : decode mJ0_coder_7d493.2.1 0 = .ok (.getstatic 38, 3) := by decide +kernel
theorem dJ0_coder_7d493_3 : decode mJ0_coder_7d493.2.1 3 = .ok (.ifCond .eq 10, 3) := by decide +kernel
theorem dJ0_coder_7d493_6 : decode mJ0_coder_7d493.2.1 6 = .ok (.aload_n 0, 1) := by decide +kernel
theorem dJ0_coder_7d493_7 : decode mJ0_coder_7d493.2.1 7 = .ok (.getfield 15, 3) := by decide +kernel
theorem dJ0_coder_7d493_10 : decode mJ0_coder_7d493.2.1 10 = .ok (.goto 4, 3) := by decide +kernel
theorem dJ0_coder_7d493_13 : decode mJ0_coder_7d493.2.1 13 = .ok (.iconst 1, 1) := by decide +kernel
theorem dJ0_coder_7d493_14 : decode mJ0_coder_7d493.2.1 14 = .ok (.ireturn, 1) := by decide +kernel
theorem dJ0_charAt_5068e_0 : decode mJ0_charAt_5068e.2.1 0 = .ok (.aload_n 0, 1) := by decide +kernel
theorem dJ0_charAt_5068e_1 : decode mJ0_charAt_5068e.2.1 1 = .ok (.invokevirtual 492, 3) := by decide +kernel
theorem dJ0_charAt_5068e_4 : decode mJ0_charAt_5068e.2.1 4 = .ok (.ifCond .eq 12, 3) := by decide +kernel
theorem dJ0_charAt_5068e_7 : decode mJ0_charAt_5068e.2.1 7 = .ok (.aload_n 0, 1) := by decide +kernel
theorem dJ0_charAt_5068e_8 : decode mJ0_charAt_5068e.2.1 8 = .ok (.getfield 9, 3) := by decide +kernel
theorem dJ0_charAt_5068e_11 : decode mJ0_charAt_5068e.2.1 11 = .ok (.iload_n 1, 1) := by decide +kernel
theorem dJ0_charAt_5068e_12 : decode mJ0_charAt_5068e.2.1 12 = .ok (.invokestatic 495, 3) := by decide +kernel
theorem dJ0_charAt_5068e_15 : decode mJ0_charAt_5068e.2.1 15 = .ok (.ireturn, 1) := by decide +kernel
theorem dJ0_charAt_5068e_16 : decode mJ0_charAt_5068e.2.1 16 = .ok (.aload_n 0, 1) := by decide +kernel
theorem dJ0_charAt_5068e_17 : decode mJ0_charAt_5068e.2.1 17 = .ok (.getfield 9, 3) := by decide +kernel
theorem dJ0_charAt_5068e_20 : decode mJ0_charAt_5068e.2.1 20 = .ok (.iload_n 1, 1) := by decide +kernel
theorem dJ0_charAt_5068e_21 : decode mJ0_charAt_5068e.2.1 21 = .ok (.invokestatic 498, 3) := by decide +kernel
theorem dJ0_charAt_5068e_24 : decode mJ0_charAt_5068e.2.1 24 = .ok (.ireturn, 1) := by decide +kernel
theorem dJ0_isLatin1_aae02_0 : decode mJ0_isLatin1_aae02.2.1 0 = .ok (.getstatic 38, 3) := by decide +kernel
theorem dJ0_isLatin1_aae02_3 : decode mJ0_isLatin1_aae02.2.1 3 = .ok (.ifCond .eq 14, 3) := by decide +kernel
theorem dJ0_isLatin1_aae02_6 : decode mJ0_isLatin1_aae02.2.1 6 = .ok (.aload_n 0, 1) := by decide +kernel
theorem dJ0_isLatin1_aae02_7 : decode mJ0_isLatin1_aae02.2.1 7 = .ok (.getfield 15, 3) := by decide +kernel
theorem dJ0_isLatin1_aae02_10 : decode mJ0_isLatin1_aae02.2.1 10 = .ok (.ifCond .ne 7, 3) := by decide +kernel
theorem dJ0_isLatin1_aae02_13 : decode mJ0_isLatin1_aae02.2.1 13 = .ok (.iconst 1, 1) := by decide +kernel
theorem dJ0_isLatin1_aae02_14 : decode mJ0_isLatin1_aae02.2.1 14 = .ok (.goto 4, 3) := by decide +kernel
theorem dJ0_isLatin1_aae02_17 : decode mJ0_isLatin1_aae02.2.1 17 = .ok (.iconst 0, 1) := by decide +kernel
theorem dJ0_isLatin1_aae02_18 : decode mJ0_isLatin1_aae02.2.1 18 = .ok (.ireturn, 1) := by decide +kernel
theorem dJ1_charAt_3b067_0 : decode mJ1_charAt_3b067.2.1 0 = .ok (.iload_n 1, 1) := by decide +kernel
theorem dJ1_charAt_3b067_1 : decode mJ1_charAt_3b067.2.1 1 = .ok (.aload_n 0, 1) := by decide +kernel
theorem dJ1_charAt_3b067_2 : decode mJ1_charAt_3b067.2.1 2 = .ok (.arraylength, 1) := by decide +kernel
theorem dJ1_charAt_3b067_3 : decode mJ1_charAt_3b067.2.1 3 = .ok (.invokestatic 9, 3) := by decide +kernel
theorem dJ1_charAt_3b067_6 : decode mJ1_charAt_3b067.2.1 6 = .ok (.aload_n 0, 1) := by decide +kernel
theorem dJ1_charAt_3b067_7 : decode mJ1_charAt_3b067.2.1 7 = .ok (.iload_n 1, 1) := by decide +kernel
theorem dJ1_charAt_3b067_8 : decode mJ1_charAt_3b067.2.1 8 = .ok (.baload, 1) := by decide +kernel
theorem dJ1_charAt_3b067_9 : decode mJ1_charAt_3b067.2.1 9 = .ok (.sipush 255, 3) := by decide +kernel
theorem dJ1_charAt_3b067_12 : decode mJ1_charAt_3b067.2.1 12 = .ok (.iand, 1) := by decide +kernel
theorem dJ1_charAt_3b067_13 : decode mJ1_charAt_3b067.2.1 13 = .ok (.i2c, 1) := by decide +kernel
theorem dJ1_charAt_3b067_14 : decode mJ1_charAt_3b067.2.1 14 = .ok (.ireturn, 1) := by decide +kernel
theorem dJ0_checkIndex_df160_0 : decode mJ0_checkIndex_df160.2.1 0 = .ok (.iload_n 0, 1) := by decide +kernel
theorem dJ0_checkIndex_df160_1 : decode mJ0_checkIndex_df160.2.1 1 = .ok (.iload_n 1, 1) := by decide +kernel
theorem dJ0_checkIndex_df160_2 : decode mJ0_checkIndex_df160.2.1 2 = .ok (.getstatic 1053, 3) := by decide +kernel
theorem dJ0_checkIndex_df160_5 : decode mJ0_checkIndex_df160.2.1 5 = .ok (.invokestatic 1059, 3) := by decide +kernel
theorem dJ0_checkIndex_df160_8 : decode mJ0_checkIndex_df160.2.1 8 = .ok (.pop, 1) := by decide +kernel
theorem dJ0_checkIndex_df160_9 : decode mJ0_checkIndex_df160.2.1 9 = .ok (.return_, 1) := by decide +kernel
theorem dJ3_checkIndex_8e157_0 : decode mJ3_checkIndex_8e157.2.1 0 = .ok (.iload_n 0, 1) := by decide +kernel
theorem dJ3_checkIndex_8e157_1 : decode mJ3_checkIndex_8e157.2.1 1 = .ok (.ifCond .lt 8, 3) := by decide +kernel
theorem dJ3_checkIndex_8e157_4 : decode mJ3_checkIndex_8e157.2.1 4 = .ok (.iload_n 0, 1) := by decide +kernel
theorem dJ3_checkIndex_8e157_5 : decode mJ3_checkIndex_8e157.2.1 5 = .ok (.iload_n 1, 1) := by decide +kernel
theorem dJ3_checkIndex_8e157_6 : decode mJ3_checkIndex_8e157.2.1 6 = .ok (.if_icmp .lt 10, 3) := by decide +kernel
theorem dJ3_checkIndex_8e157_9 : decode mJ3_checkIndex_8e157.2.1 9 = .ok (.aload_n 2, 1) := by decide +kernel
theorem dJ3_checkIndex_8e157_10 : decode mJ3_checkIndex_8e157.2.1 10 = .ok (.iload_n 0, 1) := by decide +kernel
theorem dJ3_checkIndex_8e157_11 : decode mJ3_checkIndex_8e157.2.1 11 = .ok (.iload_n 1, 1) := by decide +kernel
theorem dJ3_checkIndex_8e157_12 : decode mJ3_checkIndex_8e157.2.1 12 = .ok (.invokestatic 95, 3) := by decide +kernel
theorem dJ3_checkIndex_8e157_15 : decode mJ3_checkIndex_8e157.2.1 15 = .ok (.athrow, 1) := by decide +kernel
theorem dJ3_checkIndex_8e157_16 : decode mJ3_checkIndex_8e157.2.1 16 = .ok (.iload_n 0, 1) := by decide +kernel
theorem dJ3_checkIndex_8e157_17 : decode mJ3_checkIndex_8e157.2.1 17 = .ok (.ireturn, 1) := by decide +kernel
theorem dJ9_min_7cf53_0 : decode mJ9_min_7cf53.2.1 0 = .ok (.iload_n 0, 1) := by decide +kernel
theorem dJ9_min_7cf53_1 : decode mJ9_min_7cf53.2.1 1 = .ok (.iload_n 1, 1) := by decide +kernel
theorem dJ9_min_7cf53_2 : decode mJ9_min_7cf53.2.1 2 = .ok (.if_icmp .gt 7, 3) := by decide +kernel
theorem dJ9_min_7cf53_5 : decode mJ9_min_7cf53.2.1 5 = .ok (.iload_n 0, 1) := by decide +kernel
theorem dJ9_min_7cf53_6 : decode mJ9_min_7cf53.2.1 6 = .ok (.goto 4, 3) := by decide +kernel
theorem dJ9_min_7cf53_9 : decode mJ9_min_7cf53.2.1 9 = .ok (.iload_n 1, 1) := by decide +kernel
theorem dJ9_min_7cf53_10 : decode mJ9_min_7cf53.2.1 10 = .ok (.ireturn, 1) := by decide +kernel
theorem dJ5_length_8abf5_0 : decode mJ5_length_8abf5.2.1 0 = .ok (.aload_n 0, 1) := by decide +kernel
theorem dJ5_length_8abf5_1 : decode mJ5_length_8abf5.2.1 1 = .ok (.getfield 79, 3) := by decide +kernel
theorem dJ5_length_8abf5_4 : decode mJ5_length_8abf5.2.1 4 = .ok (.ireturn, 1) := by decide +kernel
theorem dJ5_charAt_5068e_0 : decode mJ5_charAt_5068e.2.1 0 = .ok (.aload_n 0, 1) := by decide +kernel
theorem dJ5_charAt_5068e_1 : decode mJ5_charAt_5068e.2.1 1 = .ok (.getfield 22, 3) := by decide +kernel
theorem dJ5_charAt_5068e_4 : decode mJ5_charAt_5068e.2.1 4 = .ok (.istore_n 2, 1) := by decide +kernel
theorem dJ5_charAt_5068e_5 : decode mJ5_charAt_5068e.2.1 5 = .ok (.aload_n 0, 1) := by decide +kernel
theorem dJ5_charAt_5068e_6 : decode mJ5_charAt_5068e.2.1 6 = .ok (.getfield 15, 3) := by decide +kernel
theorem dJ5_charAt_5068e_9 : decode mJ5_charAt_5068e.2.1 9 = .ok (.astore_n 3, 1) := by decide +kernel
theorem dJ5_charAt_5068e_10 : decode mJ5_charAt_5068e.2.1 10 = .ok (.aload_n 0, 1) := by decide +kernel
theorem dJ5_charAt_5068e_11 : decode mJ5_charAt_5068e.2.1 11 = .ok (.getfield 79, 3) := by decide +kernel
theorem dJ5_charAt_5068e_14 : decode mJ5_charAt_5068e.2.1 14 = .ok (.aload_n 3, 1) := by decide +kernel
theorem dJ5_charAt_5068e_15 : decode mJ5_charAt_5068e.2.1 15 = .ok (.arraylength, 1) := by decide +kernel
theorem dJ5_charAt_5068e_16 : decode mJ5_charAt_5068e.2.1 16 = .ok (.iload_n 2, 1) := by decide +kernel
theorem dJ5_charAt_5068e_17 : decode mJ5_charAt_5068e.2.1 17 = .ok (.ishr, 1) := by decide +kernel
theorem dJ5_charAt_5068e_18 : decode mJ5_charAt_5068e.2.1 18 = .ok (.invokestatic 138, 3) := by decide +kernel
theorem dJ5_charAt_5068e_21 : decode mJ5_charAt_5068e.2.1 21 = .ok (.istore 4, 2) := by decide +kernel
theorem dJ5_charAt_5068e_23 : decode mJ5_charAt_5068e.2.1 23 = .ok (.iload_n 1, 1) := by decide +kernel
theorem dJ5_charAt_5068e_24 : decode mJ5_charAt_5068e.2.1 24 = .ok (.iload 4, 2) := by decide +kernel
theorem dJ5_charAt_5068e_26 : decode mJ5_charAt_5068e.2.1 26 = .ok (.invokestatic 144, 3) := by decide +kernel
theorem dJ5_charAt_5068e_29 : decode mJ5_charAt_5068e.2.1 29 = .ok (.iload_n 2, 1) := by decide +kernel
theorem dJ5_charAt_5068e_30 : decode mJ5_charAt_5068e.2.1 30 = .ok (.ifCond .ne 12, 3) := by decide +kernel
theorem dJ5_charAt_5068e_33 : decode mJ5_charAt_5068e.2.1 33 = .ok (.aload_n 3, 1) := by decide +kernel
theorem dJ5_charAt_5068e_34 : decode mJ5_charAt_5068e.2.1 34 = .ok (.iload_n 1, 1) := by decide +kernel
theorem dJ5_charAt_5068e_35 : decode mJ5_charAt_5068e.2.1 35 = .ok (.baload, 1) := by decide +kernel
theorem dJ5_charAt_5068e_36 : decode mJ5_charAt_5068e.2.1 36 = .ok (.sipush 255, 3) := by decide +kernel
theorem dJ5_charAt_5068e_39 : decode mJ5_charAt_5068e.2.1 39 = .ok (.iand, 1) := by decide +kernel
theorem dJ5_charAt_5068e_40 : decode mJ5_charAt_5068e.2.1 40 = .ok (.i2c, 1) := by decide +kernel
theorem dJ5_charAt_5068e_41 : decode mJ5_charAt_5068e.2.1 41 = .ok (.ireturn, 1) := by decide +kernel
theorem dJ5_charAt_5068e_42 : decode mJ5_charAt_5068e.2.1 42 = .ok (.aload_n 3, 1) := by decide +kernel
theorem dJ5_charAt_5068e_43 : decode mJ5_charAt_5068e.2.1 43 = .ok (.iload_n 1, 1) := by decide +kernel
theorem dJ5_charAt_5068e_44 : decode mJ5_charAt_5068e.2.1 44 = .ok (.invokestatic 148, 3) := by decide +kernel
theorem dJ5_charAt_5068e_47 : decode mJ5_charAt_5068e.2.1 47 = .ok (.ireturn, 1) := by decide +kernel
theorem dJ5_isLatin1_aae02_0 : decode mJ5_isLatin1_aae02.2.1 0 = .ok (.getstatic 18, 3) := by decide +kernel
theorem dJ5_isLatin1_aae02_3 : decode mJ5_isLatin1_aae02.2.1 3 = .ok (.ifCond .eq 14, 3) := by decide +kernel
theorem dJ5_isLatin1_aae02_6 : decode mJ5_isLatin1_aae02.2.1 6 = .ok (.aload_n 0, 1) := by decide +kernel
theorem dJ5_isLatin1_aae02_7 : decode mJ5_isLatin1_aae02.2.1 7 = .ok (.getfield 22, 3) := by decide +kernel
theorem dJ5_isLatin1_aae02_10 : decode mJ5_isLatin1_aae02.2.1 10 = .ok (.ifCond .ne 7, 3) := by decide +kernel
theorem dJ5_isLatin1_aae02_13 : decode mJ5_isLatin1_aae02.2.1 13 = .ok (.iconst 1, 1) := by decide +kernel
theorem dJ5_isLatin1_aae02_14 : decode mJ5_isLatin1_aae02.2.1 14 = .ok (.goto 4, 3) := by decide +kernel
theorem dJ5_isLatin1_aae02_17 : decode mJ5_isLatin1_aae02.2.1 17 = .ok (.iconst 0, 1) := by decide +kernel
theorem dJ5_isLatin1_aae02_18 : decode mJ5_isLatin1_aae02.2.1 18 = .ok (.ireturn, 1) := by decide +kernel
theorem dJ5_ensureCapacityInternal_d00df_0 : decode mJ5_ensureCapacityInternal_d00df.2.1 0 = .ok (.aload_n 0, 1) := by decide +kernel
theorem dJ5_ensureCapacityInternal_d00df_1 : decode mJ5_ensureCapacityInternal_d00df.2.1 1 = .ok (.getfield 15, 3) := by decide +kernel
theorem dJ5_ensureCapacityInternal_d00df_4 : decode mJ5_ensureCapacityInternal_d00df.2.1 4 = .ok (.arraylength, 1) := by decide +kernel
theorem dJ5_ensureCapacityInternal_d00df_5 : decode mJ5_ensureCapacityInternal_d00df.2.1 5 = .ok (.aload_n 0, 1) := by decide +kernel
theorem dJ5_ensureCapacityInternal_d00df_6 : decode mJ5_ensureCapacityInternal_d00df.2.1 6 = .ok (.getfield 22, 3) := by decide +kernel
theorem dJ5_ensureCapacityInternal_d00df_9 : decode mJ5_ensureCapacityInternal_d00df.2.1 9 = .ok (.ishr, 1) := by decide +kernel
theorem dJ5_ensureCapacityInternal_d00df_10 : decode mJ5_ensureCapacityInternal_d00df.2.1 10 = .ok (.istore_n 2, 1) := by decide +kernel
theorem dJ5_ensureCapacityInternal_d00df_11 : decode mJ5_ensureCapacityInternal_d00df.2.1 11 = .ok (.iload_n 1, 1) := by decide +kernel
theorem dJ5_ensureCapacityInternal_d00df_12 : decode mJ5_ensureCapacityInternal_d00df.2.1 12 = .ok (.iload_n 2, 1) := by decide +kernel
theorem dJ5_ensureCapacityInternal_d00df_13 : decode mJ5_ensureCapacityInternal_d00df.2.1 13 = .ok (.isub, 1) := by decide +kernel
theorem dJ5_ensureCapacityInternal_d00df_14 : decode mJ5_ensureCapacityInternal_d00df.2.1 14 = .ok (.ifCond .le 24, 3) := by decide +kernel
theorem dJ5_ensureCapacityInternal_d00df_17 : decode mJ5_ensureCapacityInternal_d00df.2.1 17 = .ok (.aload_n 0, 1) := by decide +kernel
theorem dJ5_ensureCapacityInternal_d00df_18 : decode mJ5_ensureCapacityInternal_d00df.2.1 18 = .ok (.aload_n 0, 1) := by decide +kernel
theorem dJ5_ensureCapacityInternal_d00df_19 : decode mJ5_ensureCapacityInternal_d00df.2.1 19 = .ok (.getfield 15, 3) := by decide +kernel
theorem dJ5_ensureCapacityInternal_d00df_22 : decode mJ5_ensureCapacityInternal_d00df.2.1 22 = .ok (.aload_n 0, 1) := by decide +kernel
theorem dJ5_ensureCapacityInternal_d00df_23 : decode mJ5_ensureCapacityInternal_d00df.2.1 23 = .ok (.iload_n 1, 1) := by decide +kernel
theorem dJ5_ensureCapacityInternal_d00df_24 : decode mJ5_ensureCapacityInternal_d00df.2.1 24 = .ok (.invokevirtual 104, 3) := by decide +kernel
theorem dJ5_ensureCapacityInternal_d00df_27 : decode mJ5_ensureCapacityInternal_d00df.2.1 27 = .ok (.aload_n 0, 1) := by decide +kernel
theorem dJ5_ensureCapacityInternal_d00df_28 : decode mJ5_ensureCapacityInternal_d00df.2.1 28 = .ok (.getfield 22, 3) := by decide +kernel
theorem dJ5_ensureCapacityInternal_d00df_31 : decode mJ5_ensureCapacityInternal_d00df.2.1 31 = .ok (.ishl, 1) := by decide +kernel
theorem dJ5_ensureCapacityInternal_d00df_32 : decode mJ5_ensureCapacityInternal_d00df.2.1 32 = .ok (.invokestatic 108, 3) := by decide +kernel
theorem dJ5_ensureCapacityInternal_d00df_35 : decode mJ5_ensureCapacityInternal_d00df.2.1 35 = .ok (.putfield 15, 3) := by decide +kernel
theorem dJ5_ensureCapacityInternal_d00df_38 : decode mJ5_ensureCapacityInternal_d00df.2.1 38 = .ok (.return_, 1) := by decide +kernel
theorem dJ5_newCapacity_0f7a4_0 : decode mJ5_newCapacity_0f7a4.2.1 0 = .ok (.aload_n 0, 1) := by decide +kernel
theorem dJ5_newCapacity_0f7a4_1 : decode mJ5_newCapacity_0f7a4.2.1 1 = .ok (.getfield 15, 3) := by decide +kernel
theorem dJ5_newCapacity_0f7a4_4 : decode mJ5_newCapacity_0f7a4.2.1 4 = .ok (.arraylength, 1) := by decide +kernel
theorem dJ5_newCapacity_0f7a4_5 : decode mJ5_newCapacity_0f7a4.2.1 5 = .ok (.istore_n 2, 1) := by decide +kernel
theorem dJ5_newCapacity_0f7a4_6 : decode mJ5_newCapacity_0f7a4.2.1 6 = .ok (.iload_n 1, 1) := by decide +kernel
theorem dJ5_newCapacity_0f7a4_7 : decode mJ5_newCapacity_0f7a4.2.1 7 = .ok (.aload_n 0, 1) := by decide +kernel
theorem dJ5_newCapacity_0f7a4_8 : decode mJ5_newCapacity_0f7a4.2.1 8 = .ok (.getfield 22, 3) := by decide +kernel
theorem dJ5_newCapacity_0f7a4_11 : decode mJ5_newCapacity_0f7a4.2.1 11 = .ok (.ishl, 1) := by decide +kernel
theorem dJ5_newCapacity_0f7a4_12 : decode mJ5_newCapacity_0f7a4.2.1 12 = .ok (.istore_n 3, 1) := by decide +kernel
theorem dJ5_newCapacity_0f7a4_13 : decode mJ5_newCapacity_0f7a4.2.1 13 = .ok (.iload_n 3, 1) := by decide +kernel
theorem dJ5_newCapacity_0f7a4_14 : decode mJ5_newCapacity_0f7a4.2.1 14 = .ok (.iload_n 2, 1) := by decide +kernel
theorem dJ5_newCapacity_0f7a4_15 : decode mJ5_newCapacity_0f7a4.2.1 15 = .ok (.isub, 1) := by decide +kernel
theorem dJ5_newCapacity_0f7a4_16 : decode mJ5_newCapacity_0f7a4.2.1 16 = .ok (.istore 4, 2) := by decide +kernel
theorem dJ5_newCapacity_0f7a4_18 : decode mJ5_newCapacity_0f7a4.2.1 18 = .ok (.iload_n 2, 1) := by decide +kernel
theorem dJ5_newCapacity_0f7a4_19 : decode mJ5_newCapacity_0f7a4.2.1 19 = .ok (.iload 4, 2) := by decide +kernel
theorem dJ5_newCapacity_0f7a4_21 : decode mJ5_newCapacity_0f7a4.2.1 21 = .ok (.iload_n 2, 1) := by decide +kernel
theorem dJ5_newCapacity_0f7a4_22 : decode mJ5_newCapacity_0f7a4.2.1 22 = .ok (.iconst 2, 1) := by decide +kernel
theorem dJ5_newCapacity_0f7a4_23 : decode mJ5_newCapacity_0f7a4.2.1 23 = .ok (.aload_n 0, 1) := by decide +kernel
theorem dJ5_newCapacity_0f7a4_24 : decode mJ5_newCapacity_0f7a4.2.1 24 = .ok (.getfield 22, 3) := by decide +kernel
theorem dJ5_newCapacity_0f7a4_27 : decode mJ5_newCapacity_0f7a4.2.1 27 = .ok (.ishl, 1) := by decide +kernel
theorem dJ5_newCapacity_0f7a4_28 : decode mJ5_newCapacity_0f7a4.2.1 28 = .ok (.iadd, 1) := by decide +kernel
theorem dJ5_newCapacity_0f7a4_29 : decode mJ5_newCapacity_0f7a4.2.1 29 = .ok (.invokestatic 114, 3) := by decide +kernel
theorem dJ5_newCapacity_0f7a4_32 : decode mJ5_newCapacity_0f7a4.2.1 32 = .ok (.istore 5, 2) := by decide +kernel
theorem dJ5_newCapacity_0f7a4_34 : decode mJ5_newCapacity_0f7a4.2.1 34 = .ok (.iload 5, 2) := by decide +kernel
theorem dJ5_newCapacity_0f7a4_36 : decode mJ5_newCapacity_0f7a4.2.1 36 = .ok (.ldc 39, 2) := by decide +kernel
theorem dJ5_newCapacity_0f7a4_38 : decode mJ5_newCapacity_0f7a4.2.1 38 = .ok (.if_icmp .ne 13, 3) := by decide +kernel
theorem dJ5_newCapacity_0f7a4_41 : decode mJ5_newCapacity_0f7a4.2.1 41 = .ok (.new 120, 3) := by decide +kernel
theorem dJ5_newCapacity_0f7a4_44 : decode mJ5_newCapacity_0f7a4.2.1 44 = .ok (.dup, 1) := by decide +kernel
theorem dJ5_newCapacity_0f7a4_45 : decode mJ5_newCapacity_0f7a4.2.1 45 = .ok (.ldc 122, 2) := by decide +kernel
theorem dJ5_newCapacity_0f7a4_47 : decode mJ5_newCapacity_0f7a4.2.1 47 = .ok (.invokespecial 124, 3) := by decide +kernel
theorem dJ5_newCapacity_0f7a4_50 : decode mJ5_newCapacity_0f7a4.2.1 50 = .ok (.athrow, 1) := by decide +kernel
theorem dJ5_newCapacity_0f7a4_51 : decode mJ5_newCapacity_0f7a4.2.1 51 = .ok (.iload 5, 2) := by decide +kernel
theorem dJ5_newCapacity_0f7a4_53 : decode mJ5_newCapacity_0f7a4.2.1 53 = .ok (.aload_n 0, 1) := by decide +kernel
theorem dJ5_newCapacity_0f7a4_54 : decode mJ5_newCapacity_0f7a4.2.1 54 = .ok (.getfield 22, 3) := by decide +kernel
theorem dJ5_newCapacity_0f7a4_57 : decode mJ5_newCapacity_0f7a4.2.1 57 = .ok (.ishr, 1) := by decide +kernel
theorem dJ5_newCapacity_0f7a4_58 : decode mJ5_newCapacity_0f7a4.2.1 58 = .ok (.ireturn, 1) := by decide +kernel
theorem dJ8_newLength_cabcc_0 : decode mJ8_newLength_cabcc.2.1 0 = .ok (.iload_n 0, 1) := by decide +kernel
theorem dJ8_newLength_cabcc_1 : decode mJ8_newLength_cabcc.2.1 1 = .ok (.iload_n 1, 1) := by decide +kernel
theorem dJ8_newLength_cabcc_2 : decode mJ8_newLength_cabcc.2.1 2 = .ok (.iload_n 2, 1) := by decide +kernel
theorem dJ8_newLength_cabcc_3 : decode mJ8_newLength_cabcc.2.1 3 = .ok (.invokestatic 194, 3) := by decide +kernel
theorem dJ8_newLength_cabcc_6 : decode mJ8_newLength_cabcc.2.1 6 = .ok (.iadd, 1) := by decide +kernel
theorem dJ8_newLength_cabcc_7 : decode mJ8_newLength_cabcc.2.1 7 = .ok (.istore_n 3, 1) := by decide +kernel
theorem dJ8_newLength_cabcc_8 : decode mJ8_newLength_cabcc.2.1 8 = .ok (.iconst 0, 1) := by decide +kernel
theorem dJ8_newLength_cabcc_9 : decode mJ8_newLength_cabcc.2.1 9 = .ok (.iload_n 3, 1) := by decide +kernel
theorem dJ8_newLength_cabcc_10 : decode mJ8_newLength_cabcc.2.1 10 = .ok (.if_icmp .ge 11, 3) := by decide +kernel
theorem dJ8_newLength_cabcc_13 : decode mJ8_newLength_cabcc.2.1 13 = .ok (.iload_n 3, 1) := by decide +kernel
theorem dJ8_newLength_cabcc_14 : decode mJ8_newLength_cabcc.2.1 14 = .ok (.ldc 200, 2) := by decide +kernel
theorem dJ8_newLength_cabcc_16 : decode mJ8_newLength_cabcc.2.1 16 = .ok (.if_icmp .gt 5, 3) := by decide +kernel
theorem dJ8_newLength_cabcc_19 : decode mJ8_newLength_cabcc.2.1 19 = .ok (.iload_n 3, 1) := by decide +kernel
theorem dJ8_newLength_cabcc_20 : decode mJ8_newLength_cabcc.2.1 20 = .ok (.ireturn, 1) := by decide +kernel
theorem dJ8_newLength_cabcc_21 : decode mJ8_newLength_cabcc.2.1 21 = .ok (.iload_n 0, 1) := by decide +kernel
theorem dJ8_newLength_cabcc_22 : decode mJ8_newLength_cabcc.2.1 22 = .ok (.iload_n 1, 1) := by decide +kernel
theorem dJ8_newLength_cabcc_23 : decode mJ8_newLength_cabcc.2.1 23 = .ok (.invokestatic 201, 3) := by decide +kernel
theorem dJ8_newLength_cabcc_26 : decode mJ8_newLength_cabcc.2.1 26 = .ok (.ireturn, 1) := by decide +kernel
theorem dJ7_copyOf_9075b_0 : decode mJ7_copyOf_9075b.2.1 0 = .ok (.iload_n 1, 1) := by decide +kernel
theorem dJ7_copyOf_9075b_1 : decode mJ7_copyOf_9075b.2.1 1 = .ok (.aload_n 0, 1) := by decide +kernel
theorem dJ7_copyOf_9075b_2 : decode mJ7_copyOf_9075b.2.1 2 = .ok (.arraylength, 1) := by decide +kernel
theorem dJ7_copyOf_9075b_3 : decode mJ7_copyOf_9075b.2.1 3 = .ok (.if_icmp .ne 11, 3) := by decide +kernel
theorem dJ7_copyOf_9075b_6 : decode mJ7_copyOf_9075b.2.1 6 = .ok (.aload_n 0, 1) := by decide +kernel
theorem dJ7_copyOf_9075b_7 : decode mJ7_copyOf_9075b.2.1 7 = .ok (.invokevirtual 310, 3) := by decide +kernel
theorem dJ7_copyOf_9075b_10 : decode mJ7_copyOf_9075b.2.1 10 = .ok (.checkcast 311, 3) := by decide +kernel
theorem dJ7_copyOf_9075b_13 : decode mJ7_copyOf_9075b.2.1 13 = .ok (.areturn, 1) := by decide +kernel
theorem dJ7_copyOf_9075b_14 : decode mJ7_copyOf_9075b.2.1 14 = .ok (.iload_n 1, 1) := by decide +kernel
theorem dJ7_copyOf_9075b_15 : decode mJ7_copyOf_9075b.2.1 15 = .ok (.newarray .byte, 2) := by decide +kernel
theorem dJ7_copyOf_9075b_17 : decode mJ7_copyOf_9075b.2.1 17 = .ok (.astore_n 2, 1) := by decide +kernel
theorem dJ7_copyOf_9075b_18 : decode mJ7_copyOf_9075b.2.1 18 = .ok (.aload_n 0, 1) := by decide +kernel
theorem dJ7_copyOf_9075b_19 : decode mJ7_copyOf_9075b.2.1 19 = .ok (.iconst 0, 1) := by decide +kernel
theorem dJ7_copyOf_9075b_20 : decode mJ7_copyOf_9075b.2.1 20 = .ok (.aload_n 2, 1) := by decide +kernel
theorem dJ7_copyOf_9075b_21 : decode mJ7_copyOf_9075b.2.1 21 = .ok (.iconst 0, 1) := by decide +kernel
theorem dJ7_copyOf_9075b_22 : decode mJ7_copyOf_9075b.2.1 22 = .ok (.aload_n 0, 1) := by decide +kernel
theorem dJ7_copyOf_9075b_23 : decode mJ7_copyOf_9075b.2.1 23 = .ok (.arraylength, 1) := by decide +kernel
theorem dJ7_copyOf_9075b_24 : decode mJ7_copyOf_9075b.2.1 24 = .ok (.iload_n 1, 1) := by decide +kernel
theorem dJ7_copyOf_9075b_25 : decode mJ7_copyOf_9075b.2.1 25 = .ok (.invokestatic 304, 3) := by decide +kernel
theorem dJ7_copyOf_9075b_28 : decode mJ7_copyOf_9075b.2.1 28 = .ok (.invokestatic 150, 3) := by decide +kernel
theorem dJ7_copyOf_9075b_31 : decode mJ7_copyOf_9075b.2.1 31 = .ok (.aload_n 2, 1) := by decide +kernel
theorem dJ7_copyOf_9075b_32 : decode mJ7_copyOf_9075b.2.1 32 = .ok (.areturn, 1) := by decide +kernel
theorem dJ5_setLength_d00df_0 : decode mJ5_setLength_d00df.2.1 0 = .ok (.iload_n 1, 1) := by decide +kernel
theorem dJ5_setLength_d00df_1 : decode mJ5_setLength_d00df.2.1 1 = .ok (.ifCond .ge 12, 3) := by decide +kernel
theorem dJ5_setLength_d00df_4 : decode mJ5_setLength_d00df.2.1 4 = .ok (.new 129, 3) := by decide +kernel
theorem dJ5_setLength_d00df_7 : decode mJ5_setLength_d00df.2.1 7 = .ok (.dup, 1) := by decide +kernel
theorem dJ5_setLength_d00df_8 : decode mJ5_setLength_d00df.2.1 8 = .ok (.iload_n 1, 1) := by decide +kernel
theorem dJ5_setLength_d00df_9 : decode mJ5_setLength_d00df.2.1 9 = .ok (.invokespecial 131, 3) := by decide +kernel
theorem dJ5_setLength_d00df_12 : decode mJ5_setLength_d00df.2.1 12 = .ok (.athrow, 1) := by decide +kernel
theorem dJ5_setLength_d00df_13 : decode mJ5_setLength_d00df.2.1 13 = .ok (.aload_n 0, 1) := by decide +kernel
theorem dJ5_setLength_d00df_14 : decode mJ5_setLength_d00df.2.1 14 = .ok (.iload_n 1, 1) := by decide +kernel
theorem dJ5_setLength_d00df_15 : decode mJ5_setLength_d00df.2.1 15 = .ok (.invokevirtual 100, 3) := by decide +kernel
theorem dJ5_setLength_d00df_18 : decode mJ5_setLength_d00df.2.1 18 = .ok (.aload_n 0, 1) := by decide +kernel
theorem dJ5_setLength_d00df_19 : decode mJ5_setLength_d00df.2.1 19 = .ok (.getfield 79, 3) := by decide +kernel
theorem dJ5_setLength_d00df_22 : decode mJ5_setLength_d00df.2.1 22 = .ok (.iload_n 1, 1) := by decide +kernel
theorem dJ5_setLength_d00df_23 : decode mJ5_setLength_d00df.2.1 23 = .ok (.if_icmp .ge 40, 3) := by decide +kernel
theorem dJ5_setLength_d00df_26 : decode mJ5_setLength_d00df.2.1 26 = .ok (.aload_n 0, 1) := by decide +kernel
theorem dJ5_setLength_d00df_27 : decode mJ5_setLength_d00df.2.1 27 = .ok (.invokevirtual 83, 3) := by decide +kernel
theorem dJ5_setLength_d00df_30 : decode mJ5_setLength_d00df.2.1 30 = .ok (.ifCond .eq 18, 3) := by decide +kernel
theorem dJ5_setLength_d00df_33 : decode mJ5_setLength_d00df.2.1 33 = .ok (.aload_n 0, 1) := by decide +kernel
theorem dJ5_setLength_d00df_34 : decode mJ5_setLength_d00df.2.1 34 = .ok (.getfield 15, 3) := by decide +kernel
theorem dJ5_setLength_d00df_37 : decode mJ5_setLength_d00df.2.1 37 = .ok (.aload_n 0, 1) := by decide +kernel
theorem dJ5_setLength_d00df_38 : decode mJ5_setLength_d00df.2.1 38 = .ok (.getfield 79, 3) := by decide +kernel
theorem dJ5_setLength_d00df_41 : decode mJ5_setLength_d00df.2.1 41 = .ok (.iload_n 1, 1) := by decide +kernel
theorem dJ5_setLength_d00df_42 : decode mJ5_setLength_d00df.2.1 42 = .ok (.invokestatic 133, 3) := by decide +kernel
theorem dJ5_setLength_d00df_45 : decode mJ5_setLength_d00df.2.1 45 = .ok (.goto 31, 3) := by decide +kernel
theorem dJ5_setLength_d00df_48 : decode mJ5_setLength_d00df.2.1 48 = .ok (.aload_n 0, 1) := by decide +kernel
theorem dJ5_setLength_d00df_49 : decode mJ5_setLength_d00df.2.1 49 = .ok (.getfield 15, 3) := by decide +kernel
theorem dJ5_setLength_d00df_52 : decode mJ5_setLength_d00df.2.1 52 = .ok (.aload_n 0, 1) := by decide +kernel
theorem dJ5_setLength_d00df_53 : decode mJ5_setLength_d00df.2.1 53 = .ok (.getfield 79, 3) := by decide +kernel
theorem dJ5_setLength_d00df_56 : decode mJ5_setLength_d00df.2.1 56 = .ok (.iload_n 1, 1) := by decide +kernel
theorem dJ5_setLength_d00df_57 : decode mJ5_setLength_d00df.2.1 57 = .ok (.invokestatic 137, 3) := by decide +kernel
theorem dJ5_setLength_d00df_60 : decode mJ5_setLength_d00df.2.1 60 = .ok (.goto 16, 3) := by decide +kernel
theorem dJ5_setLength_d00df_63 : decode mJ5_setLength_d00df.2.1 63 = .ok (.aload_n 0, 1) := by decide +kernel
theorem dJ5_setLength_d00df_64 : decode mJ5_setLength_d00df.2.1 64 = .ok (.getfield 79, 3) := by decide +kernel
theorem dJ5_setLength_d00df_67 : decode mJ5_setLength_d00df.2.1 67 = .ok (.iload_n 1, 1) := by decide +kernel
theorem dJ5_setLength_d00df_68 : decode mJ5_setLength_d00df.2.1 68 = .ok (.if_icmp .le 8, 3) := by decide +kernel
theorem dJ5_setLength_d00df_71 : decode mJ5_setLength_d00df.2.1 71 = .ok (.aload_n 0, 1) := by decide +kernel
theorem dJ5_setLength_d00df_72 : decode mJ5_setLength_d00df.2.1 72 = .ok (.iconst 1, 1) := by decide +kernel
theorem dJ5_setLength_d00df_73 : decode mJ5_setLength_d00df.2.1 73 = .ok (.putfield 73, 3) := by decide +kernel
theorem dJ5_setLength_d00df_76 : decode mJ5_setLength_d00df.2.1 76 = .ok (.aload_n 0, 1) := by decide +kernel
theorem dJ5_setLength_d00df_77 : decode mJ5_setLength_d00df.2.1 77 = .ok (.iload_n 1, 1) := by decide +kernel
theorem dJ5_setLength_d00df_78 : decode mJ5_setLength_d00df.2.1 78 = .ok (.putfield 79, 3) := by decide +kernel
theorem dJ5_setLength_d00df_81 : decode mJ5_setLength_d00df.2.1 81 = .ok (.return_, 1) := by decide +kernel
theorem dJ1_canEncode_fc78d_0 : decode mJ1_canEncode_fc78d.2.1 0 = .ok (.iload_n 0, 1) := by decide +kernel
theorem dJ1_canEncode_fc78d_1 : decode mJ1_canEncode_fc78d.2.1 1 = .ok (.sipush 255, 3) := by decide +kernel
theorem dJ1_canEncode_fc78d_4 : decode mJ1_canEncode_fc78d.2.1 4 = .ok (.if_icmp .gt 7, 3) := by decide +kernel
theorem dJ1_canEncode_fc78d_7 : decode mJ1_canEncode_fc78d.2.1 7 = .ok (.iconst 1, 1) := by decide +kernel
theorem dJ1_canEncode_fc78d_8 : decode mJ1_canEncode_fc78d.2.1 8 = .ok (.goto 4, 3) := by decide +kernel
theorem dJ1_canEncode_fc78d_11 : decode mJ1_canEncode_fc78d.2.1 11 = .ok (.iconst 0, 1) := by decide +kernel
theorem dJ1_canEncode_fc78d_12 : decode mJ1_canEncode_fc78d.2.1 12 = .ok (.ireturn, 1) := by decide +kernel
theorem dJ5_append_3fe6f_0 : decode mJ5_append_3fe6f.2.1 0 = .ok (.aload_n 0, 1) := by decide +kernel
theorem dJ5_append_3fe6f_1 : decode mJ5_append_3fe6f.2.1 1 = .ok (.aload_n 0, 1) := by decide +kernel
theorem dJ5_append_3fe6f_2 : decode mJ5_append_3fe6f.2.1 2 = .ok (.getfield 79, 3) := by decide +kernel
theorem dJ5_append_3fe6f_5 : decode mJ5_append_3fe6f.2.1 5 = .ok (.iconst 1, 1) := by decide +kernel
theorem dJ5_append_3fe6f_6 : decode mJ5_append_3fe6f.2.1 6 = .ok (.iadd, 1) := by decide +kernel
theorem dJ5_append_3fe6f_7 : decode mJ5_append_3fe6f.2.1 7 = .ok (.invokevirtual 100, 3) := by decide +kernel
theorem dJ5_append_3fe6f_10 : decode mJ5_append_3fe6f.2.1 10 = .ok (.aload_n 0, 1) := by decide +kernel
theorem dJ5_append_3fe6f_11 : decode mJ5_append_3fe6f.2.1 11 = .ok (.invokevirtual 83, 3) := by decide +kernel
theorem dJ5_append_3fe6f_14 : decode mJ5_append_3fe6f.2.1 14 = .ok (.ifCond .eq 31, 3) := by decide +kernel
theorem dJ5_append_3fe6f_17 : decode mJ5_append_3fe6f.2.1 17 = .ok (.iload_n 1, 1) := by decide +kernel
theorem dJ5_append_3fe6f_18 : decode mJ5_append_3fe6f.2.1 18 = .ok (.invokestatic 191, 3) := by decide +kernel
theorem dJ5_append_3fe6f_21 : decode mJ5_append_3fe6f.2.1 21 = .ok (.ifCond .eq 24, 3) := by decide +kernel
theorem dJ5_append_3fe6f_24 : decode mJ5_append_3fe6f.2.1 24 = .ok (.aload_n 0, 1) := by decide +kernel
theorem dJ5_append_3fe6f_25 : decode mJ5_append_3fe6f.2.1 25 = .ok (.getfield 15, 3) := by decide +kernel
theorem dJ5_append_3fe6f_28 : decode mJ5_append_3fe6f.2.1 28 = .ok (.aload_n 0, 1) := by decide +kernel
theorem dJ5_append_3fe6f_29 : decode mJ5_append_3fe6f.2.1 29 = .ok (.dup, 1) := by decide +kernel
theorem dJ5_append_3fe6f_30 : decode mJ5_append_3fe6f.2.1 30 = .ok (.getfield 79, 3) := by decide +kernel
theorem dJ5_append_3fe6f_33 : decode mJ5_append_3fe6f.2.1 33 = .ok (.dup_x1, 1) := by decide +kernel
theorem dJ5_append_3fe6f_34 : decode mJ5_append_3fe6f.2.1 34 = .ok (.iconst 1, 1) := by decide +kernel
theorem dJ5_append_3fe6f_35 : decode mJ5_append_3fe6f.2.1 35 = .ok (.iadd, 1) := by decide +kernel
theorem dJ5_append_3fe6f_36 : decode mJ5_append_3fe6f.2.1 36 = .ok (.putfield 79, 3) := by decide +kernel
theorem dJ5_append_3fe6f_39 : decode mJ5_append_3fe6f.2.1 39 = .ok (.iload_n 1, 1) := by decide +kernel
theorem dJ5_append_3fe6f_40 : decode mJ5_append_3fe6f.2.1 40 = .ok (.i2b, 1) := by decide +kernel
theorem dJ5_append_3fe6f_41 : decode mJ5_append_3fe6f.2.1 41 = .ok (.bastore, 1) := by decide +kernel
theorem dJ5_append_3fe6f_42 : decode mJ5_append_3fe6f.2.1 42 = .ok (.goto 33, 3) := by decide +kernel
theorem dJ5_append_3fe6f_45 : decode mJ5_append_3fe6f.2.1 45 = .ok (.aload_n 0, 1) := by decide +kernel
theorem dJ5_append_3fe6f_46 : decode mJ5_append_3fe6f.2.1 46 = .ok (.invokevirtual 83, 3) := by decide +kernel
theorem dJ5_append_3fe6f_49 : decode mJ5_append_3fe6f.2.1 49 = .ok (.ifCond .eq 7, 3) := by decide +kernel
theorem dJ5_append_3fe6f_52 : decode mJ5_append_3fe6f.2.1 52 = .ok (.aload_n 0, 1) := by decide +kernel
theorem dJ5_append_3fe6f_53 : decode mJ5_append_3fe6f.2.1 53 = .ok (.invokevirtual 195, 3) := by decide +kernel
theorem dJ5_append_3fe6f_56 : decode mJ5_append_3fe6f.2.1 56 = .ok (.aload_n 0, 1) := by decide +kernel
theorem dJ5_append_3fe6f_57 : decode mJ5_append_3fe6f.2.1 57 = .ok (.getfield 15, 3) := by decide +kernel
theorem dJ5_append_3fe6f_60 : decode mJ5_append_3fe6f.2.1 60 = .ok (.aload_n 0, 1) := by decide +kernel
theorem dJ5_append_3fe6f_61 : decode mJ5_append_3fe6f.2.1 61 = .ok (.dup, 1) := by decide +kernel
theorem dJ5_append_3fe6f_62 : decode mJ5_append_3fe6f.2.1 62 = .ok (.getfield 79, 3) := by decide +kernel
theorem dJ5_append_3fe6f_65 : decode mJ5_append_3fe6f.2.1 65 = .ok (.dup_x1, 1) := by decide +kernel
theorem dJ5_append_3fe6f_66 : decode mJ5_append_3fe6f.2.1 66 = .ok (.iconst 1, 1) := by decide +kernel
theorem dJ5_append_3fe6f_67 : decode mJ5_append_3fe6f.2.1 67 = .ok (.iadd, 1) := by decide +kernel
theorem dJ5_append_3fe6f_68 : decode mJ5_append_3fe6f.2.1 68 = .ok (.putfield 79, 3) := by decide +kernel
theorem dJ5_append_3fe6f_71 : decode mJ5_append_3fe6f.2.1 71 = .ok (.iload_n 1, 1) := by decide +kernel
theorem dJ5_append_3fe6f_72 : decode mJ5_append_3fe6f.2.1 72 = .ok (.invokestatic 197, 3) := by decide +kernel
theorem dJ5_append_3fe6f_75 : decode mJ5_append_3fe6f.2.1 75 = .ok (.aload_n 0, 1) := by decide +kernel
theorem dJ5_append_3fe6f_76 : decode mJ5_append_3fe6f.2.1 76 = .ok (.areturn, 1) := by decide +kernel
theorem dJ6_stringSize_0f7a4_0 : decode mJ6_stringSize_0f7a4.2.1 0 = .ok (.iconst 1, 1) := by decide +kernel
theorem dJ6_stringSize_0f7a4_1 : decode mJ6_stringSize_0f7a4.2.1 1 = .ok (.istore_n 1, 1) := by decide +kernel
theorem dJ6_stringSize_0f7a4_2 : decode mJ6_stringSize_0f7a4.2.1 2 = .ok (.iload_n 0, 1) := by decide +kernel
theorem dJ6_stringSize_0f7a4_3 : decode mJ6_stringSize_0f7a4.2.1 3 = .ok (.ifCond .lt 8, 3) := by decide +kernel
theorem dJ6_stringSize_0f7a4_6 : decode mJ6_stringSize_0f7a4.2.1 6 = .ok (.iconst 0, 1) := by decide +kernel
theorem dJ6_stringSize_0f7a4_7 : decode mJ6_stringSize_0f7a4.2.1 7 = .ok (.istore_n 1, 1) := by decide +kernel
theorem dJ6_stringSize_0f7a4_8 : decode mJ6_stringSize_0f7a4.2.1 8 = .ok (.iload_n 0, 1) := by decide +kernel
theorem dJ6_stringSize_0f7a4_9 : decode mJ6_stringSize_0f7a4.2.1 9 = .ok (.ineg, 1) := by decide +kernel
theorem dJ6_stringSize_0f7a4_10 : decode mJ6_stringSize_0f7a4.2.1 10 = .ok (.istore_n 0, 1) := by decide +kernel
theorem dJ6_stringSize_0f7a4_11 : decode mJ6_stringSize_0f7a4.2.1 11 = .ok (.bipush (-10), 2) := by decide +kernel
theorem dJ6_stringSize_0f7a4_13 : decode mJ6_stringSize_0f7a4.2.1 13 = .ok (.istore_n 2, 1) := by decide +kernel
theorem dJ6_stringSize_0f7a4_14 : decode mJ6_stringSize_0f7a4.2.1 14 = .ok (.iconst 1, 1) := by decide +kernel
theorem dJ6_stringSize_0f7a4_15 : decode mJ6_stringSize_0f7a4.2.1 15 = .ok (.istore_n 3, 1) := by decide +kernel
theorem dJ6_stringSize_0f7a4_16 : decode mJ6_stringSize_0f7a4.2.1 16 = .ok (.iload_n 3, 1) := by decide +kernel
theorem dJ6_stringSize_0f7a4_17 : decode mJ6_stringSize_0f7a4.2.1 17 = .ok (.bipush 10, 2) := by decide +kernel
theorem dJ6_stringSize_0f7a4_19 : decode mJ6_stringSize_0f7a4.2.1 19 = .ok (.if_icmp .ge 23, 3) := by decide +kernel
theorem dJ6_stringSize_0f7a4_22 : decode mJ6_stringSize_0f7a4.2.1 22 = .ok (.iload_n 0, 1) := by decide +kernel
theorem dJ6_stringSize_0f7a4_23 : decode mJ6_stringSize_0f7a4.2.1 23 = .ok (.iload_n 2, 1) := by decide +kernel
theorem dJ6_stringSize_0f7a4_24 : decode mJ6_stringSize_0f7a4.2.1 24 = .ok (.if_icmp .le 7, 3) := by decide +kernel
theorem dJ6_stringSize_0f7a4_27 : decode mJ6_stringSize_0f7a4.2.1 27 = .ok (.iload_n 3, 1) := by decide +kernel
theorem dJ6_stringSize_0f7a4_28 : decode mJ6_stringSize_0f7a4.2.1 28 = .ok (.iload_n 1, 1) := by decide +kernel
theorem dJ6_stringSize_0f7a4_29 : decode mJ6_stringSize_0f7a4.2.1 29 = .ok (.iadd, 1) := by decide +kernel
theorem dJ6_stringSize_0f7a4_30 : decode mJ6_stringSize_0f7a4.2.1 30 = .ok (.ireturn, 1) := by decide +kernel
theorem dJ6_stringSize_0f7a4_31 : decode mJ6_stringSize_0f7a4.2.1 31 = .ok (.bipush 10, 2) := by decide +kernel
theorem dJ6_stringSize_0f7a4_33 : decode mJ6_stringSize_0f7a4.2.1 33 = .ok (.iload_n 2, 1) := by decide +kernel
theorem dJ6_stringSize_0f7a4_34 : decode mJ6_stringSize_0f7a4.2.1 34 = .ok (.imul, 1) := by decide +kernel
theorem dJ6_stringSize_0f7a4_35 : decode mJ6_stringSize_0f7a4.2.1 35 = .ok (.istore_n 2, 1) := by decide +kernel
theorem dJ6_stringSize_0f7a4_36 : decode mJ6_stringSize_0f7a4.2.1 36 = .ok (.iinc 3 1, 3) := by decide +kernel
theorem dJ6_stringSize_0f7a4_39 : decode mJ6_stringSize_0f7a4.2.1 39 = .ok (.goto (-23), 3) := by decide +kernel
theorem dJ6_stringSize_0f7a4_42 : decode mJ6_stringSize_0f7a4.2.1 42 = .ok (.bipush 10, 2) := by decide +kernel
theorem dJ6_stringSize_0f7a4_44 : decode mJ6_stringSize_0f7a4.2.1 44 = .ok (.iload_n 1, 1) := by decide +kernel
theorem dJ6_stringSize_0f7a4_45 : decode mJ6_stringSize_0f7a4.2.1 45 = .ok (.iadd, 1) := by decide +kernel
theorem dJ6_stringSize_0f7a4_46 : decode mJ6_stringSize_0f7a4.2.1 46 = .ok (.ireturn, 1) := by decide +kernel
theorem dJ6_getChars_ba4f3_0 : decode mJ6_getChars_ba4f3.2.1 0 = .ok (.iload_n 1, 1) := by decide +kernel
theorem dJ6_getChars_ba4f3_1 : decode mJ6_getChars_ba4f3.2.1 1 = .ok (.istore 5, 2) := by decide +kernel
theorem dJ6_getChars_ba4f3_3 : decode mJ6_getChars_ba4f3.2.1 3 = .ok (.iload_n 0, 1) := by decide +kernel
theorem dJ6_getChars_ba4f3_4 : decode mJ6_getChars_ba4f3.2.1 4 = .ok (.ifCond .ge 7, 3) := by decide +kernel
theorem dJ6_getChars_ba4f3_7 : decode mJ6_getChars_ba4f3.2.1 7 = .ok (.iconst 1, 1) := by decide +kernel
theorem dJ6_getChars_ba4f3_8 : decode mJ6_getChars_ba4f3.2.1 8 = .ok (.goto 4, 3) := by decide +kernel
theorem dJ6_getChars_ba4f3_11 : decode mJ6_getChars_ba4f3.2.1 11 = .ok (.iconst 0, 1) := by decide +kernel
theorem dJ6_getChars_ba4f3_12 : decode mJ6_getChars_ba4f3.2.1 12 = .ok (.istore 6, 2) := by decide +kernel
theorem dJ6_getChars_ba4f3_14 : decode mJ6_getChars_ba4f3.2.1 14 = .ok (.iload 6, 2) := by decide +kernel
theorem dJ6_getChars_ba4f3_16 : decode mJ6_getChars_ba4f3.2.1 16 = .ok (.ifCond .ne 6, 3) := by decide +kernel
theorem dJ6_getChars_ba4f3_19 : decode mJ6_getChars_ba4f3.2.1 19 = .ok (.iload_n 0, 1) := by decide +kernel
theorem dJ6_getChars_ba4f3_20 : decode mJ6_getChars_ba4f3.2.1 20 = .ok (.ineg, 1) := by decide +kernel
theorem dJ6_getChars_ba4f3_21 : decode mJ6_getChars_ba4f3.2.1 21 = .ok (.istore_n 0, 1) := by decide +kernel
theorem dJ6_getChars_ba4f3_22 : decode mJ6_getChars_ba4f3.2.1 22 = .ok (.iload_n 0, 1) := by decide +kernel
theorem dJ6_getChars_ba4f3_23 : decode mJ6_getChars_ba4f3.2.1 23 = .ok (.bipush (-100), 2) := by decide +kernel
theorem dJ6_getChars_ba4f3_25 : decode mJ6_getChars_ba4f3.2.1 25 = .ok (.if_icmp .gt 47, 3) := by decide +kernel
theorem dJ6_getChars_ba4f3_28 : decode mJ6_getChars_ba4f3.2.1 28 = .ok (.iload_n 0, 1) := by decide +kernel
theorem dJ6_getChars_ba4f3_29 : decode mJ6_getChars_ba4f3.2.1 29 = .ok (.bipush 100, 2) := by decide +kernel
theorem dJ6_getChars_ba4f3_31 : decode mJ6_getChars_ba4f3.2.1 31 = .ok (.idiv, 1) := by decide +kernel
theorem dJ6_getChars_ba4f3_32 : decode mJ6_getChars_ba4f3.2.1 32 = .ok (.istore_n 3, 1) := by decide +kernel
theorem dJ6_getChars_ba4f3_33 : decode mJ6_getChars_ba4f3.2.1 33 = .ok (.iload_n 3, 1) := by decide +kernel
theorem dJ6_getChars_ba4f3_34 : decode mJ6_getChars_ba4f3.2.1 34 = .ok (.bipush 100, 2) := by decide +kernel
theorem dJ6_getChars_ba4f3_36 : decode mJ6_getChars_ba4f3.2.1 36 = .ok (.imul, 1) := by decide +kernel
theorem dJ6_getChars_ba4f3_37 : decode mJ6_getChars_ba4f3.2.1 37 = .ok (.iload_n 0, 1) := by decide +kernel
theorem dJ6_getChars_ba4f3_38 : decode mJ6_getChars_ba4f3.2.1 38 = .ok (.isub, 1) := by decide +kernel
theorem dJ6_getChars_ba4f3_39 : decode mJ6_getChars_ba4f3.2.1 39 = .ok (.istore 4, 2) := by decide +kernel
theorem dJ6_getChars_ba4f3_41 : decode mJ6_getChars_ba4f3.2.1 41 = .ok (.iload_n 3, 1) := by decide +kernel
theorem dJ6_getChars_ba4f3_42 : decode mJ6_getChars_ba4f3.2.1 42 = .ok (.istore_n 0, 1) := by decide +kernel
theorem dJ6_getChars_ba4f3_43 : decode mJ6_getChars_ba4f3.2.1 43 = .ok (.aload_n 2, 1) := by decide +kernel
theorem dJ6_getChars_ba4f3_44 : decode mJ6_getChars_ba4f3.2.1 44 = .ok (.iinc 5 (-1), 3) := by decide +kernel
theorem dJ6_getChars_ba4f3_47 : decode mJ6_getChars_ba4f3.2.1 47 = .ok (.iload 5, 2) := by decide +kernel
theorem dJ6_getChars_ba4f3_49 : decode mJ6_getChars_ba4f3.2.1 49 = .ok (.getstatic 83, 3) := by decide +kernel
theorem dJ6_getChars_ba4f3_52 : decode mJ6_getChars_ba4f3.2.1 52 = .ok (.iload 4, 2) := by decide +kernel
theorem dJ6_getChars_ba4f3_54 : decode mJ6_getChars_ba4f3.2.1 54 = .ok (.baload, 1) := by decide +kernel
theorem dJ6_getChars_ba4f3_55 : decode mJ6_getChars_ba4f3.2.1 55 = .ok (.bastore, 1) := by decide +kernel
theorem dJ6_getChars_ba4f3_56 : decode mJ6_getChars_ba4f3.2.1 56 = .ok (.aload_n 2, 1) := by decide +kernel
theorem dJ6_getChars_ba4f3_57 : decode mJ6_getChars_ba4f3.2.1 57 = .ok (.iinc 5 (-1), 3) := by decide +kernel
theorem dJ6_getChars_ba4f3_60 : decode mJ6_getChars_ba4f3.2.1 60 = .ok (.iload 5, 2) := by decide +kernel
theorem dJ6_getChars_ba4f3_62 : decode mJ6_getChars_ba4f3.2.1 62 = .ok (.getstatic 87, 3) := by decide +kernel
theorem dJ6_getChars_ba4f3_65 : decode mJ6_getChars_ba4f3.2.1 65 = .ok (.iload 4, 2) := by decide +kernel
theorem dJ6_getChars_ba4f3_67 : decode mJ6_getChars_ba4f3.2.1 67 = .ok (.baload, 1) := by decide +kernel
theorem dJ6_getChars_ba4f3_68 : decode mJ6_getChars_ba4f3.2.1 68 = .ok (.bastore, 1) := by decide +kernel
theorem dJ6_getChars_ba4f3_69 : decode mJ6_getChars_ba4f3.2.1 69 = .ok (.goto (-47), 3) := by decide +kernel
theorem dJ6_getChars_ba4f3_72 : decode mJ6_getChars_ba4f3.2.1 72 = .ok (.aload_n 2, 1) := by decide +kernel
theorem dJ6_getChars_ba4f3_73 : decode mJ6_getChars_ba4f3.2.1 73 = .ok (.iinc 5 (-1), 3) := by decide +kernel
theorem dJ6_getChars_ba4f3_76 : decode mJ6_getChars_ba4f3.2.1 76 = .ok (.iload 5, 2) := by decide +kernel
theorem dJ6_getChars_ba4f3_78 : decode mJ6_getChars_ba4f3.2.1 78 = .ok (.getstatic 83, 3) := by decide +kernel
theorem dJ6_getChars_ba4f3_81 : decode mJ6_getChars_ba4f3.2.1 81 = .ok (.iload_n 0, 1) := by decide +kernel
theorem dJ6_getChars_ba4f3_82 : decode mJ6_getChars_ba4f3.2.1 82 = .ok (.ineg, 1) := by decide +kernel
theorem dJ6_getChars_ba4f3_83 : decode mJ6_getChars_ba4f3.2.1 83 = .ok (.baload, 1) := by decide +kernel
theorem dJ6_getChars_ba4f3_84 : decode mJ6_getChars_ba4f3.2.1 84 = .ok (.bastore, 1) := by decide +kernel
theorem dJ6_getChars_ba4f3_85 : decode mJ6_getChars_ba4f3.2.1 85 = .ok (.iload_n 0, 1) := by decide +kernel
theorem dJ6_getChars_ba4f3_86 : decode mJ6_getChars_ba4f3.2.1 86 = .ok (.bipush (-9), 2) := by decide +kernel
theorem dJ6_getChars_ba4f3_88 : decode mJ6_getChars_ba4f3.2.1 88 = .ok (.if_icmp .ge 16, 3) := by decide +kernel
theorem dJ6_getChars_ba4f3_91 : decode mJ6_getChars_ba4f3.2.1 91 = .ok (.aload_n 2, 1) := by decide +kernel
theorem dJ6_getChars_ba4f3_92 : decode mJ6_getChars_ba4f3.2.1 92 = .ok (.iinc 5 (-1), 3) := by decide +kernel
theorem dJ6_getChars_ba4f3_95 : decode mJ6_getChars_ba4f3.2.1 95 = .ok (.iload 5, 2) := by decide +kernel
theorem dJ6_getChars_ba4f3_97 : decode mJ6_getChars_ba4f3.2.1 97 = .ok (.getstatic 87, 3) := by decide +kernel
theorem dJ6_getChars_ba4f3_100 : decode mJ6_getChars_ba4f3.2.1 100 = .ok (.iload_n 0, 1) := by decide +kernel
theorem dJ6_getChars_ba4f3_101 : decode mJ6_getChars_ba4f3.2.1 101 = .ok (.ineg, 1) := by decide +kernel
theorem dJ6_getChars_ba4f3_102 : decode mJ6_getChars_ba4f3.2.1 102 = .ok (.baload, 1) := by decide +kernel
theorem dJ6_getChars_ba4f3_103 : decode mJ6_getChars_ba4f3.2.1 103 = .ok (.bastore, 1) := by decide +kernel
theorem dJ6_getChars_ba4f3_104 : decode mJ6_getChars_ba4f3.2.1 104 = .ok (.iload 6, 2) := by decide +kernel
theorem dJ6_getChars_ba4f3_106 : decode mJ6_getChars_ba4f3.2.1 106 = .ok (.ifCond .eq 12, 3) := by decide +kernel
theorem dJ6_getChars_ba4f3_109 : decode mJ6_getChars_ba4f3.2.1 109 = .ok (.aload_n 2, 1) := by decide +kernel
theorem dJ6_getChars_ba4f3_110 : decode mJ6_getChars_ba4f3.2.1 110 = .ok (.iinc 5 (-1), 3) := by decide +kernel
theorem dJ6_getChars_ba4f3_113 : decode mJ6_getChars_ba4f3.2.1 113 = .ok (.iload 5, 2) := by decide +kernel
theorem dJ6_getChars_ba4f3_115 : decode mJ6_getChars_ba4f3.2.1 115 = .ok (.bipush 45, 2) := by decide +kernel
theorem dJ6_getChars_ba4f3_117 : decode mJ6_getChars_ba4f3.2.1 117 = .ok (.bastore, 1) := by decide +kernel
theorem dJ6_getChars_ba4f3_118 : decode mJ6_getChars_ba4f3.2.1 118 = .ok (.iload 5, 2) := by decide +kernel
theorem dJ6_getChars_ba4f3_120 : decode mJ6_getChars_ba4f3.2.1 120 = .ok (.ireturn, 1) := by decide +kernel
theorem dJ5_append_c97b9_0 : decode mJ5_append_c97b9.2.1 0 = .ok (.aload_n 0, 1) := by decide +kernel
theorem dJ5_append_c97b9_1 : decode mJ5_append_c97b9.2.1 1 = .ok (.getfield 79, 3) := by decide +kernel
theorem dJ5_append_c97b9_4 : decode mJ5_append_c97b9.2.1 4 = .ok (.istore_n 2, 1) := by decide +kernel
theorem dJ5_append_c97b9_5 : decode mJ5_append_c97b9.2.1 5 = .ok (.iload_n 2, 1) := by decide +kernel
theorem dJ5_append_c97b9_6 : decode mJ5_append_c97b9.2.1 6 = .ok (.iload_n 1, 1) := by decide +kernel
theorem dJ5_append_c97b9_7 : decode mJ5_append_c97b9.2.1 7 = .ok (.invokestatic 245, 3) := by decide +kernel
theorem dJ5_append_c97b9_10 : decode mJ5_append_c97b9.2.1 10 = .ok (.iadd, 1) := by decide +kernel
theorem dJ5_append_c97b9_11 : decode mJ5_append_c97b9.2.1 11 = .ok (.istore_n 3, 1) := by decide +kernel
theorem dJ5_append_c97b9_12 : decode mJ5_append_c97b9.2.1 12 = .ok (.aload_n 0, 1) := by decide +kernel
theorem dJ5_append_c97b9_13 : decode mJ5_append_c97b9.2.1 13 = .ok (.iload_n 3, 1) := by decide +kernel
theorem dJ5_append_c97b9_14 : decode mJ5_append_c97b9.2.1 14 = .ok (.invokevirtual 100, 3) := by decide +kernel
theorem dJ5_append_c97b9_17 : decode mJ5_append_c97b9.2.1 17 = .ok (.aload_n 0, 1) := by decide +kernel
theorem dJ5_append_c97b9_18 : decode mJ5_append_c97b9.2.1 18 = .ok (.invokevirtual 83, 3) := by decide +kernel
theorem dJ5_append_c97b9_21 : decode mJ5_append_c97b9.2.1 21 = .ok (.ifCond .eq 16, 3) := by decide +kernel
theorem dJ5_append_c97b9_24 : decode mJ5_append_c97b9.2.1 24 = .ok (.iload_n 1, 1) := by decide +kernel
theorem dJ5_append_c97b9_25 : decode mJ5_append_c97b9.2.1 25 = .ok (.iload_n 3, 1) := by decide +kernel
theorem dJ5_append_c97b9_26 : decode mJ5_append_c97b9.2.1 26 = .ok (.aload_n 0, 1) := by decide +kernel
theorem dJ5_append_c97b9_27 : decode mJ5_append_c97b9.2.1 27 = .ok (.getfield 15, 3) := by decide +kernel
theorem dJ5_append_c97b9_30 : decode mJ5_append_c97b9.2.1 30 = .ok (.invokestatic 248, 3) := by decide +kernel
theorem dJ5_append_c97b9_33 : decode mJ5_append_c97b9.2.1 33 = .ok (.pop, 1) := by decide +kernel
theorem dJ5_append_c97b9_34 : decode mJ5_append_c97b9.2.1 34 = .ok (.goto 14, 3) := by decide +kernel
theorem dJ5_append_c97b9_37 : decode mJ5_append_c97b9.2.1 37 = .ok (.iload_n 1, 1) := by decide +kernel
theorem dJ5_append_c97b9_38 : decode mJ5_append_c97b9.2.1 38 = .ok (.iload_n 2, 1) := by decide +kernel
theorem dJ5_append_c97b9_39 : decode mJ5_append_c97b9.2.1 39 = .ok (.iload_n 3, 1) := by decide +kernel
theorem dJ5_append_c97b9_40 : decode mJ5_append_c97b9.2.1 40 = .ok (.aload_n 0, 1) := by decide +kernel
theorem dJ5_append_c97b9_41 : decode mJ5_append_c97b9.2.1 41 = .ok (.getfield 15, 3) := by decide +kernel
theorem dJ5_append_c97b9_44 : decode mJ5_append_c97b9.2.1 44 = .ok (.invokestatic 251, 3) := by decide +kernel
theorem dJ5_append_c97b9_47 : decode mJ5_append_c97b9.2.1 47 = .ok (.pop, 1) := by decide +kernel
theorem dJ5_append_c97b9_48 : decode mJ5_append_c97b9.2.1 48 = .ok (.aload_n 0, 1) := by decide +kernel
theorem dJ5_append_c97b9_49 : decode mJ5_append_c97b9.2.1 49 = .ok (.iload_n 3, 1) := by decide +kernel
theorem dJ5_append_c97b9_50 : decode mJ5_append_c97b9.2.1 50 = .ok (.putfield 79, 3) := by decide +kernel
theorem dJ5_append_c97b9_53 : decode mJ5_append_c97b9.2.1 53 = .ok (.aload_n 0, 1) := by decide +kernel
theorem dJ5_append_c97b9_54 : decode mJ5_append_c97b9.2.1 54 = .ok (.areturn, 1) := by decide +kernel
theorem dJ5_init_d00df_0 : decode mJ5_init_d00df.2.1 0 = .ok (.aload_n 0, 1) := by decide +kernel
theorem dJ5_init_d00df_1 : decode mJ5_init_d00df.2.1 1 = .ok (.invokespecial 3, 3) := by decide +kernel
theorem dJ5_init_d00df_4 : decode mJ5_init_d00df.2.1 4 = .ok (.getstatic 18, 3) := by decide +kernel
theorem dJ5_init_d00df_7 : decode mJ5_init_d00df.2.1 7 = .ok (.ifCond .eq 18, 3) := by decide +kernel
theorem dJ5_init_d00df_10 : decode mJ5_init_d00df.2.1 10 = .ok (.aload_n 0, 1) := by decide +kernel
theorem dJ5_init_d00df_11 : decode mJ5_init_d00df.2.1 11 = .ok (.iload_n 1, 1) := by decide +kernel
theorem dJ5_init_d00df_12 : decode mJ5_init_d00df.2.1 12 = .ok (.newarray .byte, 2) := by decide +kernel
theorem dJ5_init_d00df_14 : decode mJ5_init_d00df.2.1 14 = .ok (.putfield 15, 3) := by decide +kernel
theorem dJ5_init_d00df_17 : decode mJ5_init_d00df.2.1 17 = .ok (.aload_n 0, 1) := by decide +kernel
theorem dJ5_init_d00df_18 : decode mJ5_init_d00df.2.1 18 = .ok (.iconst 0, 1) := by decide +kernel
theorem dJ5_init_d00df_19 : decode mJ5_init_d00df.2.1 19 = .ok (.putfield 22, 3) := by decide +kernel
theorem dJ5_init_d00df_22 : decode mJ5_init_d00df.2.1 22 = .ok (.goto 16, 3) := by decide +kernel
theorem dJ5_init_d00df_25 : decode mJ5_init_d00df.2.1 25 = .ok (.aload_n 0, 1) := by decide +kernel
theorem dJ5_init_d00df_26 : decode mJ5_init_d00df.2.1 26 = .ok (.iload_n 1, 1) := by decide +kernel
theorem dJ5_init_d00df_27 : decode mJ5_init_d00df.2.1 27 = .ok (.invokestatic 26, 3) := by decide +kernel
theorem dJ5_init_d00df_30 : decode mJ5_init_d00df.2.1 30 = .ok (.putfield 15, 3) := by decide +kernel
theorem dJ5_init_d00df_33 : decode mJ5_init_d00df.2.1 33 = .ok (.aload_n 0, 1) := by decide +kernel
theorem dJ5_init_d00df_34 : decode mJ5_init_d00df.2.1 34 = .ok (.iconst 1, 1) := by decide +kernel
theorem dJ5_init_d00df_35 : decode mJ5_init_d00df.2.1 35 = .ok (.putfield 22, 3) := by decide +kernel
theorem dJ5_init_d00df_38 : decode mJ5_init_d00df.2.1 38 = .ok (.return_, 1) := by decide +kernel
theorem dJ4_length_8abf5_0 : decode mJ4_length_8abf5.2.1 0 = .ok (.aload_n 0, 1) := by decide +kernel
theorem dJ4_length_8abf5_1 : decode mJ4_length_8abf5.2.1 1 = .ok (.invokespecial 343, 3) := by decide +kernel
theorem dJ4_length_8abf5_4 : decode mJ4_length_8abf5.2.1 4 = .ok (.ireturn, 1) := by decide +kernel
theorem dJ4_charAt_5068e_0 : decode mJ4_charAt_5068e.2.1 0 = .ok (.aload_n 0, 1) := by decide +kernel
theorem dJ4_charAt_5068e_1 : decode mJ4_charAt_5068e.2.1 1 = .ok (.iload_n 1, 1) := by decide +kernel
theorem dJ4_charAt_5068e_2 : decode mJ4_charAt_5068e.2.1 2 = .ok (.invokespecial 329, 3) := by decide +kernel
theorem dJ4_charAt_5068e_5 : decode mJ4_charAt_5068e.2.1 5 = .ok (.ireturn, 1) := by decide +kernel
theorem dJ4_setLength_d00df_0 : decode mJ4_setLength_d00df.2.1 0 = .ok (.aload_n 0, 1) := by decide +kernel
theorem dJ4_setLength_d00df_1 : decode mJ4_setLength_d00df.2.1 1 = .ok (.iload_n 1, 1) := by decide +kernel
theorem dJ4_setLength_d00df_2 : decode mJ4_setLength_d00df.2.1 2 = .ok (.invokespecial 333, 3) := by decide +kernel
theorem dJ4_setLength_d00df_5 : decode mJ4_setLength_d00df.2.1 5 = .ok (.return_, 1) := by decide +kernel
theorem dJ4_append_cf468_0 : decode mJ4_append_cf468.2.1 0 = .ok (.aload_n 0, 1) := by decide +kernel
theorem dJ4_append_cf468_1 : decode mJ4_append_cf468.2.1 1 = .ok (.iload_n 1, 1) := by decide +kernel
theorem dJ4_append_cf468_2 : decode mJ4_append_cf468.2.1 2 = .ok (.invokespecial 50, 3) := by decide +kernel
theorem dJ4_append_cf468_5 : decode mJ4_append_cf468.2.1 5 = .ok (.pop, 1) := by decide +kernel
theorem dJ4_append_cf468_6 : decode mJ4_append_cf468.2.1 6 = .ok (.aload_n 0, 1) := by decide +kernel
theorem dJ4_append_cf468_7 : decode mJ4_append_cf468.2.1 7 = .ok (.areturn, 1) := by decide +kernel
theorem dJ4_append_bf812_0 : decode mJ4_append_bf812.2.1 0 = .ok (.aload_n 0, 1) := by decide +kernel
theorem dJ4_append_bf812_1 : decode mJ4_append_bf812.2.1 1 = .ok (.iload_n 1, 1) := by decide +kernel
theorem dJ4_append_bf812_2 : decode mJ4_append_bf812.2.1 2 = .ok (.invokespecial 53, 3) := by decide +kernel
theorem dJ4_append_bf812_5 : decode mJ4_append_bf812.2.1 5 = .ok (.pop, 1) := by decide +kernel
theorem dJ4_append_bf812_6 : decode mJ4_append_bf812.2.1 6 = .ok (.aload_n 0, 1) := by decide +kernel
theorem dJ4_append_bf812_7 : decode mJ4_append_bf812.2.1 7 = .ok (.areturn, 1) := by decide +kernel
theorem dJ4_init_da8c8_0 : decode mJ4_init_da8c8.2.1 0 = .ok (.aload_n 0, 1) := by decide +kernel
theorem dJ4_init_da8c8_1 : decode mJ4_init_da8c8.2.1 1 = .ok (.bipush 16, 2) := by decide +kernel
theorem dJ4_init_da8c8_3 : decode mJ4_init_da8c8.2.1 3 = .ok (.invokespecial 1, 3) := by decide +kernel
theorem dJ4_init_da8c8_6 : decode mJ4_init_da8c8.2.1 6 = .ok (.return_, 1) := by decide +kernel
theorem vJ0_checkIndex_df160_0 {G : GG} (gk : GOK G) (sok : SOK G) {σ : Mm} {K : RES → Mm → Prop} {x0 : Int32} {x1 : Int32}
    (h : ∀ r1 : Option Nat, Runs G mJ3_checkIndex_8e157 rJ3_checkIndex_8e157 [(vI x0), (vI x1), (vR r1)] σ (bk G mJ0_checkIndex_df160 rJ0_checkIndex_df160 0 0 8 [some (vI x0), some (vI x1)] [] K)) : At G mJ0_checkIndex_df160 rJ0_checkIndex_df160 0 0 0 [some (vI x0), some (vI x1)] [] σ K := by
  refine s_iload_n (i := 0) dJ0_checkIndex_df160_0 rfl rfl ?_
  refine s_iload_n (i := 1) dJ0_checkIndex_df160_1 rfl rfl ?_
  refine s_getQ gk dJ0_checkIndex_df160_2 w_575 sok.2.1 (fun r1 => ?_)
  replace h := h r1
  exact s_callS (as := [(vI x0), (vI x1), (vR r1)]) (S := []) gk dJ0_checkIndex_df160_5 gJ0_1059 w_578 rfl rfl (Nat.le_of_ble_eq_true rfl) (by decide) h
theorem eJ0_checkIndex_df160 {G : GG} (gk : GOK G) (sok : SOK G) {σ : Mm} {K : RES → Mm → Prop} {x0 : Int32} {x1 : Int32}
    (h : ∀ r1 : Option Nat, Runs G mJ3_checkIndex_8e157 rJ3_checkIndex_8e157 [(vI x0), (vI x1), (vR r1)] σ (bk G mJ0_checkIndex_df160 rJ0_checkIndex_df160 0 0 8 [some (vI x0), some (vI x1)] [] K)) : Runs G mJ0_checkIndex_df160 rJ0_checkIndex_df160 [(vI x0), (vI x1)] σ K := Runs.ofF (by decide +kernel) rfl (Nat.le_of_ble_eq_true rfl) (vJ0_checkIndex_df160_0 gk sok h)
theorem vJ0_checkIndex_df160_8 {G : GG} (gk : GOK G) {σ : Mm} {K : RES → Mm → Prop} {x0 : Int32} {x1 : Int32} {s0 : Int32}
    (h : K (.inl none) σ) : At G mJ0_checkIndex_df160 rJ0_checkIndex_df160 0 0 8 [some (vI x0), some (vI x1)] [(vI s0)] σ K := by
  refine s_pop dJ0_checkIndex_df160_8 rfl ?_
  exact s_return dJ0_checkIndex_df160_9 rfl (by decide) (by decide) h
theorem vJ3_checkIndex_8e157_0 {G : GG} (gk : GOK G) {σ : Mm} {K : RES → Mm → Prop} {x0 : Int32} {x1 : Int32} {x2 : Option Nat}
    (h : ((x0 < 0 → False) ∧ (¬ x0 < 0 → ((x0 < x1 → K (.inl (some (vI x0))) σ) ∧ (¬ x0 < x1 → False))))) : At G mJ3_checkIndex_8e157 rJ3_checkIndex_8e157 0 0 0 [some (vI x0), some (vI x1), some (vR x2)] [] σ K := by
  refine s_iload_n (i := 0) dJ3_checkIndex_8e157_0 rfl rfl ?_
  refine s_if_lt (tgt := 9) dJ3_checkIndex_8e157_1 (by decide) (fun q1 => ?_) (fun q1 => ?_)
  · have h := h.1 q1
    refine s_aload_n (i := 2) dJ3_checkIndex_8e157_9 rfl rfl ?_
    refine s_iload_n (i := 0) dJ3_checkIndex_8e157_10 rfl rfl ?_
    refine s_iload_n (i := 1) dJ3_checkIndex_8e157_11 rfl rfl ?_
    exact h.elim
  · have h := h.2 q1
    refine s_iload_n (i := 0) dJ3_checkIndex_8e157_4 rfl rfl ?_
    refine s_iload_n (i := 1) dJ3_checkIndex_8e157_5 rfl rfl ?_
    refine s_icmp_lt (tgt := 16) dJ3_checkIndex_8e157_6 (by decide) (fun q2 => ?_) (fun q2 => ?_)
    · have h := h.1 q2
      refine s_iload_n (i := 0) dJ3_checkIndex_8e157_16 rfl rfl ?_
      exact s_ireturn dJ3_checkIndex_8e157_17 rfl rfl (by decide) (by decide) h
    · have h := h.2 q2
      refine s_aload_n (i := 2) dJ3_checkIndex_8e157_9 rfl rfl ?_
      refine s_iload_n (i := 0) dJ3_checkIndex_8e157_10 rfl rfl ?_
      refine s_iload_n (i := 1) dJ3_checkIndex_8e157_11 rfl rfl ?_
      exact h.elim
theorem eJ3_checkIndex_8e157 {G : GG} (gk : GOK G) {σ : Mm} {K : RES → Mm → Prop} {x0 : Int32} {x1 : Int32} {x2 : Option Nat}
    (h : ((x0 < 0 → False) ∧ (¬ x0 < 0 → ((x0 < x1 → K (.inl (some (vI x0))) σ) ∧ (¬ x0 < x1 → False))))) : Runs G mJ3_checkIndex_8e157 rJ3_checkIndex_8e157 [(vI x0), (vI x1), (vR x2)] σ K := Runs.ofF (by decide +kernel) rfl (Nat.le_of_ble_eq_true rfl) (vJ3_checkIndex_8e157_0 gk h)
theorem vJ9_min_7cf53_0 {G : GG} (gk : GOK G) {σ : Mm} {K : RES → Mm → Prop} {x0 : Int32} {x1 : Int32}
    (h : ((x1 < x0 → K (.inl (some (vI x1))) σ) ∧ (¬ x1 < x0 → K (.inl (some (vI x0))) σ))) : At G mJ9_min_7cf53 rJ9_min_7cf53 0 0 0 [some (vI x0), some (vI x1)] [] σ K := by
  refine s_iload_n (i := 0) dJ9_min_7cf53_0 rfl rfl ?_
  refine s_iload_n (i := 1) dJ9_min_7cf53_1 rfl rfl ?_
  refine s_icmp_gt (tgt := 9) dJ9_min_7cf53_2 (by decide) (fun q1 => ?_) (fun q1 => ?_)
  · have h := h.1 q1
    refine s_iload_n (i := 1) dJ9_min_7cf53_9 rfl rfl ?_
    exact s_ireturn dJ9_min_7cf53_10 rfl rfl (by decide) (by decide) h
  · have h := h.2 q1
    refine s_iload_n (i := 0) dJ9_min_7cf53_5 rfl rfl ?_
    refine s_goto (tgt := 10) dJ9_min_7cf53_6 (by decide) ?_
    exact s_ireturn dJ9_min_7cf53_10 rfl rfl (by decide) (by decide) h
theorem eJ9_min_7cf53 {G : GG} (gk : GOK G) {σ : Mm} {K : RES → Mm → Prop} {x0 : Int32} {x1 : Int32}
    (h : ((x1 < x0 → K (.inl (some (vI x1))) σ) ∧ (¬ x1 < x0 → K (.inl (some (vI x0))) σ))) : Runs G mJ9_min_7cf53 rJ9_min_7cf53 [(vI x0), (vI x1)] σ K := Runs.ofF (by decide +kernel) rfl (Nat.le_of_ble_eq_true rfl) (vJ9_min_7cf53_0 gk h)
theorem vJ5_length_8abf5_0 {G : GG} (gk : GOK G) {σ : Mm} {K : RES → Mm → Prop} {x0 : Option Nat}
    (h : ∃ a1, x0 = some a1 ∧ (mt σ a1).1 = 11 ∧ K (.inl (some (vI (mi σ a1 3)))) σ) : At G mJ5_length_8abf5 rJ5_length_8abf5 0 0 0 [some (vR x0)] [] σ K := by
  refine s_aload_n (i := 0) dJ5_length_8abf5_0 rfl rfl ?_
  obtain ⟨a1, ea1, h⟩ := h
  obtain ⟨t2, h⟩ := h
  refine t_getI gk dJ5_length_8abf5_1 fJ5_79 rfl ea1 t2 ?_
  exact s_ireturn dJ5_length_8abf5_4 rfl rfl (by decide) (by decide) h
theorem eJ5_length_8abf5 {G : GG} (gk : GOK G) {σ : Mm} {K : RES → Mm → Prop} {x0 : Option Nat}
    (h : ∃ a1, x0 = some a1 ∧ (mt σ a1).1 = 11 ∧ K (.inl (some (vI (mi σ a1 3)))) σ) : Runs G mJ5_length_8abf5 rJ5_length_8abf5 [(vR x0)] σ K := Runs.ofF (by decide +kernel) rfl (Nat.le_of_ble_eq_true rfl) (vJ5_length_8abf5_0 gk h)
theorem vJ5_charAt_5068e_0 {G : GG} (gk : GOK G) {σ : Mm} {K : RES → Mm → Prop} {x0 : Option Nat} {x1 : Int32}
    (h : ∃ a1, x0 = some a1 ∧ (mt σ a1).1 = 11 ∧ ∃ a3, mr σ a1 0 = some a3 ∧ ∃ n5, mt σ a3 = (54, n5) ∧ Runs G mJ9_min_7cf53 rJ9_min_7cf53 [(vI (mi σ a1 3)), (vI ((nI n5) >>> ((mi σ a1 1) &&& 31)))] σ (bk G mJ5_charAt_5068e rJ5_charAt_5068e 0 0 21 [some (vR x0), some (vI x1), some (vI (mi σ a1 1)), some (vR (mr σ a1 0)), none] [] K)) : At G mJ5_charAt_5068e rJ5_charAt_5068e 0 0 0 [some (vR x0), some (vI x1), none, none, none] [] σ K := by
  refine s_aload_n (i := 0) dJ5_charAt_5068e_0 rfl rfl ?_
  obtain ⟨a1, ea1, h⟩ := h
  obtain ⟨t2, h⟩ := h
  refine t_getI gk dJ5_charAt_5068e_1 fJ5_22 rfl ea1 t2 ?_
  refine s_istore_n (i := 2) (L' := [some (vR x0), some (vI x1), some (vI (mi σ a1 1)), none, none]) dJ5_charAt_5068e_4 rfl rfl (by decide) rfl ?_
  refine s_aload_n (i := 0) dJ5_charAt_5068e_5 rfl rfl ?_
  refine t_getR gk dJ5_charAt_5068e_6 fJ5_15 rfl ea1 t2 ?_
  refine s_astore_n (i := 3) (L' := [some (vR x0), some (vI x1), some (vI (mi σ a1 1)), some (vR (mr σ a1 0)), none]) dJ5_charAt_5068e_9 rfl rfl (by decide) rfl ?_
  refine s_aload_n (i := 0) dJ5_charAt_5068e_10 rfl rfl ?_
  refine t_getI gk dJ5_charAt_5068e_11 fJ5_79 rfl ea1 t2 ?_
  refine s_aload_n (i := 3) dJ5_charAt_5068e_14 rfl rfl ?_
  obtain ⟨a3, ea3, h⟩ := h
  obtain ⟨n5, t4, h⟩ := h
  refine t_alen (j := 4) gk dJ5_charAt_5068e_15 (by decide) ea3 t4 ?_
  refine s_iload_n (i := 2) dJ5_charAt_5068e_16 rfl rfl ?_
  refine s_ishr dJ5_charAt_5068e_17 ?_
  exact s_callS (as := [(vI (mi σ a1 3)), (vI ((nI n5) >>> ((mi σ a1 1) &&& 31)))]) (S := []) gk dJ5_charAt_5068e_18 gJ5_138 w_1133 rfl rfl (Nat.le_of_ble_eq_true rfl) (by decide) h
theorem eJ5_charAt_5068e {G : GG} (gk : GOK G) {σ : Mm} {K : RES → Mm → Prop} {x0 : Option Nat} {x1 : Int32}
    (h : ∃ a1, x0 = some a1 ∧ (mt σ a1).1 = 11 ∧ ∃ a3, mr σ a1 0 = some a3 ∧ ∃ n5, mt σ a3 = (54, n5) ∧ Runs G mJ9_min_7cf53 rJ9_min_7cf53 [(vI (mi σ a1 3)), (vI ((nI n5) >>> ((mi σ a1 1) &&& 31)))] σ (bk G mJ5_charAt_5068e rJ5_charAt_5068e 0 0 21 [some (vR x0), some (vI x1), some (vI (mi σ a1 1)), some (vR (mr σ a1 0)), none] [] K)) : Runs G mJ5_charAt_5068e rJ5_charAt_5068e [(vR x0), (vI x1)] σ K := Runs.ofF (by decide +kernel) rfl (Nat.le_of_ble_eq_true rfl) (vJ5_charAt_5068e_0 gk h)
theorem vJ5_charAt_5068e_21 {G : GG} (gk : GOK G) {σ : Mm} {K : RES → Mm → Prop} {x0 : Option Nat} {x1 : Int32} {x2 : Int32} {x3 : Option Nat} {s0 : Int32}
    (h : Runs G mJ0_checkIndex_df160 rJ0_checkIndex_df160 [(vI x1), (vI s0)] σ (bk G mJ5_charAt_5068e rJ5_charAt_5068e 0 0 29 [some (vR x0), some (vI x1), some (vI x2), some (vR x3), some (vI s0)] [] K)) : At G mJ5_charAt_5068e rJ5_charAt_5068e 0 0 21 [some (vR x0), some (vI x1), some (vI x2), some (vR x3), none] [(vI s0)] σ K := by
  refine s_istore (L' := [some (vR x0), some (vI x1), some (vI x2), some (vR x3), some (vI s0)]) dJ5_charAt_5068e_21 rfl (by decide) rfl ?_
  refine s_iload_n (i := 1) dJ5_charAt_5068e_23 rfl rfl ?_
  refine s_iload dJ5_charAt_5068e_24 rfl ?_
  exact s_callS (as := [(vI x1), (vI s0)]) (S := []) gk dJ5_charAt_5068e_26 gJ5_144 w_573 rfl rfl (Nat.le_of_ble_eq_true rfl) (by decide) h
theorem vJ5_charAt_5068e_29 {G : GG} (gk : GOK G) {σ : Mm} {K : RES → Mm → Prop} {x0 : Option Nat} {x1 : Int32} {x2 : Int32} {x3 : Option Nat} {x4 : Int32}
    (h : ((¬ x2 = 0 → False) ∧ (x2 = 0 → ∃ a2, x3 = some a2 ∧ ∃ n4, mt σ a2 = (54, n4) ∧ vp_in x1 n4 ∧ isC (i2c ((mi σ a2 x1.toNatClampNeg) &&& (255 : Int32))) ∧ K (.inl (some (vI (i2c ((mi σ a2 x1.toNatClampNeg) &&& (255 : Int32)))))) σ))) : At G mJ5_charAt_5068e rJ5_charAt_5068e 0 0 29 [some (vR x0), some (vI x1), some (vI x2), some (vR x3), some (vI x4)] [] σ K := by
  refine s_iload_n (i := 2) dJ5_charAt_5068e_29 rfl rfl ?_
  refine s_if_ne (tgt := 42) dJ5_charAt_5068e_30 (by decide) (fun q1 => ?_) (fun q1 => ?_)
  · have h := h.1 q1
    refine s_aload_n (i := 3) dJ5_charAt_5068e_42 rfl rfl ?_
    refine s_iload_n (i := 1) dJ5_charAt_5068e_43 rfl rfl ?_
    exact h.elim
  · have h := h.2 q1
    refine s_aload_n (i := 3) dJ5_charAt_5068e_33 rfl rfl ?_
    refine s_iload_n (i := 1) dJ5_charAt_5068e_34 rfl rfl ?_
    obtain ⟨a2, ea2, h⟩ := h
    obtain ⟨n4, t3, h⟩ := h
    obtain ⟨c5, h⟩ := h
    refine t_bald gk dJ5_charAt_5068e_35 ea2 t3 c5 ?_
    refine s_sipush (v := 255) dJ5_charAt_5068e_36 (by decide) ?_
    refine s_iand dJ5_charAt_5068e_39 ?_
    refine s_i2c (v := i2c ((mi σ a2 x1.toNatClampNeg) &&& (255 : Int32))) dJ5_charAt_5068e_40 rfl ?_
    obtain ⟨c6, h⟩ := h
    exact s_ireturn dJ5_charAt_5068e_41 rfl (nf_c c6).1 (by decide) (by decide) h
theorem vJ5_isLatin1_aae02_0 {G : GG} (gk : GOK G) (sok : SOK G) {σ : Mm} {K : RES → Mm → Prop} {x0 : Option Nat}
    (h : (((1 : Int32) = 0 → K (.inl (some (vI (0 : Int32)))) σ) ∧ (¬ (1 : Int32) = 0 → ∃ a2, x0 = some a2 ∧ (mt σ a2).1 = 11 ∧ ((¬ (mi σ a2 1) = 0 → K (.inl (some (vI (0 : Int32)))) σ) ∧ ((mi σ a2 1) = 0 → K (.inl (some (vI (1 : Int32)))) σ))))) : At G mJ5_isLatin1_aae02 rJ5_isLatin1_aae02 0 0 0 [some (vR x0)] [] σ K := by
  refine s_getZ (v := vI 1) gk dJ5_isLatin1_aae02_0 w_312 sok.1 ?_
  refine s_if_eq (tgt := 17) dJ5_isLatin1_aae02_3 (by decide) (fun q1 => ?_) (fun q1 => ?_)
  · have h := h.1 q1
    refine s_iconst (v := 0) dJ5_isLatin1_aae02_17 (by decide) ?_
    exact s_ireturn dJ5_isLatin1_aae02_18 rfl rfl (by decide) (by decide) h
  · have h := h.2 q1
    refine s_aload_n (i := 0) dJ5_isLatin1_aae02_6 rfl rfl ?_
    obtain ⟨a2, ea2, h⟩ := h
    obtain ⟨t3, h⟩ := h
    refine t_getI gk dJ5_isLatin1_aae02_7 fJ5_22 rfl ea2 t3 ?_
    refine s_if_ne (tgt := 17) dJ5_isLatin1_aae02_10 (by decide) (fun q4 => ?_) (fun q4 => ?_)
    · have h := h.1 q4
      refine s_iconst (v := 0) dJ5_isLatin1_aae02_17 (by decide) ?_
      exact s_ireturn dJ5_isLatin1_aae02_18 rfl rfl (by decide) (by decide) h
    · have h := h.2 q4
      refine s_iconst (v := 1) dJ5_isLatin1_aae02_13 (by decide) ?_
      refine s_goto (tgt := 18) dJ5_isLatin1_aae02_14 (by decide) ?_
      exact s_ireturn dJ5_isLatin1_aae02_18 rfl rfl (by decide) (by decide) h
theorem eJ5_isLatin1_aae02 {G : GG} (gk : GOK G) (sok : SOK G) {σ : Mm} {K : RES → Mm → Prop} {x0 : Option Nat}
    (h : (((1 : Int32) = 0 → K (.inl (some (vI (0 : Int32)))) σ) ∧ (¬ (1 : Int32) = 0 → ∃ a2, x0 = some a2 ∧ (mt σ a2).1 = 11 ∧ ((¬ (mi σ a2 1) = 0 → K (.inl (some (vI (0 : Int32)))) σ) ∧ ((mi σ a2 1) = 0 → K (.inl (some (vI (1 : Int32)))) σ))))) : Runs G mJ5_isLatin1_aae02 rJ5_isLatin1_aae02 [(vR x0)] σ K := Runs.ofF (by decide +kernel) rfl (Nat.le_of_ble_eq_true rfl) (vJ5_isLatin1_aae02_0 gk sok h)
theorem vJ5_ensureCapacityInternal_d00df_0 {G : GG} (gk : GOK G) {σ : Mm} {K : RES → Mm → Prop} {x0 : Option Nat} {x1 : Int32}
    (h : ∃ a1, x0 = some a1 ∧ (mt σ a1).1 = 11 ∧ ∃ a3, mr σ a1 0 = some a3 ∧ ∃ n5, mt σ a3 = (54, n5) ∧ (((x1 - ((nI n5) >>> ((mi σ a1 1) &&& 31))) ≤ 0 → K (.inl none) σ) ∧ (¬ (x1 - ((nI n5) >>> ((mi σ a1 1) &&& 31))) ≤ 0 → False))) : At G mJ5_ensureCapacityInternal_d00df rJ5_ensureCapacityInternal_d00df 0 0 0 [some (vR x0), some (vI x1), none] [] σ K := by
  refine s_aload_n (i := 0) dJ5_ensureCapacityInternal_d00df_0 rfl rfl ?_
  obtain ⟨a1, ea1, h⟩ := h
  obtain ⟨t2, h⟩ := h
  refine t_getR gk dJ5_ensureCapacityInternal_d00df_1 fJ5_15 rfl ea1 t2 ?_
  obtain ⟨a3, ea3, h⟩ := h
  obtain ⟨n5, t4, h⟩ := h
  refine t_alen (j := 4) gk dJ5_ensureCapacityInternal_d00df_4 (by decide) ea3 t4 ?_
  refine s_aload_n (i := 0) dJ5_ensureCapacityInternal_d00df_5 rfl rfl ?_
  refine t_getI gk dJ5_ensureCapacityInternal_d00df_6 fJ5_22 rfl ea1 t2 ?_
  refine s_ishr dJ5_ensureCapacityInternal_d00df_9 ?_
  refine s_istore_n (i := 2) (L' := [some (vR x0), some (vI x1), some (vI ((nI n5) >>> ((mi σ a1 1) &&& 31)))]) dJ5_ensureCapacityInternal_d00df_10 rfl rfl (by decide) rfl ?_
  refine s_iload_n (i := 1) dJ5_ensureCapacityInternal_d00df_11 rfl rfl ?_
  refine s_iload_n (i := 2) dJ5_ensureCapacityInternal_d00df_12 rfl rfl ?_
  refine s_isub dJ5_ensureCapacityInternal_d00df_13 ?_
  refine s_if_le (tgt := 38) dJ5_ensureCapacityInternal_d00df_14 (by decide) (fun q6 => ?_) (fun q6 => ?_)
  · have h := h.1 q6
    exact s_return dJ5_ensureCapacityInternal_d00df_38 rfl (by decide) (by decide) h
  · have h := h.2 q6
    refine s_aload_n (i := 0) dJ5_ensureCapacityInternal_d00df_17 rfl rfl ?_
    refine s_aload_n (i := 0) dJ5_ensureCapacityInternal_d00df_18 rfl rfl ?_
    refine t_getR gk dJ5_ensureCapacityInternal_d00df_19 fJ5_15 rfl ea1 t2 ?_
    refine s_aload_n (i := 0) dJ5_ensureCapacityInternal_d00df_22 rfl rfl ?_
    refine s_iload_n (i := 1) dJ5_ensureCapacityInternal_d00df_23 rfl rfl ?_
    exact h.elim
theorem eJ5_ensureCapacityInternal_d00df {G : GG} (gk : GOK G) {σ : Mm} {K : RES → Mm → Prop} {x0 : Option Nat} {x1 : Int32}
    (h : ∃ a1, x0 = some a1 ∧ (mt σ a1).1 = 11 ∧ ∃ a3, mr σ a1 0 = some a3 ∧ ∃ n5, mt σ a3 = (54, n5) ∧ (((x1 - ((nI n5) >>> ((mi σ a1 1) &&& 31))) ≤ 0 → K (.inl none) σ) ∧ (¬ (x1 - ((nI n5) >>> ((mi σ a1 1) &&& 31))) ≤ 0 → False))) : Runs G mJ5_ensureCapacityInternal_d00df rJ5_ensureCapacityInternal_d00df [(vR x0), (vI x1)] σ K := Runs.ofF (by decide +kernel) rfl (Nat.le_of_ble_eq_true rfl) (vJ5_ensureCapacityInternal_d00df_0 gk h)
theorem vJ5_ensureCapacityInternal_d00df_b_0 {G : GG} (gk : GOK G) {σ : Mm} {K : RES → Mm → Prop} {x0 : Option Nat} {x1 : Int32}
    (h : ∃ a1, x0 = some a1 ∧ (mt σ a1).1 = 11 ∧ ∃ a3, mr σ a1 0 = some a3 ∧ ∃ n5, mt σ a3 = (54, n5) ∧ (((x1 - ((nI n5) >>> ((mi σ a1 1) &&& 31))) ≤ 0 → K (.inl none) σ) ∧ (¬ (x1 - ((nI n5) >>> ((mi σ a1 1) &&& 31))) ≤ 0 → Runs G mJ5_newCapacity_0f7a4 rJ5_newCapacity_0f7a4 [(vR x0), (vI x1)] σ (bk G mJ5_ensureCapacityInternal_d00df rJ5_ensureCapacityInternal_d00df_b 0 0 27 [some (vR x0), some (vI x1), some (vI ((nI n5) >>> ((mi σ a1 1) &&& 31)))] [(vR (mr σ a1 0)), (vR x0)] K)))) : At G mJ5_ensureCapacityInternal_d00df rJ5_ensureCapacityInternal_d00df_b 0 0 0 [some (vR x0), some (vI x1), none] [] σ K := by
  refine s_aload_n (i := 0) dJ5_ensureCapacityInternal_d00df_0 rfl rfl ?_
  obtain ⟨a1, ea1, h⟩ := h
  obtain ⟨t2, h⟩ := h
  refine t_getR gk dJ5_ensureCapacityInternal_d00df_1 fJ5_15 rfl ea1 t2 ?_
  obtain ⟨a3, ea3, h⟩ := h
  obtain ⟨n5, t4, h⟩ := h
  refine t_alen (j := 4) gk dJ5_ensureCapacityInternal_d00df_4 (by decide) ea3 t4 ?_
  refine s_aload_n (i := 0) dJ5_ensureCapacityInternal_d00df_5 rfl rfl ?_
  refine t_getI gk dJ5_ensureCapacityInternal_d00df_6 fJ5_22 rfl ea1 t2 ?_
  refine s_ishr dJ5_ensureCapacityInternal_d00df_9 ?_
  refine s_istore_n (i := 2) (L' := [some (vR x0), some (vI x1), some (vI ((nI n5) >>> ((mi σ a1 1) &&& 31)))]) dJ5_ensureCapacityInternal_d00df_10 rfl rfl (by decide) rfl ?_
  refine s_iload_n (i := 1) dJ5_ensureCapacityInternal_d00df_11 rfl rfl ?_
  refine s_iload_n (i := 2) dJ5_ensureCapacityInternal_d00df_12 rfl rfl ?_
  refine s_isub dJ5_ensureCapacityInternal_d00df_13 ?_
  refine s_if_le (tgt := 38) dJ5_ensureCapacityInternal_d00df_14 (by decide) (fun q6 => ?_) (fun q6 => ?_)
  · have h := h.1 q6
    exact s_return dJ5_ensureCapacityInternal_d00df_38 rfl (by decide) (by decide) h
  · have h := h.2 q6
    refine s_aload_n (i := 0) dJ5_ensureCapacityInternal_d00df_17 rfl rfl ?_
    refine s_aload_n (i := 0) dJ5_ensureCapacityInternal_d00df_18 rfl rfl ?_
    refine t_getR gk dJ5_ensureCapacityInternal_d00df_19 fJ5_15 rfl ea1 t2 ?_
    refine s_aload_n (i := 0) dJ5_ensureCapacityInternal_d00df_22 rfl rfl ?_
    refine s_iload_n (i := 1) dJ5_ensureCapacityInternal_d00df_23 rfl rfl ?_
    exact s_callVC (ci := 10) (as := [(vI x1)]) (S := [(vR (mr σ a1 0)), (vR x0)]) gk dJ5_ensureCapacityInternal_d00df_24 gJ5_104 (by decide) w_1109 (sl_J5_newCapacity_0f7a4 gk) ea1 t2 rfl rfl (Nat.le_of_ble_eq_true rfl) (by decide) h
theorem eJ5_ensureCapacityInternal_d00df_b {G : GG} (gk : GOK G) {σ : Mm} {K : RES → Mm → Prop} {x0 : Option Nat} {x1 : Int32}
    (h : ∃ a1, x0 = some a1 ∧ (mt σ a1).1 = 11 ∧ ∃ a3, mr σ a1 0 = some a3 ∧ ∃ n5, mt σ a3 = (54, n5) ∧ (((x1 - ((nI n5) >>> ((mi σ a1 1) &&& 31))) ≤ 0 → K (.inl none) σ) ∧ (¬ (x1 - ((nI n5) >>> ((mi σ a1 1) &&& 31))) ≤ 0 → Runs G mJ5_newCapacity_0f7a4 rJ5_newCapacity_0f7a4 [(vR x0), (vI x1)] σ (bk G mJ5_ensureCapacityInternal_d00df rJ5_ensureCapacityInternal_d00df_b 0 0 27 [some (vR x0), some (vI x1), some (vI ((nI n5) >>> ((mi σ a1 1) &&& 31)))] [(vR (mr σ a1 0)), (vR x0)] K)))) : Runs G mJ5_ensureCapacityInternal_d00df rJ5_ensureCapacityInternal_d00df_b [(vR x0), (vI x1)] σ K := Runs.ofF (by decide +kernel) rfl (Nat.le_of_ble_eq_true rfl) (vJ5_ensureCapacityInternal_d00df_b_0 gk h)
theorem vJ5_ensureCapacityInternal_d00df_b_27 {G : GG} (gk : GOK G) {σ : Mm} {K : RES → Mm → Prop} {x0 : Option Nat} {x1 : Int32} {x2 : Int32} {s0 : Int32} {s1 : Option Nat} {s2 : Option Nat}
    (h : ∃ a1, x0 = some a1 ∧ (mt σ a1).1 = 11 ∧ Runs G mJ7_copyOf_9075b rJ7_copyOf_9075b_b [(vR s1), (vI (s0 <<< ((mi σ a1 1) &&& 31)))] σ (bk G mJ5_ensureCapacityInternal_d00df rJ5_ensureCapacityInternal_d00df_b 1 140 35 [some (vR x0), some (vI x1), some (vI x2)] [(vR s2)] K)) : At G mJ5_ensureCapacityInternal_d00df rJ5_ensureCapacityInternal_d00df_b 0 0 27 [some (vR x0), some (vI x1), some (vI x2)] [(vI s0), (vR s1), (vR s2)] σ K := by
  refine s_aload_n (i := 0) dJ5_ensureCapacityInternal_d00df_27 rfl rfl ?_
  obtain ⟨a1, ea1, h⟩ := h
  obtain ⟨t2, h⟩ := h
  refine t_getI gk dJ5_ensureCapacityInternal_d00df_28 fJ5_22 rfl ea1 t2 ?_
  refine s_ishl dJ5_ensureCapacityInternal_d00df_31 ?_
  exact s_callS (as := [(vR s1), (vI (s0 <<< ((mi σ a1 1) &&& 31)))]) (S := [(vR s2)]) gk dJ5_ensureCapacityInternal_d00df_32 gJ5_108 w_1123 rfl rfl (Nat.le_of_ble_eq_true rfl) (by decide) h
theorem vJ5_ensureCapacityInternal_d00df_b_35 {G : GG} (gk : GOK G) {σ : Mm} {K : RES → Mm → Prop} {x0 : Option Nat} {x1 : Int32} {x2 : Int32} {s0 : Option Nat} {s1 : Option Nat}
    (h : ∃ a1, s1 = some a1 ∧ (mt σ a1).1 = 11 ∧ ∀ σ3, σ3 = sr σ a1 0 s0 → K (.inl none) σ3) : At G mJ5_ensureCapacityInternal_d00df rJ5_ensureCapacityInternal_d00df_b 1 140 35 [some (vR x0), some (vI x1), some (vI x2)] [(vR s0), (vR s1)] σ K := by
  obtain ⟨a1, ea1, h⟩ := h
  obtain ⟨t2, h⟩ := h
  refine t_putR gk dJ5_ensureCapacityInternal_d00df_35 fJ5_15 (Or.inl rfl) rfl ea1 t2 (nf_rf rfl) (fun σ3 eσ3 mσ3 => ?_)
  replace h := h σ3 eσ3
  exact s_return dJ5_ensureCapacityInternal_d00df_38 rfl (by decide) (by decide) h
theorem vJ5_newCapacity_0f7a4_0 {G : GG} (gk : GOK G) {σ : Mm} {K : RES → Mm → Prop} {x0 : Option Nat} {x1 : Int32}
    (h : ∃ a1, x0 = some a1 ∧ (mt σ a1).1 = 11 ∧ ∃ a3, mr σ a1 0 = some a3 ∧ ∃ n5, mt σ a3 = (54, n5) ∧ Runs G mJ8_newLength_cabcc rJ8_newLength_cabcc [(vI (nI n5)), (vI ((x1 <<< ((mi σ a1 1) &&& 31)) - (nI n5))), (vI ((nI n5) + ((2 : Int32) <<< ((mi σ a1 1) &&& 31))))] σ (bk G mJ5_newCapacity_0f7a4 rJ5_newCapacity_0f7a4 0 0 32 [some (vR x0), some (vI x1), some (vI (nI n5)), some (vI (x1 <<< ((mi σ a1 1) &&& 31))), some (vI ((x1 <<< ((mi σ a1 1) &&& 31)) - (nI n5))), none] [] K)) : At G mJ5_newCapacity_0f7a4 rJ5_newCapacity_0f7a4 0 0 0 [some (vR x0), some (vI x1), none, none, none, none] [] σ K := by
  refine s_aload_n (i := 0) dJ5_newCapacity_0f7a4_0 rfl rfl ?_
  obtain ⟨a1, ea1, h⟩ := h
  obtain ⟨t2, h⟩ := h
  refine t_getR gk dJ5_newCapacity_0f7a4_1 fJ5_15 rfl ea1 t2 ?_
  obtain ⟨a3, ea3, h⟩ := h
  obtain ⟨n5, t4, h⟩ := h
  refine t_alen (j := 4) gk dJ5_newCapacity_0f7a4_4 (by decide) ea3 t4 ?_
  refine s_istore_n (i := 2) (L' := [some (vR x0), some (vI x1), some (vI (nI n5)), none, none, none]) dJ5_newCapacity_0f7a4_5 rfl rfl (by decide) rfl ?_
  refine s_iload_n (i := 1) dJ5_newCapacity_0f7a4_6 rfl rfl ?_
  refine s_aload_n (i := 0) dJ5_newCapacity_0f7a4_7 rfl rfl ?_
  refine t_getI gk dJ5_newCapacity_0f7a4_8 fJ5_22 rfl ea1 t2 ?_
  refine s_ishl dJ5_newCapacity_0f7a4_11 ?_
  refine s_istore_n (i := 3) (L' := [some (vR x0), some (vI x1), some (vI (nI n5)), some (vI (x1 <<< ((mi σ a1 1) &&& 31))), none, none]) dJ5_newCapacity_0f7a4_12 rfl rfl (by decide) rfl ?_
  refine s_iload_n (i := 3) dJ5_newCapacity_0f7a4_13 rfl rfl ?_
  refine s_iload_n (i := 2) dJ5_newCapacity_0f7a4_14 rfl rfl ?_
  refine s_isub dJ5_newCapacity_0f7a4_15 ?_
  refine s_istore (L' := [some (vR x0), some (vI x1), some (vI (nI n5)), some (vI (x1 <<< ((mi σ a1 1) &&& 31))), some (vI ((x1 <<< ((mi σ a1 1) &&& 31)) - (nI n5))), none]) dJ5_newCapacity_0f7a4_16 rfl (by decide) rfl ?_
  refine s_iload_n (i := 2) dJ5_newCapacity_0f7a4_18 rfl rfl ?_
  refine s_iload dJ5_newCapacity_0f7a4_19 rfl ?_
  refine s_iload_n (i := 2) dJ5_newCapacity_0f7a4_21 rfl rfl ?_
  refine s_iconst (v := 2) dJ5_newCapacity_0f7a4_22 (by decide) ?_
  refine s_aload_n (i := 0) dJ5_newCapacity_0f7a4_23 rfl rfl ?_
  refine t_getI gk dJ5_newCapacity_0f7a4_24 fJ5_22 rfl ea1 t2 ?_
  refine s_ishl dJ5_newCapacity_0f7a4_27 ?_
  refine s_iadd dJ5_newCapacity_0f7a4_28 ?_
  exact s_callS (as := [(vI (nI n5)), (vI ((x1 <<< ((mi σ a1 1) &&& 31)) - (nI n5))), (vI ((nI n5) + ((2 : Int32) <<< ((mi σ a1 1) &&& 31))))]) (S := []) gk dJ5_newCapacity_0f7a4_29 gJ5_114 w_1112 rfl rfl (Nat.le_of_ble_eq_true rfl) (by decide) h
theorem eJ5_newCapacity_0f7a4 {G : GG} (gk : GOK G) {σ : Mm} {K : RES → Mm → Prop} {x0 : Option Nat} {x1 : Int32}
    (h : ∃ a1, x0 = some a1 ∧ (mt σ a1).1 = 11 ∧ ∃ a3, mr σ a1 0 = some a3 ∧ ∃ n5, mt σ a3 = (54, n5) ∧ Runs G mJ8_newLength_cabcc rJ8_newLength_cabcc [(vI (nI n5)), (vI ((x1 <<< ((mi σ a1 1) &&& 31)) - (nI n5))), (vI ((nI n5) + ((2 : Int32) <<< ((mi σ a1 1) &&& 31))))] σ (bk G mJ5_newCapacity_0f7a4 rJ5_newCapacity_0f7a4 0 0 32 [some (vR x0), some (vI x1), some (vI (nI n5)), some (vI (x1 <<< ((mi σ a1 1) &&& 31))), some (vI ((x1 <<< ((mi σ a1 1) &&& 31)) - (nI n5))), none] [] K)) : Runs G mJ5_newCapacity_0f7a4 rJ5_newCapacity_0f7a4 [(vR x0), (vI x1)] σ K := Runs.ofF (by decide +kernel) rfl (Nat.le_of_ble_eq_true rfl) (vJ5_newCapacity_0f7a4_0 gk h)
theorem vJ5_newCapacity_0f7a4_32 {G : GG} (gk : GOK G) {σ : Mm} {K : RES → Mm → Prop} {x0 : Option Nat} {x1 : Int32} {x2 : Int32} {x3 : Int32} {x4 : Int32} {s0 : Int32}
    (h : ((¬ s0 = (2147483647 : Int32) → ∃ a2, x0 = some a2 ∧ (mt σ a2).1 = 11 ∧ K (.inl (some (vI (s0 >>> ((mi σ a2 1) &&& 31))))) σ) ∧ (s0 = (2147483647 : Int32) → False))) : At G mJ5_newCapacity_0f7a4 rJ5_newCapacity_0f7a4 0 0 32 [some (vR x0), some (vI x1), some (vI x2), some (vI x3), some (vI x4), none] [(vI s0)] σ K := by
  refine s_istore (L' := [some (vR x0), some (vI x1), some (vI x2), some (vI x3), some (vI x4), some (vI s0)]) dJ5_newCapacity_0f7a4_32 rfl (by decide) rfl ?_
  refine s_iload dJ5_newCapacity_0f7a4_34 rfl ?_
  refine s_ldcI gk dJ5_newCapacity_0f7a4_36 w_1121 ?_
  refine s_icmp_ne (tgt := 51) dJ5_newCapacity_0f7a4_38 (by decide) (fun q1 => ?_) (fun q1 => ?_)
  · have h := h.1 q1
    refine s_iload dJ5_newCapacity_0f7a4_51 rfl ?_
    refine s_aload_n (i := 0) dJ5_newCapacity_0f7a4_53 rfl rfl ?_
    obtain ⟨a2, ea2, h⟩ := h
    obtain ⟨t3, h⟩ := h
    refine t_getI gk dJ5_newCapacity_0f7a4_54 fJ5_22 rfl ea2 t3 ?_
    refine s_ishr dJ5_newCapacity_0f7a4_57 ?_
    exact s_ireturn dJ5_newCapacity_0f7a4_58 rfl rfl (by decide) (by decide) h
  · have h := h.2 q1
    exact h.elim
theorem vJ8_newLength_cabcc_0 {G : GG} (gk : GOK G) {σ : Mm} {K : RES → Mm → Prop} {x0 : Int32} {x1 : Int32} {x2 : Int32}
    (h : Runs G mJ9_max_7cf53 rJ9_max_7cf53 [(vI x1), (vI x2)] σ (bk G mJ8_newLength_cabcc rJ8_newLength_cabcc 0 0 6 [some (vI x0), some (vI x1), some (vI x2), none] [(vI x0)] K)) : At G mJ8_newLength_cabcc rJ8_newLength_cabcc 0 0 0 [some (vI x0), some (vI x1), some (vI x2), none] [] σ K := by
  refine s_iload_n (i := 0) dJ8_newLength_cabcc_0 rfl rfl ?_
  refine s_iload_n (i := 1) dJ8_newLength_cabcc_1 rfl rfl ?_
  refine s_iload_n (i := 2) dJ8_newLength_cabcc_2 rfl rfl ?_
  exact s_callS (as := [(vI x1), (vI x2)]) (S := [(vI x0)]) gk dJ8_newLength_cabcc_3 gJ8_194 w_1115 rfl rfl (Nat.le_of_ble_eq_true rfl) (by decide) h
theorem eJ8_newLength_cabcc {G : GG} (gk : GOK G) {σ : Mm} {K : RES → Mm → Prop} {x0 : Int32} {x1 : Int32} {x2 : Int32}
    (h : Runs G mJ9_max_7cf53 rJ9_max_7cf53 [(vI x1), (vI x2)] σ (bk G mJ8_newLength_cabcc rJ8_newLength_cabcc 0 0 6 [some (vI x0), some (vI x1), some (vI x2), none] [(vI x0)] K)) : Runs G mJ8_newLength_cabcc rJ8_newLength_cabcc [(vI x0), (vI x1), (vI x2)] σ K := Runs.ofF (by decide +kernel) rfl (Nat.le_of_ble_eq_true rfl) (vJ8_newLength_cabcc_0 gk h)
theorem vJ8_newLength_cabcc_6 {G : GG} (gk : GOK G) {σ : Mm} {K : RES → Mm → Prop} {x0 : Int32} {x1 : Int32} {x2 : Int32} {s0 : Int32} {s1 : Int32}
    (h : (((s1 + s0) ≤ (0 : Int32) → False) ∧ (¬ (s1 + s0) ≤ (0 : Int32) → (((2147483639 : Int32) < (s1 + s0) → False) ∧ (¬ (2147483639 : Int32) < (s1 + s0) → K (.inl (some (vI (s1 + s0)))) σ))))) : At G mJ8_newLength_cabcc rJ8_newLength_cabcc 0 0 6 [some (vI x0), some (vI x1), some (vI x2), none] [(vI s0), (vI s1)] σ K := by
  refine s_iadd dJ8_newLength_cabcc_6 ?_
  refine s_istore_n (i := 3) (L' := [some (vI x0), some (vI x1), some (vI x2), some (vI (s1 + s0))]) dJ8_newLength_cabcc_7 rfl rfl (by decide) rfl ?_
  refine s_iconst (v := 0) dJ8_newLength_cabcc_8 (by decide) ?_
  refine s_iload_n (i := 3) dJ8_newLength_cabcc_9 rfl rfl ?_
  refine s_icmp_ge (tgt := 21) dJ8_newLength_cabcc_10 (by decide) (fun q1 => ?_) (fun q1 => ?_)
  · have h := h.1 q1
    refine s_iload_n (i := 0) dJ8_newLength_cabcc_21 rfl rfl ?_
    refine s_iload_n (i := 1) dJ8_newLength_cabcc_22 rfl rfl ?_
    exact h.elim
  · have h := h.2 q1
    refine s_iload_n (i := 3) dJ8_newLength_cabcc_13 rfl rfl ?_
    refine s_ldcI gk dJ8_newLength_cabcc_14 w_1117 ?_
    refine s_icmp_gt (tgt := 21) dJ8_newLength_cabcc_16 (by decide) (fun q2 => ?_) (fun q2 => ?_)
    · have h := h.1 q2
      refine s_iload_n (i := 0) dJ8_newLength_cabcc_21 rfl rfl ?_
      refine s_iload_n (i := 1) dJ8_newLength_cabcc_22 rfl rfl ?_
      exact h.elim
    · have h := h.2 q2
      refine s_iload_n (i := 3) dJ8_newLength_cabcc_19 rfl rfl ?_
      exact s_ireturn dJ8_newLength_cabcc_20 rfl rfl (by decide) (by decide) h
theorem vJ7_copyOf_9075b_b_0 {G : GG} (gk : GOK G) {σ : Mm} {K : RES → Mm → Prop} {x0 : Option Nat} {x1 : Int32}
    (h : ∃ a1, x0 = some a1 ∧ ∃ n3, mt σ a1 = (54, n3) ∧ ((¬ x1 = (nI n3) → (¬ x1 < 0 ∧ x1.toNatClampNeg * 8 ≤ 536870912 ∧ 0 + x1.toNatClampNeg ≤ 140) ∧ ∀ σ6, σ6 = nw σ (54, x1.toNatClampNeg) → ∃ n8, mt σ6 a1 = (54, n8) ∧ Runs G mJ9_min_7cf53 rJ9_min_7cf53 [(vI (nI n8)), (vI x1)] σ6 (bk G mJ7_copyOf_9075b rJ7_copyOf_9075b_b 1 140 28 [some (vR x0), some (vI x1), some (vR (some (mz σ)))] [(vI (0 : Int32)), (vR (some (mz σ))), (vI (0 : Int32)), (vR x0)] K)) ∧ (x1 = (nI n3) → False))) : At G mJ7_copyOf_9075b rJ7_copyOf_9075b_b 0 0 0 [some (vR x0), some (vI x1), none] [] σ K := by
  refine s_iload_n (i := 1) dJ7_copyOf_9075b_0 rfl rfl ?_
  refine s_aload_n (i := 0) dJ7_copyOf_9075b_1 rfl rfl ?_
  obtain ⟨a1, ea1, h⟩ := h
  obtain ⟨n3, t2, h⟩ := h
  refine t_alen (j := 4) gk dJ7_copyOf_9075b_2 (by decide) ea1 t2 ?_
  refine s_icmp_ne (tgt := 14) dJ7_copyOf_9075b_3 (by decide) (fun q4 => ?_) (fun q4 => ?_)
  · have h := h.1 q4
    refine s_iload_n (i := 1) dJ7_copyOf_9075b_14 rfl rfl ?_
    obtain ⟨c5, h⟩ := h
    refine s_newa (j := 4) (N := x1.toNatClampNeg) gk dJ7_copyOf_9075b_15 (by decide) (by decide) rfl w_335 c5.1 rfl c5.2.1 (by decide) (Nat.le_trans c5.2.2 (by decide)) ?_
    refine At.widen (uc' := 1) (us' := 140) ?_ (Nat.le_refl _) c5.2.2
    replace h := h _ rfl
    generalize nw σ (54, x1.toNatClampNeg) = σ6 at h ⊢
    refine s_astore_n (i := 2) (L' := [some (vR x0), some (vI x1), some (vR (some (mz σ)))]) dJ7_copyOf_9075b_17 rfl rfl (by decide) rfl ?_
    refine s_aload_n (i := 0) dJ7_copyOf_9075b_18 rfl rfl ?_
    refine s_iconst (v := 0) dJ7_copyOf_9075b_19 (by decide) ?_
    refine s_aload_n (i := 2) dJ7_copyOf_9075b_20 rfl rfl ?_
    refine s_iconst (v := 0) dJ7_copyOf_9075b_21 (by decide) ?_
    refine s_aload_n (i := 0) dJ7_copyOf_9075b_22 rfl rfl ?_
    obtain ⟨n8, t7, h⟩ := h
    refine t_alen (j := 4) gk dJ7_copyOf_9075b_23 (by decide) ea1 t7 ?_
    refine s_iload_n (i := 1) dJ7_copyOf_9075b_24 rfl rfl ?_
    exact s_callS (as := [(vI (nI n8)), (vI x1)]) (S := [(vI (0 : Int32)), (vR (some (mz σ))), (vI (0 : Int32)), (vR x0)]) gk dJ7_copyOf_9075b_25 gJ7_304 w_1133 rfl rfl (Nat.le_of_ble_eq_true rfl) (by decide) h
  · have h := h.2 q4
    refine s_aload_n (i := 0) dJ7_copyOf_9075b_6 rfl rfl ?_
    exact h.elim
theorem eJ7_copyOf_9075b_b {G : GG} (gk : GOK G) {σ : Mm} {K : RES → Mm → Prop} {x0 : Option Nat} {x1 : Int32}
    (h : ∃ a1, x0 = some a1 ∧ ∃ n3, mt σ a1 = (54, n3) ∧ ((¬ x1 = (nI n3) → (¬ x1 < 0 ∧ x1.toNatClampNeg * 8 ≤ 536870912 ∧ 0 + x1.toNatClampNeg ≤ 140) ∧ ∀ σ6, σ6 = nw σ (54, x1.toNatClampNeg) → ∃ n8, mt σ6 a1 = (54, n8) ∧ Runs G mJ9_min_7cf53 rJ9_min_7cf53 [(vI (nI n8)), (vI x1)] σ6 (bk G mJ7_copyOf_9075b rJ7_copyOf_9075b_b 1 140 28 [some (vR x0), some (vI x1), some (vR (some (mz σ)))] [(vI (0 : Int32)), (vR (some (mz σ))), (vI (0 : Int32)), (vR x0)] K)) ∧ (x1 = (nI n3) → False))) : Runs G mJ7_copyOf_9075b rJ7_copyOf_9075b_b [(vR x0), (vI x1)] σ K := Runs.ofF (by decide +kernel) rfl (Nat.le_of_ble_eq_true rfl) (vJ7_copyOf_9075b_b_0 gk h)
theorem vJ7_copyOf_9075b_b_28 {G : GG} (gk : GOK G) {σ : Mm} {K : RES → Mm → Prop} {x0 : Option Nat} {x1 : Int32} {x2 : Option Nat} {s0 : Int32} {s1 : Int32} {s2 : Option Nat} {s3 : Int32} {s4 : Option Nat}
    (h : ∃ a1, s4 = some a1 ∧ ∃ n3, mt σ a1 = (54, n3) ∧ ∃ a4, s2 = some a4 ∧ ∃ n6, mt σ a4 = (54, n6) ∧ ((¬ s3 < 0 ∧ ¬ s1 < 0 ∧ ¬ s0 < 0) ∧ s3.toNatClampNeg + s0.toNatClampNeg ≤ n3 ∧ s1.toNatClampNeg + s0.toNatClampNeg ≤ n6) ∧ (∀ i : Nat, i < s0.toNatClampNeg → fits .byte (.int (mi σ a1 (s3.toNatClampNeg + i))) = true) ∧ ∀ σ9, σ9 = cpI σ a1 s3.toNatClampNeg a4 s1.toNatClampNeg s0.toNatClampNeg → K (.inl (some (vR x2))) σ9) : At G mJ7_copyOf_9075b rJ7_copyOf_9075b_b 1 140 28 [some (vR x0), some (vI x1), some (vR x2)] [(vI s0), (vI s1), (vR s2), (vI s3), (vR s4)] σ K := by
  obtain ⟨a1, ea1, h⟩ := h
  obtain ⟨n3, t2, h⟩ := h
  obtain ⟨a4, ea4, h⟩ := h
  obtain ⟨n6, t5, h⟩ := h
  obtain ⟨c7, h⟩ := h
  obtain ⟨c8, h⟩ := h
  refine t_copyB gk dJ7_copyOf_9075b_28 w_1135 w_1137 w_1136 w_28 ea1 t2 ea4 t5 c7 c8 rfl (by decide) (by decide) (fun σ9 eσ9 mσ9 => ?_)
  replace h := h σ9 eσ9
  refine s_aload_n (i := 2) dJ7_copyOf_9075b_31 rfl rfl ?_
  exact s_areturn dJ7_copyOf_9075b_32 rfl rfl (by decide) (by decide) h
theorem vJ5_setLength_d00df_b_0 {G : GG} (gk : GOK G) {σ : Mm} {K : RES → Mm → Prop} {x0 : Option Nat} {x1 : Int32}
    (h : ((0 ≤ x1 → ∃ a2, x0 = some a2 ∧ (mt σ a2).1 = 11 ∧ Runs G mJ5_ensureCapacityInternal_d00df rJ5_ensureCapacityInternal_d00df [(vR x0), (vI x1)] σ (bk G mJ5_setLength_d00df rJ5_setLength_d00df_b 0 0 18 [some (vR x0), some (vI x1)] [] K)) ∧ (¬ 0 ≤ x1 → False))) : At G mJ5_setLength_d00df rJ5_setLength_d00df_b 0 0 0 [some (vR x0), some (vI x1)] [] σ K := by
  refine s_iload_n (i := 1) dJ5_setLength_d00df_0 rfl rfl ?_
  refine s_if_ge (tgt := 13) dJ5_setLength_d00df_1 (by decide) (fun q1 => ?_) (fun q1 => ?_)
  · have h := h.1 q1
    refine s_aload_n (i := 0) dJ5_setLength_d00df_13 rfl rfl ?_
    refine s_iload_n (i := 1) dJ5_setLength_d00df_14 rfl rfl ?_
    obtain ⟨a2, ea2, h⟩ := h
    obtain ⟨t3, h⟩ := h
    exact s_callVC (ci := 10) (as := [(vI x1)]) (S := []) gk dJ5_setLength_d00df_15 gJ5_100 (by decide) w_1105 (sl_J5_ensureCapacityInternal_d00df gk) ea2 t3 rfl rfl (Nat.le_of_ble_eq_true rfl) (by decide) h
  · have h := h.2 q1
    exact h.elim
theorem eJ5_setLength_d00df_b {G : GG} (gk : GOK G) {σ : Mm} {K : RES → Mm → Prop} {x0 : Option Nat} {x1 : Int32}
    (h : ((0 ≤ x1 → ∃ a2, x0 = some a2 ∧ (mt σ a2).1 = 11 ∧ Runs G mJ5_ensureCapacityInternal_d00df rJ5_ensureCapacityInternal_d00df [(vR x0), (vI x1)] σ (bk G mJ5_setLength_d00df rJ5_setLength_d00df_b 0 0 18 [some (vR x0), some (vI x1)] [] K)) ∧ (¬ 0 ≤ x1 → False))) : Runs G mJ5_setLength_d00df rJ5_setLength_d00df_b [(vR x0), (vI x1)] σ K := Runs.ofF (by decide +kernel) rfl (Nat.le_of_ble_eq_true rfl) (vJ5_setLength_d00df_b_0 gk h)
theorem vJ5_setLength_d00df_b_18 {G : GG} (gk : GOK G) {σ : Mm} {K : RES → Mm → Prop} {x0 : Option Nat} {x1 : Int32}
    (h : ∃ a1, x0 = some a1 ∧ (mt σ a1).1 = 11 ∧ ((x1 ≤ (mi σ a1 3) → (((mi σ a1 3) ≤ x1 → ∀ σ5, σ5 = si σ a1 3 x1 → K (.inl none) σ5) ∧ (¬ (mi σ a1 3) ≤ x1 → ∀ σ6, σ6 = si σ a1 2 (1 : Int32) → ∀ σ7, σ7 = si σ6 a1 3 x1 → K (.inl none) σ7))) ∧ (¬ x1 ≤ (mi σ a1 3) → Runs G mJ5_isLatin1_aae02 rJ5_isLatin1_aae02 [(vR x0)] σ (bk G mJ5_setLength_d00df rJ5_setLength_d00df_b 0 0 30 [some (vR x0), some (vI x1)] [] K)))) : At G mJ5_setLength_d00df rJ5_setLength_d00df_b 0 0 18 [some (vR x0), some (vI x1)] [] σ K := by
  refine s_aload_n (i := 0) dJ5_setLength_d00df_18 rfl rfl ?_
  obtain ⟨a1, ea1, h⟩ := h
  obtain ⟨t2, h⟩ := h
  refine t_getI gk dJ5_setLength_d00df_19 fJ5_79 rfl ea1 t2 ?_
  refine s_iload_n (i := 1) dJ5_setLength_d00df_22 rfl rfl ?_
  refine s_icmp_ge (tgt := 63) dJ5_setLength_d00df_23 (by decide) (fun q3 => ?_) (fun q3 => ?_)
  · have h := h.1 q3
    refine s_aload_n (i := 0) dJ5_setLength_d00df_63 rfl rfl ?_
    refine t_getI gk dJ5_setLength_d00df_64 fJ5_79 rfl ea1 t2 ?_
    refine s_iload_n (i := 1) dJ5_setLength_d00df_67 rfl rfl ?_
    refine s_icmp_le (tgt := 76) dJ5_setLength_d00df_68 (by decide) (fun q4 => ?_) (fun q4 => ?_)
    · have h := h.1 q4
      refine s_aload_n (i := 0) dJ5_setLength_d00df_76 rfl rfl ?_
      refine s_iload_n (i := 1) dJ5_setLength_d00df_77 rfl rfl ?_
      refine t_putI gk dJ5_setLength_d00df_78 fJ5_79 rfl rfl ea1 t2 ⟨rfl, rfl⟩ (fun σ5 eσ5 mσ5 => ?_)
      replace h := h σ5 eσ5
      exact s_return dJ5_setLength_d00df_81 rfl (by decide) (by decide) h
    · have h := h.2 q4
      refine s_aload_n (i := 0) dJ5_setLength_d00df_71 rfl rfl ?_
      refine s_iconst (v := 1) dJ5_setLength_d00df_72 (by decide) ?_
      refine t_putI gk dJ5_setLength_d00df_73 fJ5_73 rfl rfl ea1 t2 ⟨rfl, rfl⟩ (fun σ6 eσ6 mσ6 => ?_)
      replace h := h σ6 eσ6
      refine s_aload_n (i := 0) dJ5_setLength_d00df_76 rfl rfl ?_
      refine s_iload_n (i := 1) dJ5_setLength_d00df_77 rfl rfl ?_
      refine t_putI gk dJ5_setLength_d00df_78 fJ5_79 rfl rfl ea1 (by rw [mσ6]; exact t2) ⟨rfl, rfl⟩ (fun σ7 eσ7 mσ7 => ?_)
      replace h := h σ7 eσ7
      exact s_return dJ5_setLength_d00df_81 rfl (by decide) (by decide) h
  · have h := h.2 q3
    refine s_aload_n (i := 0) dJ5_setLength_d00df_26 rfl rfl ?_
    exact s_callVC (ci := 10) (as := []) (S := []) gk dJ5_setLength_d00df_27 gJ5_83 (by decide) w_1139 (sl_J5_isLatin1_aae02 gk) ea1 t2 rfl rfl (Nat.le_of_ble_eq_true rfl) (by decide) h
theorem vJ5_setLength_d00df_b_30 {G : GG} (gk : GOK G) {σ : Mm} {K : RES → Mm → Prop} {x0 : Option Nat} {x1 : Int32} {s0 : Int32}
    (h : ((s0 = 0 → ∃ a2, x0 = some a2 ∧ (mt σ a2).1 = 11 ∧ False) ∧ (¬ s0 = 0 → ∃ a4, x0 = some a4 ∧ (mt σ a4).1 = 11 ∧ False))) : At G mJ5_setLength_d00df rJ5_setLength_d00df_b 0 0 30 [some (vR x0), some (vI x1)] [(vI s0)] σ K := by
  refine s_if_eq (tgt := 48) dJ5_setLength_d00df_30 (by decide) (fun q1 => ?_) (fun q1 => ?_)
  · have h := h.1 q1
    refine s_aload_n (i := 0) dJ5_setLength_d00df_48 rfl rfl ?_
    obtain ⟨a2, ea2, h⟩ := h
    obtain ⟨t3, h⟩ := h
    refine t_getR gk dJ5_setLength_d00df_49 fJ5_15 rfl ea2 t3 ?_
    refine s_aload_n (i := 0) dJ5_setLength_d00df_52 rfl rfl ?_
    refine t_getI gk dJ5_setLength_d00df_53 fJ5_79 rfl ea2 t3 ?_
    refine s_iload_n (i := 1) dJ5_setLength_d00df_56 rfl rfl ?_
    exact h.elim
  · have h := h.2 q1
    refine s_aload_n (i := 0) dJ5_setLength_d00df_33 rfl rfl ?_
    obtain ⟨a4, ea4, h⟩ := h
    obtain ⟨t5, h⟩ := h
    refine t_getR gk dJ5_setLength_d00df_34 fJ5_15 rfl ea4 t5 ?_
    refine s_aload_n (i := 0) dJ5_setLength_d00df_37 rfl rfl ?_
    refine t_getI gk dJ5_setLength_d00df_38 fJ5_79 rfl ea4 t5 ?_
    refine s_iload_n (i := 1) dJ5_setLength_d00df_41 rfl rfl ?_
    exact h.elim
theorem vJ1_canEncode_fc78d_0 {G : GG} (gk : GOK G) {σ : Mm} {K : RES → Mm → Prop} {x0 : Int32}
    (h : (((255 : Int32) < x0 → K (.inl (some (vI (0 : Int32)))) σ) ∧ (¬ (255 : Int32) < x0 → K (.inl (some (vI (1 : Int32)))) σ))) : At G mJ1_canEncode_fc78d rJ1_canEncode_fc78d 0 0 0 [some (vI x0)] [] σ K := by
  refine s_iload_n (i := 0) dJ1_canEncode_fc78d_0 rfl rfl ?_
  refine s_sipush (v := 255) dJ1_canEncode_fc78d_1 (by decide) ?_
  refine s_icmp_gt (tgt := 11) dJ1_canEncode_fc78d_4 (by decide) (fun q1 => ?_) (fun q1 => ?_)
  · have h := h.1 q1
    refine s_iconst (v := 0) dJ1_canEncode_fc78d_11 (by decide) ?_
    exact s_ireturn dJ1_canEncode_fc78d_12 rfl rfl (by decide) (by decide) h
  · have h := h.2 q1
    refine s_iconst (v := 1) dJ1_canEncode_fc78d_7 (by decide) ?_
    refine s_goto (tgt := 12) dJ1_canEncode_fc78d_8 (by decide) ?_
    exact s_ireturn dJ1_canEncode_fc78d_12 rfl rfl (by decide) (by decide) h
theorem eJ1_canEncode_fc78d {G : GG} (gk : GOK G) {σ : Mm} {K : RES → Mm → Prop} {x0 : Int32}
    (h : (((255 : Int32) < x0 → K (.inl (some (vI (0 : Int32)))) σ) ∧ (¬ (255 : Int32) < x0 → K (.inl (some (vI (1 : Int32)))) σ))) : Runs G mJ1_canEncode_fc78d rJ1_canEncode_fc78d [(vI x0)] σ K := Runs.ofF (by decide +kernel) rfl (Nat.le_of_ble_eq_true rfl) (vJ1_canEncode_fc78d_0 gk h)
theorem vJ5_append_3fe6f_b_0 {G : GG} (gk : GOK G) {σ : Mm} {K : RES → Mm → Prop} {x0 : Option Nat} {x1 : Int32}
    (h : ∃ a1, x0 = some a1 ∧ (mt σ a1).1 = 11 ∧ Runs G mJ5_ensureCapacityInternal_d00df rJ5_ensureCapacityInternal_d00df_b [(vR x0), (vI ((mi σ a1 3) + (1 : Int32)))] σ (bk G mJ5_append_3fe6f rJ5_append_3fe6f_b 1 140 10 [some (vR x0), some (vI x1)] [] K)) : At G mJ5_append_3fe6f rJ5_append_3fe6f_b 0 0 0 [some (vR x0), some (vI x1)] [] σ K := by
  refine s_aload_n (i := 0) dJ5_append_3fe6f_0 rfl rfl ?_
  refine s_aload_n (i := 0) dJ5_append_3fe6f_1 rfl rfl ?_
  obtain ⟨a1, ea1, h⟩ := h
  obtain ⟨t2, h⟩ := h
  refine t_getI gk dJ5_append_3fe6f_2 fJ5_79 rfl ea1 t2 ?_
  refine s_iconst (v := 1) dJ5_append_3fe6f_5 (by decide) ?_
  refine s_iadd dJ5_append_3fe6f_6 ?_
  exact s_callVC (ci := 10) (as := [(vI ((mi σ a1 3) + (1 : Int32)))]) (S := []) gk dJ5_append_3fe6f_7 gJ5_100 (by decide) w_1105 (sl_J5_ensureCapacityInternal_d00df gk) ea1 t2 rfl rfl (Nat.le_of_ble_eq_true rfl) (by decide) h
theorem eJ5_append_3fe6f_b {G : GG} (gk : GOK G) {σ : Mm} {K : RES → Mm → Prop} {x0 : Option Nat} {x1 : Int32}
    (h : ∃ a1, x0 = some a1 ∧ (mt σ a1).1 = 11 ∧ Runs G mJ5_ensureCapacityInternal_d00df rJ5_ensureCapacityInternal_d00df_b [(vR x0), (vI ((mi σ a1 3) + (1 : Int32)))] σ (bk G mJ5_append_3fe6f rJ5_append_3fe6f_b 1 140 10 [some (vR x0), some (vI x1)] [] K)) : Runs G mJ5_append_3fe6f rJ5_append_3fe6f_b [(vR x0), (vI x1)] σ K := Runs.ofF (by decide +kernel) rfl (Nat.le_of_ble_eq_true rfl) (vJ5_append_3fe6f_b_0 gk h)
theorem vJ5_append_3fe6f_b_10 {G : GG} (gk : GOK G) {σ : Mm} {K : RES → Mm → Prop} {x0 : Option Nat} {x1 : Int32}
    (h : ∃ a1, x0 = some a1 ∧ (mt σ a1).1 = 11 ∧ Runs G mJ5_isLatin1_aae02 rJ5_isLatin1_aae02 [(vR x0)] σ (bk G mJ5_append_3fe6f rJ5_append_3fe6f_b 1 140 14 [some (vR x0), some (vI x1)] [] K)) : At G mJ5_append_3fe6f rJ5_append_3fe6f_b 1 140 10 [some (vR x0), some (vI x1)] [] σ K := by
  refine s_aload_n (i := 0) dJ5_append_3fe6f_10 rfl rfl ?_
  obtain ⟨a1, ea1, h⟩ := h
  obtain ⟨t2, h⟩ := h
  exact s_callVC (ci := 10) (as := []) (S := []) gk dJ5_append_3fe6f_11 gJ5_83 (by decide) w_1139 (sl_J5_isLatin1_aae02 gk) ea1 t2 rfl rfl (Nat.le_of_ble_eq_true rfl) (by decide) h
theorem vJ5_append_3fe6f_b_14 {G : GG} (gk : GOK G) {σ : Mm} {K : RES → Mm → Prop} {x0 : Option Nat} {x1 : Int32} {s0 : Int32}
    (h : ((s0 = 0 → ∃ a2, x0 = some a2 ∧ (mt σ a2).1 = 11 ∧ Runs G mJ5_isLatin1_aae02 rJ5_isLatin1_aae02 [(vR x0)] σ (bk G mJ5_append_3fe6f rJ5_append_3fe6f_b 1 140 49 [some (vR x0), some (vI x1)] [] K)) ∧ (¬ s0 = 0 → Runs G mJ1_canEncode_fc78d rJ1_canEncode_fc78d [(vI x1)] σ (bk G mJ5_append_3fe6f rJ5_append_3fe6f_b 1 140 21 [some (vR x0), some (vI x1)] [] K)))) : At G mJ5_append_3fe6f rJ5_append_3fe6f_b 1 140 14 [some (vR x0), some (vI x1)] [(vI s0)] σ K := by
  refine s_if_eq (tgt := 45) dJ5_append_3fe6f_14 (by decide) (fun q1 => ?_) (fun q1 => ?_)
  · have h := h.1 q1
    refine s_aload_n (i := 0) dJ5_append_3fe6f_45 rfl rfl ?_
    obtain ⟨a2, ea2, h⟩ := h
    obtain ⟨t3, h⟩ := h
    exact s_callVC (ci := 10) (as := []) (S := []) gk dJ5_append_3fe6f_46 gJ5_83 (by decide) w_1139 (sl_J5_isLatin1_aae02 gk) ea2 t3 rfl rfl (Nat.le_of_ble_eq_true rfl) (by decide) h
  · have h := h.2 q1
    refine s_iload_n (i := 1) dJ5_append_3fe6f_17 rfl rfl ?_
    exact s_callS (as := [(vI x1)]) (S := []) gk dJ5_append_3fe6f_18 gJ5_191 w_1209 rfl rfl (Nat.le_of_ble_eq_true rfl) (by decide) h
theorem vJ5_append_3fe6f_b_21 {G : GG} (gk : GOK G) {σ : Mm} {K : RES → Mm → Prop} {x0 : Option Nat} {x1 : Int32} {s0 : Int32}
    (h : ((s0 = 0 → ∃ a2, x0 = some a2 ∧ (mt σ a2).1 = 11 ∧ Runs G mJ5_isLatin1_aae02 rJ5_isLatin1_aae02 [(vR x0)] σ (bk G mJ5_append_3fe6f rJ5_append_3fe6f_b 1 140 49 [some (vR x0), some (vI x1)] [] K)) ∧ (¬ s0 = 0 → ∃ a4, x0 = some a4 ∧ (mt σ a4).1 = 11 ∧ ∀ σ6, σ6 = si σ a4 3 ((mi σ a4 3) + (1 : Int32)) → ∃ a7, mr σ a4 0 = some a7 ∧ ∃ n9, mt σ a7 = (54, n9) ∧ vp_in (mi σ a4 3) n9 ∧ isB x1.toInt8.toInt32 ∧ ∀ σ12, σ12 = si σ6 a7 (mi σ a4 3).toNatClampNeg x1.toInt8.toInt32 → K (.inl (some (vR x0))) σ12))) : At G mJ5_append_3fe6f rJ5_append_3fe6f_b 1 140 21 [some (vR x0), some (vI x1)] [(vI s0)] σ K := by
  refine s_if_eq (tgt := 45) dJ5_append_3fe6f_21 (by decide) (fun q1 => ?_) (fun q1 => ?_)
  · have h := h.1 q1
    refine s_aload_n (i := 0) dJ5_append_3fe6f_45 rfl rfl ?_
    obtain ⟨a2, ea2, h⟩ := h
    obtain ⟨t3, h⟩ := h
    exact s_callVC (ci := 10) (as := []) (S := []) gk dJ5_append_3fe6f_46 gJ5_83 (by decide) w_1139 (sl_J5_isLatin1_aae02 gk) ea2 t3 rfl rfl (Nat.le_of_ble_eq_true rfl) (by decide) h
  · have h := h.2 q1
    refine s_aload_n (i := 0) dJ5_append_3fe6f_24 rfl rfl ?_
    obtain ⟨a4, ea4, h⟩ := h
    obtain ⟨t5, h⟩ := h
    refine t_getR gk dJ5_append_3fe6f_25 fJ5_15 rfl ea4 t5 ?_
    refine s_aload_n (i := 0) dJ5_append_3fe6f_28 rfl rfl ?_
    refine s_dup dJ5_append_3fe6f_29 rfl ?_
    refine t_getI gk dJ5_append_3fe6f_30 fJ5_79 rfl ea4 t5 ?_
    refine s_dup_x1 dJ5_append_3fe6f_33 rfl rfl ?_
    refine s_iconst (v := 1) dJ5_append_3fe6f_34 (by decide) ?_
    refine s_iadd dJ5_append_3fe6f_35 ?_
    refine t_putI gk dJ5_append_3fe6f_36 fJ5_79 rfl rfl ea4 t5 ⟨rfl, rfl⟩ (fun σ6 eσ6 mσ6 => ?_)
    replace h := h σ6 eσ6
    refine s_iload_n (i := 1) dJ5_append_3fe6f_39 rfl rfl ?_
    refine s_i2b (v := x1.toInt8.toInt32) dJ5_append_3fe6f_40 rfl ?_
    obtain ⟨a7, ea7, h⟩ := h
    obtain ⟨n9, t8, h⟩ := h
    obtain ⟨c10, h⟩ := h
    obtain ⟨c11, h⟩ := h
    refine t_bast gk dJ5_append_3fe6f_41 ea7 (by rw [mσ6]; exact t8) c10 (nf_b c11).1 (fun σ12 eσ12 mσ12 => ?_)
    replace h := h σ12 eσ12
    refine s_goto (tgt := 75) dJ5_append_3fe6f_42 (by decide) ?_
    refine s_aload_n (i := 0) dJ5_append_3fe6f_75 rfl rfl ?_
    exact s_areturn dJ5_append_3fe6f_76 rfl rfl (by decide) (by decide) h
theorem vJ5_append_3fe6f_b_49 {G : GG} (gk : GOK G) {σ : Mm} {K : RES → Mm → Prop} {x0 : Option Nat} {x1 : Int32} {s0 : Int32}
    (h : ((s0 = 0 → ∃ a2, x0 = some a2 ∧ (mt σ a2).1 = 11 ∧ ∀ σ4, σ4 = si σ a2 3 ((mi σ a2 3) + (1 : Int32)) → False) ∧ (¬ s0 = 0 → False))) : At G mJ5_append_3fe6f rJ5_append_3fe6f_b 1 140 49 [some (vR x0), some (vI x1)] [(vI s0)] σ K := by
  refine s_if_eq (tgt := 56) dJ5_append_3fe6f_49 (by decide) (fun q1 => ?_) (fun q1 => ?_)
  · have h := h.1 q1
    refine s_aload_n (i := 0) dJ5_append_3fe6f_56 rfl rfl ?_
    obtain ⟨a2, ea2, h⟩ := h
    obtain ⟨t3, h⟩ := h
    refine t_getR gk dJ5_append_3fe6f_57 fJ5_15 rfl ea2 t3 ?_
    refine s_aload_n (i := 0) dJ5_append_3fe6f_60 rfl rfl ?_
    refine s_dup dJ5_append_3fe6f_61 rfl ?_
    refine t_getI gk dJ5_append_3fe6f_62 fJ5_79 rfl ea2 t3 ?_
    refine s_dup_x1 dJ5_append_3fe6f_65 rfl rfl ?_
    refine s_iconst (v := 1) dJ5_append_3fe6f_66 (by decide) ?_
    refine s_iadd dJ5_append_3fe6f_67 ?_
    refine t_putI gk dJ5_append_3fe6f_68 fJ5_79 rfl rfl ea2 t3 ⟨rfl, rfl⟩ (fun σ4 eσ4 mσ4 => ?_)
    replace h := h σ4 eσ4
    refine s_iload_n (i := 1) dJ5_append_3fe6f_71 rfl rfl ?_
    exact h.elim
  · have h := h.2 q1
    refine s_aload_n (i := 0) dJ5_append_3fe6f_52 rfl rfl ?_
    exact h.elim
theorem vJ6_stringSize_0f7a4_0 {G : GG} (gk : GOK G) {σ : Mm} {K : RES → Mm → Prop} {x0 : Int32}
    (h : ((x0 < 0 → At G mJ6_stringSize_0f7a4 rJ6_stringSize_0f7a4 0 0 16 [some (vI x0), some (vI (1 : Int32)), some (vI (-10 : Int32)), some (vI (1 : Int32))] [] σ K) ∧ (¬ x0 < 0 → At G mJ6_stringSize_0f7a4 rJ6_stringSize_0f7a4 0 0 16 [some (vI (-x0)), some (vI (0 : Int32)), some (vI (-10 : Int32)), some (vI (1 : Int32))] [] σ K))) : At G mJ6_stringSize_0f7a4 rJ6_stringSize_0f7a4 0 0 0 [some (vI x0), none, none, none] [] σ K := by
  refine s_iconst (v := 1) dJ6_stringSize_0f7a4_0 (by decide) ?_
  refine s_istore_n (i := 1) (L' := [some (vI x0), some (vI (1 : Int32)), none, none]) dJ6_stringSize_0f7a4_1 rfl rfl (by decide) rfl ?_
  refine s_iload_n (i := 0) dJ6_stringSize_0f7a4_2 rfl rfl ?_
  refine s_if_lt (tgt := 11) dJ6_stringSize_0f7a4_3 (by decide) (fun q1 => ?_) (fun q1 => ?_)
  · have h := h.1 q1
    refine s_bipush (v := -10) dJ6_stringSize_0f7a4_11 (by decide) ?_
    refine s_istore_n (i := 2) (L' := [some (vI x0), some (vI (1 : Int32)), some (vI (-10 : Int32)), none]) dJ6_stringSize_0f7a4_13 rfl rfl (by decide) rfl ?_
    refine s_iconst (v := 1) dJ6_stringSize_0f7a4_14 (by decide) ?_
    refine s_istore_n (i := 3) (L' := [some (vI x0), some (vI (1 : Int32)), some (vI (-10 : Int32)), some (vI (1 : Int32))]) dJ6_stringSize_0f7a4_15 rfl rfl (by decide) rfl ?_
    exact h
  · have h := h.2 q1
    refine s_iconst (v := 0) dJ6_stringSize_0f7a4_6 (by decide) ?_
    refine s_istore_n (i := 1) (L' := [some (vI x0), some (vI (0 : Int32)), none, none]) dJ6_stringSize_0f7a4_7 rfl rfl (by decide) rfl ?_
    refine s_iload_n (i := 0) dJ6_stringSize_0f7a4_8 rfl rfl ?_
    refine s_ineg dJ6_stringSize_0f7a4_9 ?_
    refine s_istore_n (i := 0) (L' := [some (vI (-x0)), some (vI (0 : Int32)), none, none]) dJ6_stringSize_0f7a4_10 rfl rfl (by decide) rfl ?_
    refine s_bipush (v := -10) dJ6_stringSize_0f7a4_11 (by decide) ?_
    refine s_istore_n (i := 2) (L' := [some (vI (-x0)), some (vI (0 : Int32)), some (vI (-10 : Int32)), none]) dJ6_stringSize_0f7a4_13 rfl rfl (by decide) rfl ?_
    refine s_iconst (v := 1) dJ6_stringSize_0f7a4_14 (by decide) ?_
    refine s_istore_n (i := 3) (L' := [some (vI (-x0)), some (vI (0 : Int32)), some (vI (-10 : Int32)), some (vI (1 : Int32))]) dJ6_stringSize_0f7a4_15 rfl rfl (by decide) rfl ?_
    exact h
theorem eJ6_stringSize_0f7a4 {G : GG} (gk : GOK G) {σ : Mm} {K : RES → Mm → Prop} {x0 : Int32}
    (h : ((x0 < 0 → At G mJ6_stringSize_0f7a4 rJ6_stringSize_0f7a4 0 0 16 [some (vI x0), some (vI (1 : Int32)), some (vI (-10 : Int32)), some (vI (1 : Int32))] [] σ K) ∧ (¬ x0 < 0 → At G mJ6_stringSize_0f7a4 rJ6_stringSize_0f7a4 0 0 16 [some (vI (-x0)), some (vI (0 : Int32)), some (vI (-10 : Int32)), some (vI (1 : Int32))] [] σ K))) : Runs G mJ6_stringSize_0f7a4 rJ6_stringSize_0f7a4 [(vI x0)] σ K := Runs.ofF (by decide +kernel) rfl (Nat.le_of_ble_eq_true rfl) (vJ6_stringSize_0f7a4_0 gk h)
theorem vJ6_stringSize_0f7a4_16 {G : GG} (gk : GOK G) {σ : Mm} {K : RES → Mm → Prop} {x0 : Int32} {x1 : Int32} {x2 : Int32} {x3 : Int32}
    (h : (((10 : Int32) ≤ x3 → K (.inl (some (vI ((10 : Int32) + x1)))) σ) ∧ (¬ (10 : Int32) ≤ x3 → ((x0 ≤ x2 → At G mJ6_stringSize_0f7a4 rJ6_stringSize_0f7a4 0 0 16 [some (vI x0), some (vI x1), some (vI ((10 : Int32) * x2)), some (vI (x3 + 1))] [] σ K) ∧ (¬ x0 ≤ x2 → K (.inl (some (vI (x3 + x1)))) σ))))) : At G mJ6_stringSize_0f7a4 rJ6_stringSize_0f7a4 0 0 16 [some (vI x0), some (vI x1), some (vI x2), some (vI x3)] [] σ K := by
  refine s_iload_n (i := 3) dJ6_stringSize_0f7a4_16 rfl rfl ?_
  refine s_bipush (v := 10) dJ6_stringSize_0f7a4_17 (by decide) ?_
  refine s_icmp_ge (tgt := 42) dJ6_stringSize_0f7a4_19 (by decide) (fun q1 => ?_) (fun q1 => ?_)
  · have h := h.1 q1
    refine s_bipush (v := 10) dJ6_stringSize_0f7a4_42 (by decide) ?_
    refine s_iload_n (i := 1) dJ6_stringSize_0f7a4_44 rfl rfl ?_
    refine s_iadd dJ6_stringSize_0f7a4_45 ?_
    exact s_ireturn dJ6_stringSize_0f7a4_46 rfl rfl (by decide) (by decide) h
  · have h := h.2 q1
    refine s_iload_n (i := 0) dJ6_stringSize_0f7a4_22 rfl rfl ?_
    refine s_iload_n (i := 2) dJ6_stringSize_0f7a4_23 rfl rfl ?_
    refine s_icmp_le (tgt := 31) dJ6_stringSize_0f7a4_24 (by decide) (fun q2 => ?_) (fun q2 => ?_)
    · have h := h.1 q2
      refine s_bipush (v := 10) dJ6_stringSize_0f7a4_31 (by decide) ?_
      refine s_iload_n (i := 2) dJ6_stringSize_0f7a4_33 rfl rfl ?_
      refine s_imul dJ6_stringSize_0f7a4_34 ?_
      refine s_istore_n (i := 2) (L' := [some (vI x0), some (vI x1), some (vI ((10 : Int32) * x2)), some (vI x3)]) dJ6_stringSize_0f7a4_35 rfl rfl (by decide) rfl ?_
      refine s_iinc (v := x3 + 1) (L' := [some (vI x0), some (vI x1), some (vI ((10 : Int32) * x2)), some (vI (x3 + 1))]) dJ6_stringSize_0f7a4_36 rfl rfl rfl (by decide) rfl ?_
      refine s_goto (tgt := 16) dJ6_stringSize_0f7a4_39 (by decide) ?_
      exact h
    · have h := h.2 q2
      refine s_iload_n (i := 3) dJ6_stringSize_0f7a4_27 rfl rfl ?_
      refine s_iload_n (i := 1) dJ6_stringSize_0f7a4_28 rfl rfl ?_
      refine s_iadd dJ6_stringSize_0f7a4_29 ?_
      exact s_ireturn dJ6_stringSize_0f7a4_30 rfl rfl (by decide) (by decide) h
theorem vJ6_getChars_ba4f3_0 {G : GG} (gk : GOK G) {σ : Mm} {K : RES → Mm → Prop} {x0 : Int32} {x1 : Int32} {x2 : Option Nat}
    (h : ((0 ≤ x0 → ((¬ (0 : Int32) = 0 → At G mJ6_getChars_ba4f3 rJ6_getChars_ba4f3 0 0 22 [some (vI x0), some (vI x1), some (vR x2), none, none, some (vI x1), some (vI (0 : Int32))] [] σ K) ∧ ((0 : Int32) = 0 → At G mJ6_getChars_ba4f3 rJ6_getChars_ba4f3 0 0 22 [some (vI (-x0)), some (vI x1), some (vR x2), none, none, some (vI x1), some (vI (0 : Int32))] [] σ K))) ∧ (¬ 0 ≤ x0 → ((¬ (1 : Int32) = 0 → At G mJ6_getChars_ba4f3 rJ6_getChars_ba4f3 0 0 22 [some (vI x0), some (vI x1), some (vR x2), none, none, some (vI x1), some (vI (1 : Int32))] [] σ K) ∧ ((1 : Int32) = 0 → At G mJ6_getChars_ba4f3 rJ6_getChars_ba4f3 0 0 22 [some (vI (-x0)), some (vI x1), some (vR x2), none, none, some (vI x1), some (vI (1 : Int32))] [] σ K))))) : At G mJ6_getChars_ba4f3 rJ6_getChars_ba4f3 0 0 0 [some (vI x0), some (vI x1), some (vR x2), none, none, none, none] [] σ K := by
  refine s_iload_n (i := 1) dJ6_getChars_ba4f3_0 rfl rfl ?_
  refine s_istore (L' := [some (vI x0), some (vI x1), some (vR x2), none, none, some (vI x1), none]) dJ6_getChars_ba4f3_1 rfl (by decide) rfl ?_
  refine s_iload_n (i := 0) dJ6_getChars_ba4f3_3 rfl rfl ?_
  refine s_if_ge (tgt := 11) dJ6_getChars_ba4f3_4 (by decide) (fun q1 => ?_) (fun q1 => ?_)
  · have h := h.1 q1
    refine s_iconst (v := 0) dJ6_getChars_ba4f3_11 (by decide) ?_
    refine s_istore (L' := [some (vI x0), some (vI x1), some (vR x2), none, none, some (vI x1), some (vI (0 : Int32))]) dJ6_getChars_ba4f3_12 rfl (by decide) rfl ?_
    refine s_iload dJ6_getChars_ba4f3_14 rfl ?_
    refine s_if_ne (tgt := 22) dJ6_getChars_ba4f3_16 (by decide) (fun q2 => ?_) (fun q2 => ?_)
    · have h := h.1 q2
      exact h
    · have h := h.2 q2
      refine s_iload_n (i := 0) dJ6_getChars_ba4f3_19 rfl rfl ?_
      refine s_ineg dJ6_getChars_ba4f3_20 ?_
      refine s_istore_n (i := 0) (L' := [some (vI (-x0)), some (vI x1), some (vR x2), none, none, some (vI x1), some (vI (0 : Int32))]) dJ6_getChars_ba4f3_21 rfl rfl (by decide) rfl ?_
      exact h
  · have h := h.2 q1
    refine s_iconst (v := 1) dJ6_getChars_ba4f3_7 (by decide) ?_
    refine s_goto (tgt := 12) dJ6_getChars_ba4f3_8 (by decide) ?_
    refine s_istore (L' := [some (vI x0), some (vI x1), some (vR x2), none, none, some (vI x1), some (vI (1 : Int32))]) dJ6_getChars_ba4f3_12 rfl (by decide) rfl ?_
    refine s_iload dJ6_getChars_ba4f3_14 rfl ?_
    refine s_if_ne (tgt := 22) dJ6_getChars_ba4f3_16 (by decide) (fun q3 => ?_) (fun q3 => ?_)
    · have h := h.1 q3
      exact h
    · have h := h.2 q3
      refine s_iload_n (i := 0) dJ6_getChars_ba4f3_19 rfl rfl ?_
      refine s_ineg dJ6_getChars_ba4f3_20 ?_
      refine s_istore_n (i := 0) (L' := [some (vI (-x0)), some (vI x1), some (vR x2), none, none, some (vI x1), some (vI (1 : Int32))]) dJ6_getChars_ba4f3_21 rfl rfl (by decide) rfl ?_
      exact h
theorem eJ6_getChars_ba4f3 {G : GG} (gk : GOK G) {σ : Mm} {K : RES → Mm → Prop} {x0 : Int32} {x1 : Int32} {x2 : Option Nat}
    (h : ((0 ≤ x0 → ((¬ (0 : Int32) = 0 → At G mJ6_getChars_ba4f3 rJ6_getChars_ba4f3 0 0 22 [some (vI x0), some (vI x1), some (vR x2), none, none, some (vI x1), some (vI (0 : Int32))] [] σ K) ∧ ((0 : Int32) = 0 → At G mJ6_getChars_ba4f3 rJ6_getChars_ba4f3 0 0 22 [some (vI (-x0)), some (vI x1), some (vR x2), none, none, some (vI x1), some (vI (0 : Int32))] [] σ K))) ∧ (¬ 0 ≤ x0 → ((¬ (1 : Int32) = 0 → At G mJ6_getChars_ba4f3 rJ6_getChars_ba4f3 0 0 22 [some (vI x0), some (vI x1), some (vR x2), none, none, some (vI x1), some (vI (1 : Int32))] [] σ K) ∧ ((1 : Int32) = 0 → At G mJ6_getChars_ba4f3 rJ6_getChars_ba4f3 0 0 22 [some (vI (-x0)), some (vI x1), some (vR x2), none, none, some (vI x1), some (vI (1 : Int32))] [] σ K))))) : Runs G mJ6_getChars_ba4f3 rJ6_getChars_ba4f3 [(vI x0), (vI x1), (vR x2)] σ K := Runs.ofF (by decide +kernel) rfl (Nat.le_of_ble_eq_true rfl) (vJ6_getChars_ba4f3_0 gk h)
theorem vJ6_getChars_ba4f3_22 {G : GG} (gk : GOK G) (sok : SOK G) {σ : Mm} {K : RES → Mm → Prop} {x0 : Int32} {x1 : Int32} {x2 : Option Nat} {x5 : Int32} {x6 : Int32}
    (h : (((-100 : Int32) < x0 → vp_in (-x0) 100 ∧ ∃ a6, x2 = some a6 ∧ ∃ n8, mt σ a6 = (54, n8) ∧ vp_in (x5 + (-1)) n8 ∧ isB (dOnes (-x0).toNatClampNeg) ∧ ∀ σ11, σ11 = si σ a6 (x5 + (-1)).toNatClampNeg (dOnes (-x0).toNatClampNeg) → (((-9 : Int32) ≤ x0 → ((x6 = 0 → K (.inl (some (vI (x5 + (-1))))) σ11) ∧ (¬ x6 = 0 → vp_in ((x5 + (-1)) + (-1)) n8 ∧ isB (45 : Int32) ∧ ∀ σ16, σ16 = si σ11 a6 ((x5 + (-1)) + (-1)).toNatClampNeg (45 : Int32) → K (.inl (some (vI ((x5 + (-1)) + (-1))))) σ16))) ∧ (¬ (-9 : Int32) ≤ x0 → vp_in (-x0) 100 ∧ vp_in ((x5 + (-1)) + (-1)) n8 ∧ isB (dTens (-x0).toNatClampNeg) ∧ ∀ σ23, σ23 = si σ11 a6 ((x5 + (-1)) + (-1)).toNatClampNeg (dTens (-x0).toNatClampNeg) → ((x6 = 0 → K (.inl (some (vI ((x5 + (-1)) + (-1))))) σ23) ∧ (¬ x6 = 0 → vp_in (((x5 + (-1)) + (-1)) + (-1)) n8 ∧ isB (45 : Int32) ∧ ∀ σ27, σ27 = si σ23 a6 (((x5 + (-1)) + (-1)) + (-1)).toNatClampNeg (45 : Int32) → K (.inl (some (vI (((x5 + (-1)) + (-1)) + (-1))))) σ27))))) ∧ (¬ (-100 : Int32) < x0 → vp_in (((x0 / (100 : Int32)) * (100 : Int32)) - x0) 100 ∧ ∃ a32, x2 = some a32 ∧ ∃ n34, mt σ a32 = (54, n34) ∧ vp_in (x5 + (-1)) n34 ∧ isB (dOnes (((x0 / (100 : Int32)) * (100 : Int32)) - x0).toNatClampNeg) ∧ ∀ σ37, σ37 = si σ a32 (x5 + (-1)).toNatClampNeg (dOnes (((x0 / (100 : Int32)) * (100 : Int32)) - x0).toNatClampNeg) → vp_in (((x0 / (100 : Int32)) * (100 : Int32)) - x0) 100 ∧ vp_in ((x5 + (-1)) + (-1)) n34 ∧ isB (dTens (((x0 / (100 : Int32)) * (100 : Int32)) - x0).toNatClampNeg) ∧ ∀ σ44, σ44 = si σ37 a32 ((x5 + (-1)) + (-1)).toNatClampNeg (dTens (((x0 / (100 : Int32)) * (100 : Int32)) - x0).toNatClampNeg) → At G mJ6_getChars_ba4f3 rJ6_getChars_ba4f3 0 0 22 [some (vI (x0 / (100 : Int32))), some (vI x1), some (vR x2), none, none, some (vI ((x5 + (-1)) + (-1))), some (vI x6)] [] σ44 K))) : At G mJ6_getChars_ba4f3 rJ6_getChars_ba4f3 0 0 22 [some (vI x0), some (vI x1), some (vR x2), none, none, some (vI x5), some (vI x6)] [] σ K := by
  refine s_iload_n (i := 0) dJ6_getChars_ba4f3_22 rfl rfl ?_
  refine s_bipush (v := -100) dJ6_getChars_ba4f3_23 (by decide) ?_
  refine s_icmp_gt (tgt := 72) dJ6_getChars_ba4f3_25 (by decide) (fun q1 => ?_) (fun q1 => ?_)
  · have h := h.1 q1
    refine s_aload_n (i := 2) dJ6_getChars_ba4f3_72 rfl rfl ?_
    refine s_iinc (v := x5 + (-1)) (L' := [some (vI x0), some (vI x1), some (vR x2), none, none, some (vI (x5 + (-1))), some (vI x6)]) dJ6_getChars_ba4f3_73 rfl rfl rfl (by decide) rfl ?_
    refine s_iload dJ6_getChars_ba4f3_76 rfl ?_
    obtain ⟨t2, z3, u4⟩ := sok.2.2.1
    refine s_getZ (v := vR (some t2)) gk dJ6_getChars_ba4f3_78 w_1227 z3 ?_
    refine s_iload_n (i := 0) dJ6_getChars_ba4f3_81 rfl rfl ?_
    refine s_ineg dJ6_getChars_ba4f3_82 ?_
    obtain ⟨c5, h⟩ := h
    refine s_balT dJ6_getChars_ba4f3_83 u4 c5 ?_
    obtain ⟨a6, ea6, h⟩ := h
    obtain ⟨n8, t7, h⟩ := h
    obtain ⟨c9, h⟩ := h
    obtain ⟨c10, h⟩ := h
    refine t_bast gk dJ6_getChars_ba4f3_84 ea6 t7 c9 (nf_b c10).1 (fun σ11 eσ11 mσ11 => ?_)
    replace h := h σ11 eσ11
    refine s_iload_n (i := 0) dJ6_getChars_ba4f3_85 rfl rfl ?_
    refine s_bipush (v := -9) dJ6_getChars_ba4f3_86 (by decide) ?_
    refine s_icmp_ge (tgt := 104) dJ6_getChars_ba4f3_88 (by decide) (fun q12 => ?_) (fun q12 => ?_)
    · have h := h.1 q12
      refine s_iload dJ6_getChars_ba4f3_104 rfl ?_
      refine s_if_eq (tgt := 118) dJ6_getChars_ba4f3_106 (by decide) (fun q13 => ?_) (fun q13 => ?_)
      · have h := h.1 q13
        refine s_iload dJ6_getChars_ba4f3_118 rfl ?_
        exact s_ireturn dJ6_getChars_ba4f3_120 rfl rfl (by decide) (by decide) h
      · have h := h.2 q13
        refine s_aload_n (i := 2) dJ6_getChars_ba4f3_109 rfl rfl ?_
        refine s_iinc (v := (x5 + (-1)) + (-1)) (L' := [some (vI x0), some (vI x1), some (vR x2), none, none, some (vI ((x5 + (-1)) + (-1))), some (vI x6)]) dJ6_getChars_ba4f3_110 rfl rfl rfl (by decide) rfl ?_
        refine s_iload dJ6_getChars_ba4f3_113 rfl ?_
        refine s_bipush (v := 45) dJ6_getChars_ba4f3_115 (by decide) ?_
        obtain ⟨c14, h⟩ := h
        obtain ⟨c15, h⟩ := h
        refine t_bast gk dJ6_getChars_ba4f3_117 ea6 (by rw [mσ11]; exact t7) c14 (nf_b c15).1 (fun σ16 eσ16 mσ16 => ?_)
        replace h := h σ16 eσ16
        refine s_iload dJ6_getChars_ba4f3_118 rfl ?_
        exact s_ireturn dJ6_getChars_ba4f3_120 rfl rfl (by decide) (by decide) h
    · have h := h.2 q12
      refine s_aload_n (i := 2) dJ6_getChars_ba4f3_91 rfl rfl ?_
      refine s_iinc (v := (x5 + (-1)) + (-1)) (L' := [some (vI x0), some (vI x1), some (vR x2), none, none, some (vI ((x5 + (-1)) + (-1))), some (vI x6)]) dJ6_getChars_ba4f3_92 rfl rfl rfl (by decide) rfl ?_
      refine s_iload dJ6_getChars_ba4f3_95 rfl ?_
      obtain ⟨t17, z18, u19⟩ := sok.2.2.2.1
      refine s_getZ (v := vR (some t17)) gk dJ6_getChars_ba4f3_97 w_1229 z18 ?_
      refine s_iload_n (i := 0) dJ6_getChars_ba4f3_100 rfl rfl ?_
      refine s_ineg dJ6_getChars_ba4f3_101 ?_
      obtain ⟨c20, h⟩ := h
      refine s_balT dJ6_getChars_ba4f3_102 u19 c20 ?_
      obtain ⟨c21, h⟩ := h
      obtain ⟨c22, h⟩ := h
      refine t_bast gk dJ6_getChars_ba4f3_103 ea6 (by rw [mσ11]; exact t7) c21 (nf_b c22).1 (fun σ23 eσ23 mσ23 => ?_)
      replace h := h σ23 eσ23
      refine s_iload dJ6_getChars_ba4f3_104 rfl ?_
      refine s_if_eq (tgt := 118) dJ6_getChars_ba4f3_106 (by decide) (fun q24 => ?_) (fun q24 => ?_)
      · have h := h.1 q24
        refine s_iload dJ6_getChars_ba4f3_118 rfl ?_
        exact s_ireturn dJ6_getChars_ba4f3_120 rfl rfl (by decide) (by decide) h
      · have h := h.2 q24
        refine s_aload_n (i := 2) dJ6_getChars_ba4f3_109 rfl rfl ?_
        refine s_iinc (v := ((x5 + (-1)) + (-1)) + (-1)) (L' := [some (vI x0), some (vI x1), some (vR x2), none, none, some (vI (((x5 + (-1)) + (-1)) + (-1))), some (vI x6)]) dJ6_getChars_ba4f3_110 rfl rfl rfl (by decide) rfl ?_
        refine s_iload dJ6_getChars_ba4f3_113 rfl ?_
        refine s_bipush (v := 45) dJ6_getChars_ba4f3_115 (by decide) ?_
        obtain ⟨c25, h⟩ := h
        obtain ⟨c26, h⟩ := h
        refine t_bast gk dJ6_getChars_ba4f3_117 ea6 (by rw [mσ23, mσ11]; exact t7) c25 (nf_b c26).1 (fun σ27 eσ27 mσ27 => ?_)
        replace h := h σ27 eσ27
        refine s_iload dJ6_getChars_ba4f3_118 rfl ?_
        exact s_ireturn dJ6_getChars_ba4f3_120 rfl rfl (by decide) (by decide) h
  · have h := h.2 q1
    refine s_iload_n (i := 0) dJ6_getChars_ba4f3_28 rfl rfl ?_
    refine s_bipush (v := 100) dJ6_getChars_ba4f3_29 (by decide) ?_
    refine s_idiv dJ6_getChars_ba4f3_31 (by decide) ?_
    refine s_istore_n (i := 3) (L' := [some (vI x0), some (vI x1), some (vR x2), some (vI (x0 / (100 : Int32))), none, some (vI x5), some (vI x6)]) dJ6_getChars_ba4f3_32 rfl rfl (by decide) rfl ?_
    refine s_iload_n (i := 3) dJ6_getChars_ba4f3_33 rfl rfl ?_
    refine s_bipush (v := 100) dJ6_getChars_ba4f3_34 (by decide) ?_
    refine s_imul dJ6_getChars_ba4f3_36 ?_
    refine s_iload_n (i := 0) dJ6_getChars_ba4f3_37 rfl rfl ?_
    refine s_isub dJ6_getChars_ba4f3_38 ?_
    refine s_istore (L' := [some (vI x0), some (vI x1), some (vR x2), some (vI (x0 / (100 : Int32))), some (vI (((x0 / (100 : Int32)) * (100 : Int32)) - x0)), some (vI x5), some (vI x6)]) dJ6_getChars_ba4f3_39 rfl (by decide) rfl ?_
    refine s_iload_n (i := 3) dJ6_getChars_ba4f3_41 rfl rfl ?_
    refine s_istore_n (i := 0) (L' := [some (vI (x0 / (100 : Int32))), some (vI x1), some (vR x2), some (vI (x0 / (100 : Int32))), some (vI (((x0 / (100 : Int32)) * (100 : Int32)) - x0)), some (vI x5), some (vI x6)]) dJ6_getChars_ba4f3_42 rfl rfl (by decide) rfl ?_
    refine s_aload_n (i := 2) dJ6_getChars_ba4f3_43 rfl rfl ?_
    refine s_iinc (v := x5 + (-1)) (L' := [some (vI (x0 / (100 : Int32))), some (vI x1), some (vR x2), some (vI (x0 / (100 : Int32))), some (vI (((x0 / (100 : Int32)) * (100 : Int32)) - x0)), some (vI (x5 + (-1))), some (vI x6)]) dJ6_getChars_ba4f3_44 rfl rfl rfl (by decide) rfl ?_
    refine s_iload dJ6_getChars_ba4f3_47 rfl ?_
    obtain ⟨t28, z29, u30⟩ := sok.2.2.1
    refine s_getZ (v := vR (some t28)) gk dJ6_getChars_ba4f3_49 w_1227 z29 ?_
    refine s_iload dJ6_getChars_ba4f3_52 rfl ?_
    obtain ⟨c31, h⟩ := h
    refine s_balT dJ6_getChars_ba4f3_54 u30 c31 ?_
    obtain ⟨a32, ea32, h⟩ := h
    obtain ⟨n34, t33, h⟩ := h
    obtain ⟨c35, h⟩ := h
    obtain ⟨c36, h⟩ := h
    refine t_bast gk dJ6_getChars_ba4f3_55 ea32 t33 c35 (nf_b c36).1 (fun σ37 eσ37 mσ37 => ?_)
    replace h := h σ37 eσ37
    refine s_aload_n (i := 2) dJ6_getChars_ba4f3_56 rfl rfl ?_
    refine s_iinc (v := (x5 + (-1)) + (-1)) (L' := [some (vI (x0 / (100 : Int32))), some (vI x1), some (vR x2), some (vI (x0 / (100 : Int32))), some (vI (((x0 / (100 : Int32)) * (100 : Int32)) - x0)), some (vI ((x5 + (-1)) + (-1))), some (vI x6)]) dJ6_getChars_ba4f3_57 rfl rfl rfl (by decide) rfl ?_
    refine s_iload dJ6_getChars_ba4f3_60 rfl ?_
    obtain ⟨t38, z39, u40⟩ := sok.2.2.2.1
    refine s_getZ (v := vR (some t38)) gk dJ6_getChars_ba4f3_62 w_1229 z39 ?_
    refine s_iload dJ6_getChars_ba4f3_65 rfl ?_
    obtain ⟨c41, h⟩ := h
    refine s_balT dJ6_getChars_ba4f3_67 u40 c41 ?_
    obtain ⟨c42, h⟩ := h
    obtain ⟨c43, h⟩ := h
    refine t_bast gk dJ6_getChars_ba4f3_68 ea32 (by rw [mσ37]; exact t33) c42 (nf_b c43).1 (fun σ44 eσ44 mσ44 => ?_)
    replace h := h σ44 eσ44
    refine s_goto (tgt := 22) dJ6_getChars_ba4f3_69 (by decide) ?_
    exact h.msk ⟨rfl, ⟨rfl, ⟨rfl, ⟨rfl, ⟨rfl, trivial⟩⟩⟩⟩⟩
theorem vJ5_append_c97b9_b_0 {G : GG} (gk : GOK G) {σ : Mm} {K : RES → Mm → Prop} {x0 : Option Nat} {x1 : Int32}
    (h : ∃ a1, x0 = some a1 ∧ (mt σ a1).1 = 11 ∧ Runs G mJ6_stringSize_0f7a4 rJ6_stringSize_0f7a4 [(vI x1)] σ (bk G mJ5_append_c97b9 rJ5_append_c97b9_b 0 0 10 [some (vR x0), some (vI x1), some (vI (mi σ a1 3)), none] [(vI (mi σ a1 3))] K)) : At G mJ5_append_c97b9 rJ5_append_c97b9_b 0 0 0 [some (vR x0), some (vI x1), none, none] [] σ K := by
  refine s_aload_n (i := 0) dJ5_append_c97b9_0 rfl rfl ?_
  obtain ⟨a1, ea1, h⟩ := h
  obtain ⟨t2, h⟩ := h
  refine t_getI gk dJ5_append_c97b9_1 fJ5_79 rfl ea1 t2 ?_
  refine s_istore_n (i := 2) (L' := [some (vR x0), some (vI x1), some (vI (mi σ a1 3)), none]) dJ5_append_c97b9_4 rfl rfl (by decide) rfl ?_
  refine s_iload_n (i := 2) dJ5_append_c97b9_5 rfl rfl ?_
  refine s_iload_n (i := 1) dJ5_append_c97b9_6 rfl rfl ?_
  exact s_callS (as := [(vI x1)]) (S := [(vI (mi σ a1 3))]) gk dJ5_append_c97b9_7 gJ5_245 w_1222 rfl rfl (Nat.le_of_ble_eq_true rfl) (by decide) h
theorem eJ5_append_c97b9_b {G : GG} (gk : GOK G) {σ : Mm} {K : RES → Mm → Prop} {x0 : Option Nat} {x1 : Int32}
    (h : ∃ a1, x0 = some a1 ∧ (mt σ a1).1 = 11 ∧ Runs G mJ6_stringSize_0f7a4 rJ6_stringSize_0f7a4 [(vI x1)] σ (bk G mJ5_append_c97b9 rJ5_append_c97b9_b 0 0 10 [some (vR x0), some (vI x1), some (vI (mi σ a1 3)), none] [(vI (mi σ a1 3))] K)) : Runs G mJ5_append_c97b9 rJ5_append_c97b9_b [(vR x0), (vI x1)] σ K := Runs.ofF (by decide +kernel) rfl (Nat.le_of_ble_eq_true rfl) (vJ5_append_c97b9_b_0 gk h)
theorem vJ5_append_c97b9_b_10 {G : GG} (gk : GOK G) {σ : Mm} {K : RES → Mm → Prop} {x0 : Option Nat} {x1 : Int32} {x2 : Int32} {s0 : Int32} {s1 : Int32}
    (h : ∃ a1, x0 = some a1 ∧ (mt σ a1).1 = 11 ∧ Runs G mJ5_ensureCapacityInternal_d00df rJ5_ensureCapacityInternal_d00df_b [(vR x0), (vI (s1 + s0))] σ (bk G mJ5_append_c97b9 rJ5_append_c97b9_b 1 140 17 [some (vR x0), some (vI x1), some (vI x2), some (vI (s1 + s0))] [] K)) : At G mJ5_append_c97b9 rJ5_append_c97b9_b 0 0 10 [some (vR x0), some (vI x1), some (vI x2), none] [(vI s0), (vI s1)] σ K := by
  refine s_iadd dJ5_append_c97b9_10 ?_
  refine s_istore_n (i := 3) (L' := [some (vR x0), some (vI x1), some (vI x2), some (vI (s1 + s0))]) dJ5_append_c97b9_11 rfl rfl (by decide) rfl ?_
  refine s_aload_n (i := 0) dJ5_append_c97b9_12 rfl rfl ?_
  refine s_iload_n (i := 3) dJ5_append_c97b9_13 rfl rfl ?_
  obtain ⟨a1, ea1, h⟩ := h
  obtain ⟨t2, h⟩ := h
  exact s_callVC (ci := 10) (as := [(vI (s1 + s0))]) (S := []) gk dJ5_append_c97b9_14 gJ5_100 (by decide) w_1105 (sl_J5_ensureCapacityInternal_d00df gk) ea1 t2 rfl rfl (Nat.le_of_ble_eq_true rfl) (by decide) h
theorem vJ5_append_c97b9_b_17 {G : GG} (gk : GOK G) {σ : Mm} {K : RES → Mm → Prop} {x0 : Option Nat} {x1 : Int32} {x2 : Int32} {x3 : Int32}
    (h : ∃ a1, x0 = some a1 ∧ (mt σ a1).1 = 11 ∧ Runs G mJ5_isLatin1_aae02 rJ5_isLatin1_aae02 [(vR x0)] σ (bk G mJ5_append_c97b9 rJ5_append_c97b9_b 1 140 21 [some (vR x0), some (vI x1), some (vI x2), some (vI x3)] [] K)) : At G mJ5_append_c97b9 rJ5_append_c97b9_b 1 140 17 [some (vR x0), some (vI x1), some (vI x2), some (vI x3)] [] σ K := by
  refine s_aload_n (i := 0) dJ5_append_c97b9_17 rfl rfl ?_
  obtain ⟨a1, ea1, h⟩ := h
  obtain ⟨t2, h⟩ := h
  exact s_callVC (ci := 10) (as := []) (S := []) gk dJ5_append_c97b9_18 gJ5_83 (by decide) w_1139 (sl_J5_isLatin1_aae02 gk) ea1 t2 rfl rfl (Nat.le_of_ble_eq_true rfl) (by decide) h
theorem vJ5_append_c97b9_b_21 {G : GG} (gk : GOK G) {σ : Mm} {K : RES → Mm → Prop} {x0 : Option Nat} {x1 : Int32} {x2 : Int32} {x3 : Int32} {s0 : Int32}
    (h : ((s0 = 0 → ∃ a2, x0 = some a2 ∧ (mt σ a2).1 = 11 ∧ False) ∧ (¬ s0 = 0 → ∃ a4, x0 = some a4 ∧ (mt σ a4).1 = 11 ∧ Runs G mJ6_getChars_ba4f3 rJ6_getChars_ba4f3 [(vI x1), (vI x3), (vR (mr σ a4 0))] σ (bk G mJ5_append_c97b9 rJ5_append_c97b9_b 1 140 33 [some (vR x0), some (vI x1), some (vI x2), some (vI x3)] [] K)))) : At G mJ5_append_c97b9 rJ5_append_c97b9_b 1 140 21 [some (vR x0), some (vI x1), some (vI x2), some (vI x3)] [(vI s0)] σ K := by
  refine s_if_eq (tgt := 37) dJ5_append_c97b9_21 (by decide) (fun q1 => ?_) (fun q1 => ?_)
  · have h := h.1 q1
    refine s_iload_n (i := 1) dJ5_append_c97b9_37 rfl rfl ?_
    refine s_iload_n (i := 2) dJ5_append_c97b9_38 rfl rfl ?_
    refine s_iload_n (i := 3) dJ5_append_c97b9_39 rfl rfl ?_
    refine s_aload_n (i := 0) dJ5_append_c97b9_40 rfl rfl ?_
    obtain ⟨a2, ea2, h⟩ := h
    obtain ⟨t3, h⟩ := h
    refine t_getR gk dJ5_append_c97b9_41 fJ5_15 rfl ea2 t3 ?_
    exact h.elim
  · have h := h.2 q1
    refine s_iload_n (i := 1) dJ5_append_c97b9_24 rfl rfl ?_
    refine s_iload_n (i := 3) dJ5_append_c97b9_25 rfl rfl ?_
    refine s_aload_n (i := 0) dJ5_append_c97b9_26 rfl rfl ?_
    obtain ⟨a4, ea4, h⟩ := h
    obtain ⟨t5, h⟩ := h
    refine t_getR gk dJ5_append_c97b9_27 fJ5_15 rfl ea4 t5 ?_
    exact s_callS (as := [(vI x1), (vI x3), (vR (mr σ a4 0))]) (S := []) gk dJ5_append_c97b9_30 gJ5_248 w_1225 rfl rfl (Nat.le_of_ble_eq_true rfl) (by decide) h
theorem vJ5_append_c97b9_b_33 {G : GG} (gk : GOK G) {σ : Mm} {K : RES → Mm → Prop} {x0 : Option Nat} {x1 : Int32} {x2 : Int32} {x3 : Int32} {s0 : Int32}
    (h : ∃ a1, x0 = some a1 ∧ (mt σ a1).1 = 11 ∧ ∀ σ3, σ3 = si σ a1 3 x3 → K (.inl (some (vR x0))) σ3) : At G mJ5_append_c97b9 rJ5_append_c97b9_b 1 140 33 [some (vR x0), some (vI x1), some (vI x2), some (vI x3)] [(vI s0)] σ K := by
  refine s_pop dJ5_append_c97b9_33 rfl ?_
  refine s_goto (tgt := 48) dJ5_append_c97b9_34 (by decide) ?_
  refine s_aload_n (i := 0) dJ5_append_c97b9_48 rfl rfl ?_
  refine s_iload_n (i := 3) dJ5_append_c97b9_49 rfl rfl ?_
  obtain ⟨a1, ea1, h⟩ := h
  obtain ⟨t2, h⟩ := h
  refine t_putI gk dJ5_append_c97b9_50 fJ5_79 rfl rfl ea1 t2 ⟨rfl, rfl⟩ (fun σ3 eσ3 mσ3 => ?_)
  replace h := h σ3 eσ3
  refine s_aload_n (i := 0) dJ5_append_c97b9_53 rfl rfl ?_
  exact s_areturn dJ5_append_c97b9_54 rfl rfl (by decide) (by decide) h
theorem vJ5_init_d00df_b_0 {G : GG} (gk : GOK G) (sok : SOK G) {σ : Mm} {K : RES → Mm → Prop} {x0 : Option Nat} {x1 : Int32}
    (h : ∃ a1, x0 = some a1 ∧ (((1 : Int32) = 0 → False) ∧ (¬ (1 : Int32) = 0 → (¬ x1 < 0 ∧ x1.toNatClampNeg * 8 ≤ 536870912 ∧ 0 + x1.toNatClampNeg ≤ 16) ∧ ∀ σ4, σ4 = nw σ (54, x1.toNatClampNeg) → (mt σ4 a1).1 = 11 ∧ ∀ σ6, σ6 = sr σ4 a1 0 (some (mz σ)) → ∀ σ7, σ7 = si σ6 a1 1 (0 : Int32) → K (.inl none) σ7))) : At G mJ5_init_d00df rJ5_init_d00df_b 0 0 0 [some (vR x0), some (vI x1)] [] σ K := by
  refine s_aload_n (i := 0) dJ5_init_d00df_0 rfl rfl ?_
  obtain ⟨a1, ea1, h⟩ := h
  refine t_objInit gk dJ5_init_d00df_1 w_311 (by decide) (by decide) ea1 ?_
  refine s_getZ (v := vI 1) gk dJ5_init_d00df_4 w_312 sok.1 ?_
  refine s_if_eq (tgt := 25) dJ5_init_d00df_7 (by decide) (fun q2 => ?_) (fun q2 => ?_)
  · have h := h.1 q2
    refine s_aload_n (i := 0) dJ5_init_d00df_25 rfl rfl ?_
    refine s_iload_n (i := 1) dJ5_init_d00df_26 rfl rfl ?_
    exact h.elim
  · have h := h.2 q2
    refine s_aload_n (i := 0) dJ5_init_d00df_10 rfl rfl ?_
    refine s_iload_n (i := 1) dJ5_init_d00df_11 rfl rfl ?_
    obtain ⟨c3, h⟩ := h
    refine s_newa (j := 4) (N := x1.toNatClampNeg) gk dJ5_init_d00df_12 (by decide) (by decide) rfl w_335 c3.1 rfl c3.2.1 (by decide) (Nat.le_trans c3.2.2 (by decide)) ?_
    refine At.widen (uc' := 1) (us' := 16) ?_ (Nat.le_refl _) c3.2.2
    replace h := h _ rfl
    generalize nw σ (54, x1.toNatClampNeg) = σ4 at h ⊢
    obtain ⟨t5, h⟩ := h
    refine t_putR gk dJ5_init_d00df_14 fJ5_15 (Or.inl rfl) rfl ea1 t5 (nf_rf rfl) (fun σ6 eσ6 mσ6 => ?_)
    replace h := h σ6 eσ6
    refine s_aload_n (i := 0) dJ5_init_d00df_17 rfl rfl ?_
    refine s_iconst (v := 0) dJ5_init_d00df_18 (by decide) ?_
    refine t_putI gk dJ5_init_d00df_19 fJ5_22 rfl rfl ea1 (by rw [mσ6]; exact t5) ⟨rfl, rfl⟩ (fun σ7 eσ7 mσ7 => ?_)
    replace h := h σ7 eσ7
    refine s_goto (tgt := 38) dJ5_init_d00df_22 (by decide) ?_
    exact s_return dJ5_init_d00df_38 rfl (by decide) (by decide) h
theorem eJ5_init_d00df_b {G : GG} (gk : GOK G) (sok : SOK G) {σ : Mm} {K : RES → Mm → Prop} {x0 : Option Nat} {x1 : Int32}
    (h : ∃ a1, x0 = some a1 ∧ (((1 : Int32) = 0 → False) ∧ (¬ (1 : Int32) = 0 → (¬ x1 < 0 ∧ x1.toNatClampNeg * 8 ≤ 536870912 ∧ 0 + x1.toNatClampNeg ≤ 16) ∧ ∀ σ4, σ4 = nw σ (54, x1.toNatClampNeg) → (mt σ4 a1).1 = 11 ∧ ∀ σ6, σ6 = sr σ4 a1 0 (some (mz σ)) → ∀ σ7, σ7 = si σ6 a1 1 (0 : Int32) → K (.inl none) σ7))) : Runs G mJ5_init_d00df rJ5_init_d00df_b [(vR x0), (vI x1)] σ K := Runs.ofF (by decide +kernel) rfl (Nat.le_of_ble_eq_true rfl) (vJ5_init_d00df_b_0 gk sok h)
theorem vJ4_length_8abf5_0 {G : GG} (gk : GOK G) {σ : Mm} {K : RES → Mm → Prop} {x0 : Option Nat}
    (h : ∃ a1, x0 = some a1 ∧ (mt σ a1).1 = 11 ∧ ∃ K3 : RES → Mm → Prop, Runs G mJ5_length_8abf5 rJ5_length_8abf5 [(vR x0)] σ K3 ∧ (∀ E t, ¬ K3 (.inr E) t) ∧ (∀ v t, K3 (.inl v) t → At G mJ4_length_8abf5 rJ4_length_8abf5 (0) (0) 4 [some (vR x0)] (v.toList ++ []) t K)) : At G mJ4_length_8abf5 rJ4_length_8abf5 0 0 0 [some (vR x0)] [] σ K := by
  refine s_aload_n (i := 0) dJ4_length_8abf5_0 rfl rfl ?_
  obtain ⟨a1, ea1, h⟩ := h
  obtain ⟨t2, h⟩ := h
  obtain ⟨K3, h1, h2, h3⟩ := h
  exact s_callSU (ci := 10) (as := []) (S := []) gk dJ4_length_8abf5_1 gJ4_343 (by decide) w_1259 w_1260 w_334 (by decide) ea1 t2 rfl rfl (Nat.le_of_ble_eq_true rfl) (by decide) h1 h2 h3
theorem eJ4_length_8abf5 {G : GG} (gk : GOK G) {σ : Mm} {K : RES → Mm → Prop} {x0 : Option Nat}
    (h : ∃ a1, x0 = some a1 ∧ (mt σ a1).1 = 11 ∧ ∃ K3 : RES → Mm → Prop, Runs G mJ5_length_8abf5 rJ5_length_8abf5 [(vR x0)] σ K3 ∧ (∀ E t, ¬ K3 (.inr E) t) ∧ (∀ v t, K3 (.inl v) t → At G mJ4_length_8abf5 rJ4_length_8abf5 (0) (0) 4 [some (vR x0)] (v.toList ++ []) t K)) : Runs G mJ4_length_8abf5 rJ4_length_8abf5 [(vR x0)] σ K := Runs.ofF (by decide +kernel) rfl (Nat.le_of_ble_eq_true rfl) (vJ4_length_8abf5_0 gk h)
theorem vJ4_length_8abf5_4 {G : GG} (gk : GOK G) {σ : Mm} {K : RES → Mm → Prop} {x0 : Option Nat} {s0 : Int32}
    (h : K (.inl (some (vI s0))) σ) : At G mJ4_length_8abf5 rJ4_length_8abf5 0 0 4 [some (vR x0)] [(vI s0)] σ K := by
  exact s_ireturn dJ4_length_8abf5_4 rfl rfl (by decide) (by decide) h
theorem vJ4_charAt_5068e_0 {G : GG} (gk : GOK G) {σ : Mm} {K : RES → Mm → Prop} {x0 : Option Nat} {x1 : Int32}
    (h : ∃ a1, x0 = some a1 ∧ (mt σ a1).1 = 11 ∧ ∃ K3 : RES → Mm → Prop, Runs G mJ5_charAt_5068e rJ5_charAt_5068e [(vR x0), (vI x1)] σ K3 ∧ (∀ E t, ¬ K3 (.inr E) t) ∧ (∀ v t, K3 (.inl v) t → At G mJ4_charAt_5068e rJ4_charAt_5068e (0) (0) 5 [some (vR x0), some (vI x1)] (v.toList ++ []) t K)) : At G mJ4_charAt_5068e rJ4_charAt_5068e 0 0 0 [some (vR x0), some (vI x1)] [] σ K := by
  refine s_aload_n (i := 0) dJ4_charAt_5068e_0 rfl rfl ?_
  refine s_iload_n (i := 1) dJ4_charAt_5068e_1 rfl rfl ?_
  obtain ⟨a1, ea1, h⟩ := h
  obtain ⟨t2, h⟩ := h
  obtain ⟨K3, h1, h2, h3⟩ := h
  exact s_callSU (ci := 10) (as := [(vI x1)]) (S := []) gk dJ4_charAt_5068e_2 gJ4_329 (by decide) w_1384 w_1569 w_334 (by decide) ea1 t2 rfl rfl (Nat.le_of_ble_eq_true rfl) (by decide) h1 h2 h3
theorem eJ4_charAt_5068e {G : GG} (gk : GOK G) {σ : Mm} {K : RES → Mm → Prop} {x0 : Option Nat} {x1 : Int32}
    (h : ∃ a1, x0 = some a1 ∧ (mt σ a1).1 = 11 ∧ ∃ K3 : RES → Mm → Prop, Runs G mJ5_charAt_5068e rJ5_charAt_5068e [(vR x0), (vI x1)] σ K3 ∧ (∀ E t, ¬ K3 (.inr E) t) ∧ (∀ v t, K3 (.inl v) t → At G mJ4_charAt_5068e rJ4_charAt_5068e (0) (0) 5 [some (vR x0), some (vI x1)] (v.toList ++ []) t K)) : Runs G mJ4_charAt_5068e rJ4_charAt_5068e [(vR x0), (vI x1)] σ K := Runs.ofF (by decide +kernel) rfl (Nat.le_of_ble_eq_true rfl) (vJ4_charAt_5068e_0 gk h)
theorem vJ4_charAt_5068e_5 {G : GG} (gk : GOK G) {σ : Mm} {K : RES → Mm → Prop} {x0 : Option Nat} {x1 : Int32} {s0 : Int32}
    (h : isC s0 ∧ K (.inl (some (vI s0))) σ) : At G mJ4_charAt_5068e rJ4_charAt_5068e 0 0 5 [some (vR x0), some (vI x1)] [(vI s0)] σ K := by
  obtain ⟨c1, h⟩ := h
  exact s_ireturn dJ4_charAt_5068e_5 rfl (nf_c c1).1 (by decide) (by decide) h
theorem vJ4_setLength_d00df_0 {G : GG} (gk : GOK G) {σ : Mm} {K : RES → Mm → Prop} {x0 : Option Nat} {x1 : Int32}
    (h : ∃ a1, x0 = some a1 ∧ (mt σ a1).1 = 11 ∧ ∃ K3 : RES → Mm → Prop, Runs G mJ5_setLength_d00df rJ5_setLength_d00df_b [(vR x0), (vI x1)] σ K3 ∧ (∀ E t, ¬ K3 (.inr E) t) ∧ (∀ v t, K3 (.inl v) t → At G mJ4_setLength_d00df rJ4_setLength_d00df (0) (0) 5 [some (vR x0), some (vI x1)] (v.toList ++ []) t K)) : At G mJ4_setLength_d00df rJ4_setLength_d00df 0 0 0 [some (vR x0), some (vI x1)] [] σ K := by
  refine s_aload_n (i := 0) dJ4_setLength_d00df_0 rfl rfl ?_
  refine s_iload_n (i := 1) dJ4_setLength_d00df_1 rfl rfl ?_
  obtain ⟨a1, ea1, h⟩ := h
  obtain ⟨t2, h⟩ := h
  obtain ⟨K3, h1, h2, h3⟩ := h
  exact s_callSU (ci := 10) (as := [(vI x1)]) (S := []) gk dJ4_setLength_d00df_2 gJ4_333 (by decide) w_1313 w_1567 w_334 (by decide) ea1 t2 rfl rfl (Nat.le_of_ble_eq_true rfl) (by decide) h1 h2 h3
theorem eJ4_setLength_d00df {G : GG} (gk : GOK G) {σ : Mm} {K : RES → Mm → Prop} {x0 : Option Nat} {x1 : Int32}
    (h : ∃ a1, x0 = some a1 ∧ (mt σ a1).1 = 11 ∧ ∃ K3 : RES → Mm → Prop, Runs G mJ5_setLength_d00df rJ5_setLength_d00df_b [(vR x0), (vI x1)] σ K3 ∧ (∀ E t, ¬ K3 (.inr E) t) ∧ (∀ v t, K3 (.inl v) t → At G mJ4_setLength_d00df rJ4_setLength_d00df (0) (0) 5 [some (vR x0), some (vI x1)] (v.toList ++ []) t K)) : Runs G mJ4_setLength_d00df rJ4_setLength_d00df [(vR x0), (vI x1)] σ K := Runs.ofF (by decide +kernel) rfl (Nat.le_of_ble_eq_true rfl) (vJ4_setLength_d00df_0 gk h)
theorem vJ4_setLength_d00df_5 {G : GG} (gk : GOK G) {σ : Mm} {K : RES → Mm → Prop} {x0 : Option Nat} {x1 : Int32}
    (h : K (.inl none) σ) : At G mJ4_setLength_d00df rJ4_setLength_d00df 0 0 5 [some (vR x0), some (vI x1)] [] σ K := by
  exact s_return dJ4_setLength_d00df_5 rfl (by decide) (by decide) h
theorem vJ4_append_cf468_0 {G : GG} (gk : GOK G) {σ : Mm} {K : RES → Mm → Prop} {x0 : Option Nat} {x1 : Int32}
    (h : ∃ a1, x0 = some a1 ∧ (mt σ a1).1 = 11 ∧ ∃ K3 : RES → Mm → Prop, Runs G mJ5_append_3fe6f rJ5_append_3fe6f_b [(vR x0), (vI x1)] σ K3 ∧ (∀ E t, ¬ K3 (.inr E) t) ∧ (∀ v t, K3 (.inl v) t → At G mJ4_append_cf468 rJ4_append_cf468 (1) (140) 5 [some (vR x0), some (vI x1)] (v.toList ++ []) t K)) : At G mJ4_append_cf468 rJ4_append_cf468 0 0 0 [some (vR x0), some (vI x1)] [] σ K := by
  refine s_aload_n (i := 0) dJ4_append_cf468_0 rfl rfl ?_
  refine s_iload_n (i := 1) dJ4_append_cf468_1 rfl rfl ?_
  obtain ⟨a1, ea1, h⟩ := h
  obtain ⟨t2, h⟩ := h
  obtain ⟨K3, h1, h2, h3⟩ := h
  exact s_callSU (ci := 10) (as := [(vI x1)]) (S := []) gk dJ4_append_cf468_2 gJ4_50 (by decide) w_1206 w_1565 w_334 (by decide) ea1 t2 rfl rfl (Nat.le_of_ble_eq_true rfl) (by decide) h1 h2 h3
theorem eJ4_append_cf468 {G : GG} (gk : GOK G) {σ : Mm} {K : RES → Mm → Prop} {x0 : Option Nat} {x1 : Int32}
    (h : ∃ a1, x0 = some a1 ∧ (mt σ a1).1 = 11 ∧ ∃ K3 : RES → Mm → Prop, Runs G mJ5_append_3fe6f rJ5_append_3fe6f_b [(vR x0), (vI x1)] σ K3 ∧ (∀ E t, ¬ K3 (.inr E) t) ∧ (∀ v t, K3 (.inl v) t → At G mJ4_append_cf468 rJ4_append_cf468 (1) (140) 5 [some (vR x0), some (vI x1)] (v.toList ++ []) t K)) : Runs G mJ4_append_cf468 rJ4_append_cf468 [(vR x0), (vI x1)] σ K := Runs.ofF (by decide +kernel) rfl (Nat.le_of_ble_eq_true rfl) (vJ4_append_cf468_0 gk h)
theorem vJ4_append_cf468_5 {G : GG} (gk : GOK G) {σ : Mm} {K : RES → Mm → Prop} {x0 : Option Nat} {x1 : Int32} {s0 : Option Nat}
    (h : K (.inl (some (vR x0))) σ) : At G mJ4_append_cf468 rJ4_append_cf468 1 140 5 [some (vR x0), some (vI x1)] [(vR s0)] σ K := by
  refine s_pop dJ4_append_cf468_5 rfl ?_
  refine s_aload_n (i := 0) dJ4_append_cf468_6 rfl rfl ?_
  exact s_areturn dJ4_append_cf468_7 rfl rfl (by decide) (by decide) h
theorem vJ4_append_bf812_0 {G : GG} (gk : GOK G) {σ : Mm} {K : RES → Mm → Prop} {x0 : Option Nat} {x1 : Int32}
    (h : ∃ a1, x0 = some a1 ∧ (mt σ a1).1 = 11 ∧ ∃ K3 : RES → Mm → Prop, Runs G mJ5_append_c97b9 rJ5_append_c97b9_b [(vR x0), (vI x1)] σ K3 ∧ (∀ E t, ¬ K3 (.inr E) t) ∧ (∀ v t, K3 (.inl v) t → At G mJ4_append_bf812 rJ4_append_bf812 (1) (140) 5 [some (vR x0), some (vI x1)] (v.toList ++ []) t K)) : At G mJ4_append_bf812 rJ4_append_bf812 0 0 0 [some (vR x0), some (vI x1)] [] σ K := by
  refine s_aload_n (i := 0) dJ4_append_bf812_0 rfl rfl ?_
  refine s_iload_n (i := 1) dJ4_append_bf812_1 rfl rfl ?_
  obtain ⟨a1, ea1, h⟩ := h
  obtain ⟨t2, h⟩ := h
  obtain ⟨K3, h1, h2, h3⟩ := h
  exact s_callSU (ci := 10) (as := [(vI x1)]) (S := []) gk dJ4_append_bf812_2 gJ4_53 (by decide) w_1219 w_1566 w_334 (by decide) ea1 t2 rfl rfl (Nat.le_of_ble_eq_true rfl) (by decide) h1 h2 h3
theorem eJ4_append_bf812 {G : GG} (gk : GOK G) {σ : Mm} {K : RES → Mm → Prop} {x0 : Option Nat} {x1 : Int32}
    (h : ∃ a1, x0 = some a1 ∧ (mt σ a1).1 = 11 ∧ ∃ K3 : RES → Mm → Prop, Runs G mJ5_append_c97b9 rJ5_append_c97b9_b [(vR x0), (vI x1)] σ K3 ∧ (∀ E t, ¬ K3 (.inr E) t) ∧ (∀ v t, K3 (.inl v) t → At G mJ4_append_bf812 rJ4_append_bf812 (1) (140) 5 [some (vR x0), some (vI x1)] (v.toList ++ []) t K)) : Runs G mJ4_append_bf812 rJ4_append_bf812 [(vR x0), (vI x1)] σ K := Runs.ofF (by decide +kernel) rfl (Nat.le_of_ble_eq_true rfl) (vJ4_append_bf812_0 gk h)
theorem vJ4_append_bf812_5 {G : GG} (gk : GOK G) {σ : Mm} {K : RES → Mm → Prop} {x0 : Option Nat} {x1 : Int32} {s0 : Option Nat}
    (h : K (.inl (some (vR x0))) σ) : At G mJ4_append_bf812 rJ4_append_bf812 1 140 5 [some (vR x0), some (vI x1)] [(vR s0)] σ K := by
  refine s_pop dJ4_append_bf812_5 rfl ?_
  refine s_aload_n (i := 0) dJ4_append_bf812_6 rfl rfl ?_
  exact s_areturn dJ4_append_bf812_7 rfl rfl (by decide) (by decide) h
theorem vJ4_init_da8c8_0 {G : GG} (gk : GOK G) {σ : Mm} {K : RES → Mm → Prop} {x0 : Option Nat}
    (h : ∃ a1, x0 = some a1 ∧ ∃ K2 : RES → Mm → Prop, Runs G mJ5_init_d00df rJ5_init_d00df_b [(vR (some a1)), (vI (16 : Int32))] σ K2 ∧ (∀ E t, ¬ K2 (.inr E) t) ∧ (∀ v t, K2 (.inl v) t → At G mJ4_init_da8c8 rJ4_init_da8c8 (1) (16) 6 [some (vR (some a1))] (v.toList ++ []) t K)) : At G mJ4_init_da8c8 rJ4_init_da8c8 0 0 0 [some (vR x0)] [] σ K := by
  refine s_aload_n (i := 0) dJ4_init_da8c8_0 rfl rfl ?_
  refine s_bipush (v := 16) dJ4_init_da8c8_1 (by decide) ?_
  obtain ⟨a1, ea1, h⟩ := h
  subst ea1
  obtain ⟨K2, h1, h2, h3⟩ := h
  exact s_callI (a := a1) (as := [(vI (16 : Int32))]) (S := []) gk dJ4_init_da8c8_3 gJ4_1 w_309 rfl rfl rfl rfl (Nat.le_of_ble_eq_true rfl) ⟨by decide, by decide, (by decide), (by decide)⟩ h1 h2 h3
theorem eJ4_init_da8c8 {G : GG} (gk : GOK G) {σ : Mm} {K : RES → Mm → Prop} {x0 : Option Nat}
    (h : ∃ a1, x0 = some a1 ∧ ∃ K2 : RES → Mm → Prop, Runs G mJ5_init_d00df rJ5_init_d00df_b [(vR (some a1)), (vI (16 : Int32))] σ K2 ∧ (∀ E t, ¬ K2 (.inr E) t) ∧ (∀ v t, K2 (.inl v) t → At G mJ4_init_da8c8 rJ4_init_da8c8 (1) (16) 6 [some (vR (some a1))] (v.toList ++ []) t K)) : Runs G mJ4_init_da8c8 rJ4_init_da8c8 [(vR x0)] σ K := Runs.ofF (by decide +kernel) rfl (Nat.le_of_ble_eq_true rfl) (vJ4_init_da8c8_0 gk h)
theorem vJ4_init_da8c8_6 {G : GG} (gk : GOK G) {σ : Mm} {K : RES → Mm → Prop} {x0 : Option Nat}
    (h : K (.inl none) σ) : At G mJ4_init_da8c8 rJ4_init_da8c8 1 16 6 [some (vR x0)] [] σ K := by
  exact s_return dJ4_init_da8c8_6 rfl (by decide) (by decide) h
