/-! ===== the helpers of the law: what they are, and what they answer ===== -/
theorem w_0 : (Jvm.Cond.initialized "EchoPantryLaw") ∈ TBL := tk_1 (List.mem_of_getElem? (i := 0) rfl) rfl
theorem w_457 : (Jvm.Cond.codeWith ({ cls := "EchoPantryLaw", name := "addJar", desc := "(LEchoPantry;CI[J)I" } : Jvm.MethodName) method_3_code (5 : Nat) (Option.some Jvm.ClassFile.FieldType.int) [((0 : Nat), (10 : Nat), (13 : Nat), (13 : Nat)), ((0 : Nat), (10 : Nat), (17 : Nat), (15 : Nat))]) ∈ TBL := tk_2 (List.mem_of_getElem? (i := 217) rfl) rfl
theorem w_458 : (Jvm.Cond.classLink "EchoPantryLaw" (13 : Nat) "java/lang/IllegalArgumentException") ∈ TBL := tk_2 (List.mem_of_getElem? (i := 218) rfl) rfl
theorem w_459 : (Jvm.Cond.classLink "EchoPantryLaw" (15 : Nat) "java/lang/IllegalStateException") ∈ TBL := tk_2 (List.mem_of_getElem? (i := 219) rfl) rfl
theorem w_460 : (Jvm.Cond.methodLink "EchoPantryLaw" (7 : Nat) ({ cls := "EchoPantry", name := "addJar", desc := "(CI)I" } : Jvm.MethodName)) ∈ TBL := tk_2 (List.mem_of_getElem? (i := 220) rfl) rfl
theorem w_461 : (Jvm.Cond.instanceMethod ({ cls := "EchoPantry", name := "addJar", desc := "(CI)I" } : Jvm.MethodName)) ∈ TBL := tk_2 (List.mem_of_getElem? (i := 221) rfl) rfl
theorem w_462 : (Jvm.Cond.selects "EchoPantry" ({ cls := "EchoPantry", name := "addJar", desc := "(CI)I" } : Jvm.MethodName) ({ cls := "EchoPantry", name := "addJar", desc := "(CI)I" } : Jvm.MethodName)) ∈ TBL := tk_2 (List.mem_of_getElem? (i := 222) rfl) rfl
theorem w_463 : (Jvm.Cond.code ({ cls := "EchoPantry", name := "addJar", desc := "(CI)I" } : Jvm.MethodName) prog_1_method_2_code (3 : Nat) (Option.some Jvm.ClassFile.FieldType.int)) ∈ TBL := tk_2 (List.mem_of_getElem? (i := 223) rfl) rfl
theorem w_621 : (Jvm.Cond.codeWith ({ cls := "EchoPantryLaw", name := "removeJar", desc := "(LEchoPantry;C[J)I" } : Jvm.MethodName) method_4_code (4 : Nat) (Option.some Jvm.ClassFile.FieldType.int) [((0 : Nat), (9 : Nat), (12 : Nat), (21 : Nat))]) ∈ TBL := tk_3 (List.mem_of_getElem? (i := 141) rfl) rfl
theorem w_622 : (Jvm.Cond.classLink "EchoPantryLaw" (21 : Nat) "java/util/NoSuchElementException") ∈ TBL := tk_3 (List.mem_of_getElem? (i := 142) rfl) rfl
theorem w_623 : (Jvm.Cond.methodLink "EchoPantryLaw" (17 : Nat) ({ cls := "EchoPantry", name := "removeJar", desc := "(C)I" } : Jvm.MethodName)) ∈ TBL := tk_3 (List.mem_of_getElem? (i := 143) rfl) rfl
theorem w_624 : (Jvm.Cond.instanceMethod ({ cls := "EchoPantry", name := "removeJar", desc := "(C)I" } : Jvm.MethodName)) ∈ TBL := tk_3 (List.mem_of_getElem? (i := 144) rfl) rfl
theorem w_625 : (Jvm.Cond.selects "EchoPantry" ({ cls := "EchoPantry", name := "removeJar", desc := "(C)I" } : Jvm.MethodName) ({ cls := "EchoPantry", name := "removeJar", desc := "(C)I" } : Jvm.MethodName)) ∈ TBL := tk_3 (List.mem_of_getElem? (i := 145) rfl) rfl
theorem w_626 : (Jvm.Cond.code ({ cls := "EchoPantry", name := "removeJar", desc := "(C)I" } : Jvm.MethodName) prog_1_method_3_code (2 : Nat) (Option.some Jvm.ClassFile.FieldType.int)) ∈ TBL := tk_3 (List.mem_of_getElem? (i := 146) rfl) rfl
theorem w_649 : (Jvm.Cond.codeWith ({ cls := "EchoPantryLaw", name := "say", desc := "(LEchoPantry;CI[J)I" } : Jvm.MethodName) method_5_code (5 : Nat) (Option.some Jvm.ClassFile.FieldType.int) [((0 : Nat), (10 : Nat), (13 : Nat), (21 : Nat)), ((0 : Nat), (10 : Nat), (17 : Nat), (13 : Nat))]) ∈ TBL := tk_3 (List.mem_of_getElem? (i := 169) rfl) rfl
theorem w_650 : (Jvm.Cond.methodLink "EchoPantryLaw" (23 : Nat) ({ cls := "EchoPantry", name := "say", desc := "(CI)I" } : Jvm.MethodName)) ∈ TBL := tk_3 (List.mem_of_getElem? (i := 170) rfl) rfl
theorem w_651 : (Jvm.Cond.instanceMethod ({ cls := "EchoPantry", name := "say", desc := "(CI)I" } : Jvm.MethodName)) ∈ TBL := tk_3 (List.mem_of_getElem? (i := 171) rfl) rfl
theorem w_652 : (Jvm.Cond.selects "EchoPantry" ({ cls := "EchoPantry", name := "say", desc := "(CI)I" } : Jvm.MethodName) ({ cls := "EchoPantry", name := "say", desc := "(CI)I" } : Jvm.MethodName)) ∈ TBL := tk_3 (List.mem_of_getElem? (i := 172) rfl) rfl
theorem w_653 : (Jvm.Cond.code ({ cls := "EchoPantry", name := "say", desc := "(CI)I" } : Jvm.MethodName) prog_1_method_4_code (3 : Nat) (Option.some Jvm.ClassFile.FieldType.int)) ∈ TBL := tk_3 (List.mem_of_getElem? (i := 173) rfl) rfl
theorem w_669 : (Jvm.Cond.codeWith ({ cls := "EchoPantryLaw", name := "jarAt", desc := "(LEchoPantry;I[J)I" } : Jvm.MethodName) method_6_code (4 : Nat) (Option.some Jvm.ClassFile.FieldType.int) [((0 : Nat), (9 : Nat), (12 : Nat), (30 : Nat))]) ∈ TBL := tk_3 (List.mem_of_getElem? (i := 189) rfl) rfl
theorem w_670 : (Jvm.Cond.classLink "EchoPantryLaw" (30 : Nat) "java/lang/IndexOutOfBoundsException") ∈ TBL := tk_3 (List.mem_of_getElem? (i := 190) rfl) rfl
theorem w_691 : (Jvm.Cond.methodLink "EchoPantryLaw" (26 : Nat) ({ cls := "EchoPantry", name := "jarAt", desc := "(I)C" } : Jvm.MethodName)) ∈ TBL := tk_3 (List.mem_of_getElem? (i := 211) rfl) rfl
theorem w_692 : (Jvm.Cond.instanceMethod ({ cls := "EchoPantry", name := "jarAt", desc := "(I)C" } : Jvm.MethodName)) ∈ TBL := tk_3 (List.mem_of_getElem? (i := 212) rfl) rfl
theorem w_693 : (Jvm.Cond.selects "EchoPantry" ({ cls := "EchoPantry", name := "jarAt", desc := "(I)C" } : Jvm.MethodName) ({ cls := "EchoPantry", name := "jarAt", desc := "(I)C" } : Jvm.MethodName)) ∈ TBL := tk_3 (List.mem_of_getElem? (i := 213) rfl) rfl
theorem w_694 : (Jvm.Cond.code ({ cls := "EchoPantry", name := "jarAt", desc := "(I)C" } : Jvm.MethodName) prog_1_method_6_code (3 : Nat) (Option.some Jvm.ClassFile.FieldType.char)) ∈ TBL := tk_3 (List.mem_of_getElem? (i := 214) rfl) rfl
theorem w_702 : (Jvm.Cond.codeWith ({ cls := "EchoPantryLaw", name := "wordOf", desc := "(LEchoPantry;C[J)I" } : Jvm.MethodName) method_7_code (4 : Nat) (Option.some Jvm.ClassFile.FieldType.int) [((0 : Nat), (9 : Nat), (12 : Nat), (21 : Nat))]) ∈ TBL := tk_3 (List.mem_of_getElem? (i := 222) rfl) rfl
theorem w_703 : (Jvm.Cond.methodLink "EchoPantryLaw" (32 : Nat) ({ cls := "EchoPantry", name := "wordOf", desc := "(C)I" } : Jvm.MethodName)) ∈ TBL := tk_3 (List.mem_of_getElem? (i := 223) rfl) rfl
theorem w_704 : (Jvm.Cond.instanceMethod ({ cls := "EchoPantry", name := "wordOf", desc := "(C)I" } : Jvm.MethodName)) ∈ TBL := tk_3 (List.mem_of_getElem? (i := 224) rfl) rfl
theorem w_705 : (Jvm.Cond.selects "EchoPantry" ({ cls := "EchoPantry", name := "wordOf", desc := "(C)I" } : Jvm.MethodName) ({ cls := "EchoPantry", name := "wordOf", desc := "(C)I" } : Jvm.MethodName)) ∈ TBL := tk_3 (List.mem_of_getElem? (i := 225) rfl) rfl
theorem w_706 : (Jvm.Cond.code ({ cls := "EchoPantry", name := "wordOf", desc := "(C)I" } : Jvm.MethodName) prog_1_method_7_code (2 : Nat) (Option.some Jvm.ClassFile.FieldType.int)) ∈ TBL := tk_3 (List.mem_of_getElem? (i := 226) rfl) rfl
theorem w_714 : (Jvm.Cond.codeWith ({ cls := "EchoPantryLaw", name := "addShelf", desc := "(LEchoPantry;IIC[J)I" } : Jvm.MethodName) method_8_code (6 : Nat) (Option.some Jvm.ClassFile.FieldType.int) [((0 : Nat), (12 : Nat), (15 : Nat), (13 : Nat)), ((0 : Nat), (12 : Nat), (19 : Nat), (15 : Nat))]) ∈ TBL := tk_3 (List.mem_of_getElem? (i := 234) rfl) rfl
theorem w_715 : (Jvm.Cond.methodLink "EchoPantryLaw" (35 : Nat) ({ cls := "EchoPantry", name := "addShelf", desc := "(IIC)I" } : Jvm.MethodName)) ∈ TBL := tk_3 (List.mem_of_getElem? (i := 235) rfl) rfl
theorem w_716 : (Jvm.Cond.instanceMethod ({ cls := "EchoPantry", name := "addShelf", desc := "(IIC)I" } : Jvm.MethodName)) ∈ TBL := tk_3 (List.mem_of_getElem? (i := 236) rfl) rfl
theorem w_717 : (Jvm.Cond.selects "EchoPantry" ({ cls := "EchoPantry", name := "addShelf", desc := "(IIC)I" } : Jvm.MethodName) ({ cls := "EchoPantry", name := "addShelf", desc := "(IIC)I" } : Jvm.MethodName)) ∈ TBL := tk_3 (List.mem_of_getElem? (i := 237) rfl) rfl
theorem w_718 : (Jvm.Cond.code ({ cls := "EchoPantry", name := "addShelf", desc := "(IIC)I" } : Jvm.MethodName) prog_1_method_8_code (4 : Nat) (Option.some Jvm.ClassFile.FieldType.int)) ∈ TBL := tk_3 (List.mem_of_getElem? (i := 238) rfl) rfl
theorem w_734 : (Jvm.Cond.codeWith ({ cls := "EchoPantryLaw", name := "setListening", desc := "(LEchoPantry;IZ[J)I" } : Jvm.MethodName) method_9_code (5 : Nat) (Option.some Jvm.ClassFile.FieldType.int) [((0 : Nat), (17 : Nat), (20 : Nat), (30 : Nat))]) ∈ TBL := tk_4 (List.mem_of_getElem? (i := 14) rfl) rfl
theorem w_735 : (Jvm.Cond.methodLink "EchoPantryLaw" (39 : Nat) ({ cls := "EchoPantry", name := "setListening", desc := "(IZ)Z" } : Jvm.MethodName)) ∈ TBL := tk_4 (List.mem_of_getElem? (i := 15) rfl) rfl
theorem w_736 : (Jvm.Cond.instanceMethod ({ cls := "EchoPantry", name := "setListening", desc := "(IZ)Z" } : Jvm.MethodName)) ∈ TBL := tk_4 (List.mem_of_getElem? (i := 16) rfl) rfl
theorem w_737 : (Jvm.Cond.selects "EchoPantry" ({ cls := "EchoPantry", name := "setListening", desc := "(IZ)Z" } : Jvm.MethodName) ({ cls := "EchoPantry", name := "setListening", desc := "(IZ)Z" } : Jvm.MethodName)) ∈ TBL := tk_4 (List.mem_of_getElem? (i := 17) rfl) rfl
theorem w_738 : (Jvm.Cond.code ({ cls := "EchoPantry", name := "setListening", desc := "(IZ)Z" } : Jvm.MethodName) prog_1_method_9_code (5 : Nat) (Option.some Jvm.ClassFile.FieldType.boolean)) ∈ TBL := tk_4 (List.mem_of_getElem? (i := 18) rfl) rfl
theorem w_749 : (Jvm.Cond.codeWith ({ cls := "EchoPantryLaw", name := "capacityOf", desc := "(LEchoPantry;I[J)I" } : Jvm.MethodName) method_10_code (4 : Nat) (Option.some Jvm.ClassFile.FieldType.int) [((0 : Nat), (9 : Nat), (12 : Nat), (30 : Nat))]) ∈ TBL := tk_4 (List.mem_of_getElem? (i := 29) rfl) rfl
theorem w_750 : (Jvm.Cond.methodLink "EchoPantryLaw" (43 : Nat) ({ cls := "EchoPantry", name := "capacityOf", desc := "(I)I" } : Jvm.MethodName)) ∈ TBL := tk_4 (List.mem_of_getElem? (i := 30) rfl) rfl
theorem w_751 : (Jvm.Cond.instanceMethod ({ cls := "EchoPantry", name := "capacityOf", desc := "(I)I" } : Jvm.MethodName)) ∈ TBL := tk_4 (List.mem_of_getElem? (i := 31) rfl) rfl
theorem w_752 : (Jvm.Cond.selects "EchoPantry" ({ cls := "EchoPantry", name := "capacityOf", desc := "(I)I" } : Jvm.MethodName) ({ cls := "EchoPantry", name := "capacityOf", desc := "(I)I" } : Jvm.MethodName)) ∈ TBL := tk_4 (List.mem_of_getElem? (i := 32) rfl) rfl
theorem w_753 : (Jvm.Cond.code ({ cls := "EchoPantry", name := "capacityOf", desc := "(I)I" } : Jvm.MethodName) prog_1_method_11_code (2 : Nat) (Option.some Jvm.ClassFile.FieldType.int)) ∈ TBL := tk_4 (List.mem_of_getElem? (i := 33) rfl) rfl
theorem w_756 : (Jvm.Cond.codeWith ({ cls := "EchoPantryLaw", name := "lifetimeOf", desc := "(LEchoPantry;I[J)I" } : Jvm.MethodName) method_11_code (4 : Nat) (Option.some Jvm.ClassFile.FieldType.int) [((0 : Nat), (9 : Nat), (12 : Nat), (30 : Nat))]) ∈ TBL := tk_4 (List.mem_of_getElem? (i := 36) rfl) rfl
theorem w_757 : (Jvm.Cond.methodLink "EchoPantryLaw" (47 : Nat) ({ cls := "EchoPantry", name := "lifetimeOf", desc := "(I)I" } : Jvm.MethodName)) ∈ TBL := tk_4 (List.mem_of_getElem? (i := 37) rfl) rfl
theorem w_758 : (Jvm.Cond.instanceMethod ({ cls := "EchoPantry", name := "lifetimeOf", desc := "(I)I" } : Jvm.MethodName)) ∈ TBL := tk_4 (List.mem_of_getElem? (i := 38) rfl) rfl
theorem w_759 : (Jvm.Cond.selects "EchoPantry" ({ cls := "EchoPantry", name := "lifetimeOf", desc := "(I)I" } : Jvm.MethodName) ({ cls := "EchoPantry", name := "lifetimeOf", desc := "(I)I" } : Jvm.MethodName)) ∈ TBL := tk_4 (List.mem_of_getElem? (i := 39) rfl) rfl
theorem w_760 : (Jvm.Cond.code ({ cls := "EchoPantry", name := "lifetimeOf", desc := "(I)I" } : Jvm.MethodName) prog_1_method_12_code (2 : Nat) (Option.some Jvm.ClassFile.FieldType.int)) ∈ TBL := tk_4 (List.mem_of_getElem? (i := 40) rfl) rfl
theorem w_763 : (Jvm.Cond.codeWith ({ cls := "EchoPantryLaw", name := "policyOf", desc := "(LEchoPantry;I[J)I" } : Jvm.MethodName) method_12_code (4 : Nat) (Option.some Jvm.ClassFile.FieldType.int) [((0 : Nat), (9 : Nat), (12 : Nat), (30 : Nat))]) ∈ TBL := tk_4 (List.mem_of_getElem? (i := 43) rfl) rfl
theorem w_764 : (Jvm.Cond.methodLink "EchoPantryLaw" (50 : Nat) ({ cls := "EchoPantry", name := "policyOf", desc := "(I)C" } : Jvm.MethodName)) ∈ TBL := tk_4 (List.mem_of_getElem? (i := 44) rfl) rfl
theorem w_765 : (Jvm.Cond.instanceMethod ({ cls := "EchoPantry", name := "policyOf", desc := "(I)C" } : Jvm.MethodName)) ∈ TBL := tk_4 (List.mem_of_getElem? (i := 45) rfl) rfl
theorem w_766 : (Jvm.Cond.selects "EchoPantry" ({ cls := "EchoPantry", name := "policyOf", desc := "(I)C" } : Jvm.MethodName) ({ cls := "EchoPantry", name := "policyOf", desc := "(I)C" } : Jvm.MethodName)) ∈ TBL := tk_4 (List.mem_of_getElem? (i := 46) rfl) rfl
theorem w_767 : (Jvm.Cond.code ({ cls := "EchoPantry", name := "policyOf", desc := "(I)C" } : Jvm.MethodName) prog_1_method_13_code (2 : Nat) (Option.some Jvm.ClassFile.FieldType.char)) ∈ TBL := tk_4 (List.mem_of_getElem? (i := 47) rfl) rfl
theorem w_770 : (Jvm.Cond.codeWith ({ cls := "EchoPantryLaw", name := "isListening", desc := "(LEchoPantry;I[J)I" } : Jvm.MethodName) method_13_code (4 : Nat) (Option.some Jvm.ClassFile.FieldType.int) [((0 : Nat), (16 : Nat), (19 : Nat), (30 : Nat))]) ∈ TBL := tk_4 (List.mem_of_getElem? (i := 50) rfl) rfl
theorem w_771 : (Jvm.Cond.methodLink "EchoPantryLaw" (53 : Nat) ({ cls := "EchoPantry", name := "isListening", desc := "(I)Z" } : Jvm.MethodName)) ∈ TBL := tk_4 (List.mem_of_getElem? (i := 51) rfl) rfl
theorem w_772 : (Jvm.Cond.instanceMethod ({ cls := "EchoPantry", name := "isListening", desc := "(I)Z" } : Jvm.MethodName)) ∈ TBL := tk_4 (List.mem_of_getElem? (i := 52) rfl) rfl
theorem w_773 : (Jvm.Cond.selects "EchoPantry" ({ cls := "EchoPantry", name := "isListening", desc := "(I)Z" } : Jvm.MethodName) ({ cls := "EchoPantry", name := "isListening", desc := "(I)Z" } : Jvm.MethodName)) ∈ TBL := tk_4 (List.mem_of_getElem? (i := 53) rfl) rfl
theorem w_774 : (Jvm.Cond.code ({ cls := "EchoPantry", name := "isListening", desc := "(I)Z" } : Jvm.MethodName) prog_1_method_14_code (2 : Nat) (Option.some Jvm.ClassFile.FieldType.boolean)) ∈ TBL := tk_4 (List.mem_of_getElem? (i := 54) rfl) rfl
theorem w_777 : (Jvm.Cond.codeWith ({ cls := "EchoPantryLaw", name := "echoCount", desc := "(LEchoPantry;I[J)I" } : Jvm.MethodName) method_14_code (4 : Nat) (Option.some Jvm.ClassFile.FieldType.int) [((0 : Nat), (9 : Nat), (12 : Nat), (30 : Nat))]) ∈ TBL := tk_4 (List.mem_of_getElem? (i := 57) rfl) rfl
theorem w_778 : (Jvm.Cond.methodLink "EchoPantryLaw" (57 : Nat) ({ cls := "EchoPantry", name := "echoCount", desc := "(I)I" } : Jvm.MethodName)) ∈ TBL := tk_4 (List.mem_of_getElem? (i := 58) rfl) rfl
theorem w_779 : (Jvm.Cond.instanceMethod ({ cls := "EchoPantry", name := "echoCount", desc := "(I)I" } : Jvm.MethodName)) ∈ TBL := tk_4 (List.mem_of_getElem? (i := 59) rfl) rfl
theorem w_780 : (Jvm.Cond.selects "EchoPantry" ({ cls := "EchoPantry", name := "echoCount", desc := "(I)I" } : Jvm.MethodName) ({ cls := "EchoPantry", name := "echoCount", desc := "(I)I" } : Jvm.MethodName)) ∈ TBL := tk_4 (List.mem_of_getElem? (i := 60) rfl) rfl
theorem w_781 : (Jvm.Cond.code ({ cls := "EchoPantry", name := "echoCount", desc := "(I)I" } : Jvm.MethodName) prog_1_method_15_code (2 : Nat) (Option.some Jvm.ClassFile.FieldType.int)) ∈ TBL := tk_4 (List.mem_of_getElem? (i := 61) rfl) rfl
theorem w_784 : (Jvm.Cond.codeWith ({ cls := "EchoPantryLaw", name := "echoAt", desc := "(LEchoPantry;II[J)I" } : Jvm.MethodName) method_15_code (5 : Nat) (Option.some Jvm.ClassFile.FieldType.int) [((0 : Nat), (10 : Nat), (13 : Nat), (30 : Nat)), ((0 : Nat), (10 : Nat), (17 : Nat), (21 : Nat))]) ∈ TBL := tk_4 (List.mem_of_getElem? (i := 64) rfl) rfl
theorem w_785 : (Jvm.Cond.methodLink "EchoPantryLaw" (60 : Nat) ({ cls := "EchoPantry", name := "echoAt", desc := "(II)C" } : Jvm.MethodName)) ∈ TBL := tk_4 (List.mem_of_getElem? (i := 65) rfl) rfl
theorem w_786 : (Jvm.Cond.instanceMethod ({ cls := "EchoPantry", name := "echoAt", desc := "(II)C" } : Jvm.MethodName)) ∈ TBL := tk_4 (List.mem_of_getElem? (i := 66) rfl) rfl
theorem w_787 : (Jvm.Cond.selects "EchoPantry" ({ cls := "EchoPantry", name := "echoAt", desc := "(II)C" } : Jvm.MethodName) ({ cls := "EchoPantry", name := "echoAt", desc := "(II)C" } : Jvm.MethodName)) ∈ TBL := tk_4 (List.mem_of_getElem? (i := 67) rfl) rfl
theorem w_788 : (Jvm.Cond.code ({ cls := "EchoPantry", name := "echoAt", desc := "(II)C" } : Jvm.MethodName) prog_1_method_16_code (4 : Nat) (Option.some Jvm.ClassFile.FieldType.char)) ∈ TBL := tk_4 (List.mem_of_getElem? (i := 68) rfl) rfl
theorem w_796 : (Jvm.Cond.codeWith ({ cls := "EchoPantryLaw", name := "hasEcho", desc := "(LEchoPantry;IC[J)I" } : Jvm.MethodName) method_16_code (5 : Nat) (Option.some Jvm.ClassFile.FieldType.int) [((0 : Nat), (17 : Nat), (20 : Nat), (30 : Nat))]) ∈ TBL := tk_4 (List.mem_of_getElem? (i := 76) rfl) rfl
theorem w_797 : (Jvm.Cond.methodLink "EchoPantryLaw" (64 : Nat) ({ cls := "EchoPantry", name := "hasEcho", desc := "(IC)Z" } : Jvm.MethodName)) ∈ TBL := tk_4 (List.mem_of_getElem? (i := 77) rfl) rfl
theorem w_798 : (Jvm.Cond.instanceMethod ({ cls := "EchoPantry", name := "hasEcho", desc := "(IC)Z" } : Jvm.MethodName)) ∈ TBL := tk_4 (List.mem_of_getElem? (i := 78) rfl) rfl
theorem w_799 : (Jvm.Cond.selects "EchoPantry" ({ cls := "EchoPantry", name := "hasEcho", desc := "(IC)Z" } : Jvm.MethodName) ({ cls := "EchoPantry", name := "hasEcho", desc := "(IC)Z" } : Jvm.MethodName)) ∈ TBL := tk_4 (List.mem_of_getElem? (i := 79) rfl) rfl
theorem w_800 : (Jvm.Cond.code ({ cls := "EchoPantry", name := "hasEcho", desc := "(IC)Z" } : Jvm.MethodName) prog_1_method_17_code (3 : Nat) (Option.some Jvm.ClassFile.FieldType.boolean)) ∈ TBL := tk_4 (List.mem_of_getElem? (i := 80) rfl) rfl
theorem w_804 : (Jvm.Cond.codeWith ({ cls := "EchoPantryLaw", name := "echoOf", desc := "(LEchoPantry;IC[J)I" } : Jvm.MethodName) method_17_code (5 : Nat) (Option.some Jvm.ClassFile.FieldType.int) [((0 : Nat), (10 : Nat), (13 : Nat), (30 : Nat)), ((0 : Nat), (10 : Nat), (17 : Nat), (21 : Nat))]) ∈ TBL := tk_4 (List.mem_of_getElem? (i := 84) rfl) rfl
theorem w_805 : (Jvm.Cond.methodLink "EchoPantryLaw" (68 : Nat) ({ cls := "EchoPantry", name := "echoOf", desc := "(IC)I" } : Jvm.MethodName)) ∈ TBL := tk_4 (List.mem_of_getElem? (i := 85) rfl) rfl
theorem w_806 : (Jvm.Cond.instanceMethod ({ cls := "EchoPantry", name := "echoOf", desc := "(IC)I" } : Jvm.MethodName)) ∈ TBL := tk_4 (List.mem_of_getElem? (i := 86) rfl) rfl
theorem w_807 : (Jvm.Cond.selects "EchoPantry" ({ cls := "EchoPantry", name := "echoOf", desc := "(IC)I" } : Jvm.MethodName) ({ cls := "EchoPantry", name := "echoOf", desc := "(IC)I" } : Jvm.MethodName)) ∈ TBL := tk_4 (List.mem_of_getElem? (i := 87) rfl) rfl
theorem w_808 : (Jvm.Cond.code ({ cls := "EchoPantry", name := "echoOf", desc := "(IC)I" } : Jvm.MethodName) prog_1_method_18_code (3 : Nat) (Option.some Jvm.ClassFile.FieldType.int)) ∈ TBL := tk_4 (List.mem_of_getElem? (i := 88) rfl) rfl
theorem w_816 : (Jvm.Cond.codeWith ({ cls := "EchoPantryLaw", name := "ageOf", desc := "(LEchoPantry;IC[J)I" } : Jvm.MethodName) method_18_code (5 : Nat) (Option.some Jvm.ClassFile.FieldType.int) [((0 : Nat), (10 : Nat), (13 : Nat), (30 : Nat)), ((0 : Nat), (10 : Nat), (17 : Nat), (21 : Nat))]) ∈ TBL := tk_4 (List.mem_of_getElem? (i := 96) rfl) rfl
theorem w_817 : (Jvm.Cond.methodLink "EchoPantryLaw" (72 : Nat) ({ cls := "EchoPantry", name := "ageOf", desc := "(IC)I" } : Jvm.MethodName)) ∈ TBL := tk_4 (List.mem_of_getElem? (i := 97) rfl) rfl
theorem w_818 : (Jvm.Cond.instanceMethod ({ cls := "EchoPantry", name := "ageOf", desc := "(IC)I" } : Jvm.MethodName)) ∈ TBL := tk_4 (List.mem_of_getElem? (i := 98) rfl) rfl
theorem w_819 : (Jvm.Cond.selects "EchoPantry" ({ cls := "EchoPantry", name := "ageOf", desc := "(IC)I" } : Jvm.MethodName) ({ cls := "EchoPantry", name := "ageOf", desc := "(IC)I" } : Jvm.MethodName)) ∈ TBL := tk_4 (List.mem_of_getElem? (i := 99) rfl) rfl
theorem w_820 : (Jvm.Cond.code ({ cls := "EchoPantry", name := "ageOf", desc := "(IC)I" } : Jvm.MethodName) prog_1_method_19_code (3 : Nat) (Option.some Jvm.ClassFile.FieldType.int)) ∈ TBL := tk_4 (List.mem_of_getElem? (i := 100) rfl) rfl
theorem w_827 : (Jvm.Cond.codeWith ({ cls := "EchoPantryLaw", name := "hitsOf", desc := "(LEchoPantry;IC[J)I" } : Jvm.MethodName) method_19_code (5 : Nat) (Option.some Jvm.ClassFile.FieldType.int) [((0 : Nat), (10 : Nat), (13 : Nat), (30 : Nat)), ((0 : Nat), (10 : Nat), (17 : Nat), (21 : Nat))]) ∈ TBL := tk_4 (List.mem_of_getElem? (i := 107) rfl) rfl
theorem w_828 : (Jvm.Cond.methodLink "EchoPantryLaw" (75 : Nat) ({ cls := "EchoPantry", name := "hitsOf", desc := "(IC)I" } : Jvm.MethodName)) ∈ TBL := tk_4 (List.mem_of_getElem? (i := 108) rfl) rfl
theorem w_829 : (Jvm.Cond.instanceMethod ({ cls := "EchoPantry", name := "hitsOf", desc := "(IC)I" } : Jvm.MethodName)) ∈ TBL := tk_4 (List.mem_of_getElem? (i := 109) rfl) rfl
theorem w_830 : (Jvm.Cond.selects "EchoPantry" ({ cls := "EchoPantry", name := "hitsOf", desc := "(IC)I" } : Jvm.MethodName) ({ cls := "EchoPantry", name := "hitsOf", desc := "(IC)I" } : Jvm.MethodName)) ∈ TBL := tk_4 (List.mem_of_getElem? (i := 110) rfl) rfl
theorem w_831 : (Jvm.Cond.code ({ cls := "EchoPantry", name := "hitsOf", desc := "(IC)I" } : Jvm.MethodName) prog_1_method_20_code (3 : Nat) (Option.some Jvm.ClassFile.FieldType.int)) ∈ TBL := tk_4 (List.mem_of_getElem? (i := 111) rfl) rfl
theorem w_834 : (Jvm.Cond.codeWith ({ cls := "EchoPantryLaw", name := "isExpired", desc := "(LEchoPantry;IC[J)I" } : Jvm.MethodName) method_20_code (5 : Nat) (Option.some Jvm.ClassFile.FieldType.int) [((0 : Nat), (17 : Nat), (20 : Nat), (30 : Nat)), ((0 : Nat), (17 : Nat), (24 : Nat), (21 : Nat))]) ∈ TBL := tk_4 (List.mem_of_getElem? (i := 114) rfl) rfl
theorem w_835 : (Jvm.Cond.methodLink "EchoPantryLaw" (78 : Nat) ({ cls := "EchoPantry", name := "isExpired", desc := "(IC)Z" } : Jvm.MethodName)) ∈ TBL := tk_4 (List.mem_of_getElem? (i := 115) rfl) rfl
theorem w_836 : (Jvm.Cond.instanceMethod ({ cls := "EchoPantry", name := "isExpired", desc := "(IC)Z" } : Jvm.MethodName)) ∈ TBL := tk_4 (List.mem_of_getElem? (i := 116) rfl) rfl
theorem w_837 : (Jvm.Cond.selects "EchoPantry" ({ cls := "EchoPantry", name := "isExpired", desc := "(IC)Z" } : Jvm.MethodName) ({ cls := "EchoPantry", name := "isExpired", desc := "(IC)Z" } : Jvm.MethodName)) ∈ TBL := tk_4 (List.mem_of_getElem? (i := 117) rfl) rfl
theorem w_838 : (Jvm.Cond.code ({ cls := "EchoPantry", name := "isExpired", desc := "(IC)Z" } : Jvm.MethodName) prog_1_method_21_code (4 : Nat) (Option.some Jvm.ClassFile.FieldType.boolean)) ∈ TBL := tk_4 (List.mem_of_getElem? (i := 118) rfl) rfl
theorem w_846 : (Jvm.Cond.codeWith ({ cls := "EchoPantryLaw", name := "isOpen", desc := "(LEchoPantry;IC[J)I" } : Jvm.MethodName) method_21_code (5 : Nat) (Option.some Jvm.ClassFile.FieldType.int) [((0 : Nat), (17 : Nat), (20 : Nat), (30 : Nat)), ((0 : Nat), (17 : Nat), (24 : Nat), (21 : Nat))]) ∈ TBL := tk_4 (List.mem_of_getElem? (i := 126) rfl) rfl
theorem w_847 : (Jvm.Cond.methodLink "EchoPantryLaw" (81 : Nat) ({ cls := "EchoPantry", name := "isOpen", desc := "(IC)Z" } : Jvm.MethodName)) ∈ TBL := tk_4 (List.mem_of_getElem? (i := 127) rfl) rfl
theorem w_848 : (Jvm.Cond.instanceMethod ({ cls := "EchoPantry", name := "isOpen", desc := "(IC)Z" } : Jvm.MethodName)) ∈ TBL := tk_4 (List.mem_of_getElem? (i := 128) rfl) rfl
theorem w_849 : (Jvm.Cond.selects "EchoPantry" ({ cls := "EchoPantry", name := "isOpen", desc := "(IC)Z" } : Jvm.MethodName) ({ cls := "EchoPantry", name := "isOpen", desc := "(IC)Z" } : Jvm.MethodName)) ∈ TBL := tk_4 (List.mem_of_getElem? (i := 129) rfl) rfl
theorem w_850 : (Jvm.Cond.code ({ cls := "EchoPantry", name := "isOpen", desc := "(IC)Z" } : Jvm.MethodName) prog_1_method_22_code (3 : Nat) (Option.some Jvm.ClassFile.FieldType.boolean)) ∈ TBL := tk_4 (List.mem_of_getElem? (i := 130) rfl) rfl
theorem w_853 : (Jvm.Cond.codeWith ({ cls := "EchoPantryLaw", name := "isTrue", desc := "(LEchoPantry;IC[J)I" } : Jvm.MethodName) method_22_code (5 : Nat) (Option.some Jvm.ClassFile.FieldType.int) [((0 : Nat), (17 : Nat), (20 : Nat), (30 : Nat)), ((0 : Nat), (17 : Nat), (24 : Nat), (21 : Nat))]) ∈ TBL := tk_4 (List.mem_of_getElem? (i := 133) rfl) rfl
theorem w_854 : (Jvm.Cond.methodLink "EchoPantryLaw" (84 : Nat) ({ cls := "EchoPantry", name := "isTrue", desc := "(IC)Z" } : Jvm.MethodName)) ∈ TBL := tk_4 (List.mem_of_getElem? (i := 134) rfl) rfl
theorem w_855 : (Jvm.Cond.instanceMethod ({ cls := "EchoPantry", name := "isTrue", desc := "(IC)Z" } : Jvm.MethodName)) ∈ TBL := tk_4 (List.mem_of_getElem? (i := 135) rfl) rfl
theorem w_856 : (Jvm.Cond.selects "EchoPantry" ({ cls := "EchoPantry", name := "isTrue", desc := "(IC)Z" } : Jvm.MethodName) ({ cls := "EchoPantry", name := "isTrue", desc := "(IC)Z" } : Jvm.MethodName)) ∈ TBL := tk_4 (List.mem_of_getElem? (i := 136) rfl) rfl
theorem w_857 : (Jvm.Cond.code ({ cls := "EchoPantry", name := "isTrue", desc := "(IC)Z" } : Jvm.MethodName) prog_1_method_23_code (3 : Nat) (Option.some Jvm.ClassFile.FieldType.boolean)) ∈ TBL := tk_4 (List.mem_of_getElem? (i := 137) rfl) rfl
theorem w_861 : (Jvm.Cond.codeWith ({ cls := "EchoPantryLaw", name := "isTrueBySteps", desc := "(LEchoPantry;IC[J)I" } : Jvm.MethodName) method_23_code (5 : Nat) (Option.some Jvm.ClassFile.FieldType.int) [((0 : Nat), (17 : Nat), (20 : Nat), (30 : Nat)), ((0 : Nat), (17 : Nat), (24 : Nat), (21 : Nat))]) ∈ TBL := tk_4 (List.mem_of_getElem? (i := 141) rfl) rfl
theorem w_862 : (Jvm.Cond.methodLink "EchoPantryLaw" (87 : Nat) ({ cls := "EchoPantry", name := "isTrueBySteps", desc := "(IC)Z" } : Jvm.MethodName)) ∈ TBL := tk_4 (List.mem_of_getElem? (i := 142) rfl) rfl
theorem w_863 : (Jvm.Cond.instanceMethod ({ cls := "EchoPantry", name := "isTrueBySteps", desc := "(IC)Z" } : Jvm.MethodName)) ∈ TBL := tk_4 (List.mem_of_getElem? (i := 143) rfl) rfl
theorem w_864 : (Jvm.Cond.selects "EchoPantry" ({ cls := "EchoPantry", name := "isTrueBySteps", desc := "(IC)Z" } : Jvm.MethodName) ({ cls := "EchoPantry", name := "isTrueBySteps", desc := "(IC)Z" } : Jvm.MethodName)) ∈ TBL := tk_4 (List.mem_of_getElem? (i := 144) rfl) rfl
theorem w_865 : (Jvm.Cond.code ({ cls := "EchoPantry", name := "isTrueBySteps", desc := "(IC)Z" } : Jvm.MethodName) prog_1_method_24_code (3 : Nat) (Option.some Jvm.ClassFile.FieldType.boolean)) ∈ TBL := tk_4 (List.mem_of_getElem? (i := 145) rfl) rfl
theorem w_869 : (Jvm.Cond.codeWith ({ cls := "EchoPantryLaw", name := "victimOf", desc := "(LEchoPantry;I[J)I" } : Jvm.MethodName) method_24_code (4 : Nat) (Option.some Jvm.ClassFile.FieldType.int) [((0 : Nat), (9 : Nat), (12 : Nat), (30 : Nat)), ((0 : Nat), (9 : Nat), (15 : Nat), (21 : Nat))]) ∈ TBL := tk_4 (List.mem_of_getElem? (i := 149) rfl) rfl
theorem w_870 : (Jvm.Cond.methodLink "EchoPantryLaw" (90 : Nat) ({ cls := "EchoPantry", name := "victimOf", desc := "(I)C" } : Jvm.MethodName)) ∈ TBL := tk_4 (List.mem_of_getElem? (i := 150) rfl) rfl
theorem w_871 : (Jvm.Cond.instanceMethod ({ cls := "EchoPantry", name := "victimOf", desc := "(I)C" } : Jvm.MethodName)) ∈ TBL := tk_4 (List.mem_of_getElem? (i := 151) rfl) rfl
theorem w_872 : (Jvm.Cond.selects "EchoPantry" ({ cls := "EchoPantry", name := "victimOf", desc := "(I)C" } : Jvm.MethodName) ({ cls := "EchoPantry", name := "victimOf", desc := "(I)C" } : Jvm.MethodName)) ∈ TBL := tk_4 (List.mem_of_getElem? (i := 152) rfl) rfl
theorem w_873 : (Jvm.Cond.code ({ cls := "EchoPantry", name := "victimOf", desc := "(I)C" } : Jvm.MethodName) prog_1_method_25_code (3 : Nat) (Option.some Jvm.ClassFile.FieldType.char)) ∈ TBL := tk_4 (List.mem_of_getElem? (i := 153) rfl) rfl
theorem w_877 : (Jvm.Cond.codeWith ({ cls := "EchoPantryLaw", name := "victimByScan", desc := "(LEchoPantry;I[J)I" } : Jvm.MethodName) method_25_code (4 : Nat) (Option.some Jvm.ClassFile.FieldType.int) [((0 : Nat), (9 : Nat), (12 : Nat), (30 : Nat)), ((0 : Nat), (9 : Nat), (15 : Nat), (21 : Nat))]) ∈ TBL := tk_4 (List.mem_of_getElem? (i := 157) rfl) rfl
theorem w_878 : (Jvm.Cond.methodLink "EchoPantryLaw" (93 : Nat) ({ cls := "EchoPantry", name := "victimByScan", desc := "(I)C" } : Jvm.MethodName)) ∈ TBL := tk_4 (List.mem_of_getElem? (i := 158) rfl) rfl
theorem w_879 : (Jvm.Cond.instanceMethod ({ cls := "EchoPantry", name := "victimByScan", desc := "(I)C" } : Jvm.MethodName)) ∈ TBL := tk_4 (List.mem_of_getElem? (i := 159) rfl) rfl
theorem w_880 : (Jvm.Cond.selects "EchoPantry" ({ cls := "EchoPantry", name := "victimByScan", desc := "(I)C" } : Jvm.MethodName) ({ cls := "EchoPantry", name := "victimByScan", desc := "(I)C" } : Jvm.MethodName)) ∈ TBL := tk_4 (List.mem_of_getElem? (i := 160) rfl) rfl
theorem w_881 : (Jvm.Cond.code ({ cls := "EchoPantry", name := "victimByScan", desc := "(I)C" } : Jvm.MethodName) prog_1_method_26_code (3 : Nat) (Option.some Jvm.ClassFile.FieldType.char)) ∈ TBL := tk_4 (List.mem_of_getElem? (i := 161) rfl) rfl
theorem w_884 : (Jvm.Cond.codeWith ({ cls := "EchoPantryLaw", name := "hear", desc := "(LEchoPantry;IC[J)I" } : Jvm.MethodName) method_26_code (5 : Nat) (Option.some Jvm.ClassFile.FieldType.int) [((0 : Nat), (10 : Nat), (13 : Nat), (30 : Nat)), ((0 : Nat), (10 : Nat), (17 : Nat), (21 : Nat))]) ∈ TBL := tk_4 (List.mem_of_getElem? (i := 164) rfl) rfl
theorem w_885 : (Jvm.Cond.methodLink "EchoPantryLaw" (96 : Nat) ({ cls := "EchoPantry", name := "hear", desc := "(IC)I" } : Jvm.MethodName)) ∈ TBL := tk_4 (List.mem_of_getElem? (i := 165) rfl) rfl
theorem w_886 : (Jvm.Cond.instanceMethod ({ cls := "EchoPantry", name := "hear", desc := "(IC)I" } : Jvm.MethodName)) ∈ TBL := tk_4 (List.mem_of_getElem? (i := 166) rfl) rfl
theorem w_887 : (Jvm.Cond.selects "EchoPantry" ({ cls := "EchoPantry", name := "hear", desc := "(IC)I" } : Jvm.MethodName) ({ cls := "EchoPantry", name := "hear", desc := "(IC)I" } : Jvm.MethodName)) ∈ TBL := tk_4 (List.mem_of_getElem? (i := 167) rfl) rfl
theorem w_888 : (Jvm.Cond.code ({ cls := "EchoPantry", name := "hear", desc := "(IC)I" } : Jvm.MethodName) prog_1_method_27_code (3 : Nat) (Option.some Jvm.ClassFile.FieldType.int)) ∈ TBL := tk_4 (List.mem_of_getElem? (i := 168) rfl) rfl
theorem w_928 : (Jvm.Cond.codeWith ({ cls := "EchoPantryLaw", name := "outcomeOf", desc := "(LEchoPantry;IC[J)I" } : Jvm.MethodName) method_27_code (5 : Nat) (Option.some Jvm.ClassFile.FieldType.int) [((0 : Nat), (10 : Nat), (13 : Nat), (30 : Nat)), ((0 : Nat), (10 : Nat), (17 : Nat), (21 : Nat))]) ∈ TBL := tk_4 (List.mem_of_getElem? (i := 208) rfl) rfl
theorem w_929 : (Jvm.Cond.methodLink "EchoPantryLaw" (99 : Nat) ({ cls := "EchoPantry", name := "outcomeOf", desc := "(IC)C" } : Jvm.MethodName)) ∈ TBL := tk_4 (List.mem_of_getElem? (i := 209) rfl) rfl
theorem w_930 : (Jvm.Cond.instanceMethod ({ cls := "EchoPantry", name := "outcomeOf", desc := "(IC)C" } : Jvm.MethodName)) ∈ TBL := tk_4 (List.mem_of_getElem? (i := 210) rfl) rfl
theorem w_931 : (Jvm.Cond.selects "EchoPantry" ({ cls := "EchoPantry", name := "outcomeOf", desc := "(IC)C" } : Jvm.MethodName) ({ cls := "EchoPantry", name := "outcomeOf", desc := "(IC)C" } : Jvm.MethodName)) ∈ TBL := tk_4 (List.mem_of_getElem? (i := 211) rfl) rfl
theorem w_932 : (Jvm.Cond.code ({ cls := "EchoPantry", name := "outcomeOf", desc := "(IC)C" } : Jvm.MethodName) prog_1_method_28_code (3 : Nat) (Option.some Jvm.ClassFile.FieldType.char)) ∈ TBL := tk_4 (List.mem_of_getElem? (i := 212) rfl) rfl
theorem w_936 : (Jvm.Cond.codeWith ({ cls := "EchoPantryLaw", name := "warm", desc := "(LEchoPantry;ICI[J)I" } : Jvm.MethodName) method_28_code (6 : Nat) (Option.some Jvm.ClassFile.FieldType.int) [((0 : Nat), (12 : Nat), (15 : Nat), (30 : Nat)), ((0 : Nat), (12 : Nat), (19 : Nat), (21 : Nat)), ((0 : Nat), (12 : Nat), (23 : Nat), (13 : Nat)), ((0 : Nat), (12 : Nat), (27 : Nat), (15 : Nat))]) ∈ TBL := tk_4 (List.mem_of_getElem? (i := 216) rfl) rfl
theorem w_937 : (Jvm.Cond.methodLink "EchoPantryLaw" (103 : Nat) ({ cls := "EchoPantry", name := "warm", desc := "(ICI)I" } : Jvm.MethodName)) ∈ TBL := tk_4 (List.mem_of_getElem? (i := 217) rfl) rfl
theorem w_938 : (Jvm.Cond.instanceMethod ({ cls := "EchoPantry", name := "warm", desc := "(ICI)I" } : Jvm.MethodName)) ∈ TBL := tk_4 (List.mem_of_getElem? (i := 218) rfl) rfl
theorem w_939 : (Jvm.Cond.selects "EchoPantry" ({ cls := "EchoPantry", name := "warm", desc := "(ICI)I" } : Jvm.MethodName) ({ cls := "EchoPantry", name := "warm", desc := "(ICI)I" } : Jvm.MethodName)) ∈ TBL := tk_4 (List.mem_of_getElem? (i := 219) rfl) rfl
theorem w_940 : (Jvm.Cond.code ({ cls := "EchoPantry", name := "warm", desc := "(ICI)I" } : Jvm.MethodName) prog_1_method_29_code (4 : Nat) (Option.some Jvm.ClassFile.FieldType.int)) ∈ TBL := tk_4 (List.mem_of_getElem? (i := 220) rfl) rfl
theorem w_961 : (Jvm.Cond.codeWith ({ cls := "EchoPantryLaw", name := "cancelWarming", desc := "(LEchoPantry;I[J)I" } : Jvm.MethodName) method_29_code (4 : Nat) (Option.some Jvm.ClassFile.FieldType.int) [((0 : Nat), (9 : Nat), (12 : Nat), (30 : Nat))]) ∈ TBL := tk_5 (List.mem_of_getElem? (i := 1) rfl) rfl
theorem w_962 : (Jvm.Cond.methodLink "EchoPantryLaw" (107 : Nat) ({ cls := "EchoPantry", name := "cancelWarming", desc := "(I)I" } : Jvm.MethodName)) ∈ TBL := tk_5 (List.mem_of_getElem? (i := 2) rfl) rfl
theorem w_963 : (Jvm.Cond.instanceMethod ({ cls := "EchoPantry", name := "cancelWarming", desc := "(I)I" } : Jvm.MethodName)) ∈ TBL := tk_5 (List.mem_of_getElem? (i := 3) rfl) rfl
theorem w_964 : (Jvm.Cond.selects "EchoPantry" ({ cls := "EchoPantry", name := "cancelWarming", desc := "(I)I" } : Jvm.MethodName) ({ cls := "EchoPantry", name := "cancelWarming", desc := "(I)I" } : Jvm.MethodName)) ∈ TBL := tk_5 (List.mem_of_getElem? (i := 4) rfl) rfl
theorem w_965 : (Jvm.Cond.code ({ cls := "EchoPantry", name := "cancelWarming", desc := "(I)I" } : Jvm.MethodName) prog_1_method_30_code (3 : Nat) (Option.some Jvm.ClassFile.FieldType.int)) ∈ TBL := tk_5 (List.mem_of_getElem? (i := 5) rfl) rfl
theorem w_981 : (Jvm.Cond.codeWith ({ cls := "EchoPantryLaw", name := "pass", desc := "(LEchoPantry;I[J)I" } : Jvm.MethodName) method_30_code (4 : Nat) (Option.some Jvm.ClassFile.FieldType.int) [((0 : Nat), (9 : Nat), (12 : Nat), (13 : Nat))]) ∈ TBL := tk_5 (List.mem_of_getElem? (i := 21) rfl) rfl
theorem w_982 : (Jvm.Cond.methodLink "EchoPantryLaw" (110 : Nat) ({ cls := "EchoPantry", name := "pass", desc := "(I)I" } : Jvm.MethodName)) ∈ TBL := tk_5 (List.mem_of_getElem? (i := 22) rfl) rfl
theorem w_983 : (Jvm.Cond.instanceMethod ({ cls := "EchoPantry", name := "pass", desc := "(I)I" } : Jvm.MethodName)) ∈ TBL := tk_5 (List.mem_of_getElem? (i := 23) rfl) rfl
theorem w_984 : (Jvm.Cond.selects "EchoPantry" ({ cls := "EchoPantry", name := "pass", desc := "(I)I" } : Jvm.MethodName) ({ cls := "EchoPantry", name := "pass", desc := "(I)I" } : Jvm.MethodName)) ∈ TBL := tk_5 (List.mem_of_getElem? (i := 24) rfl) rfl
theorem w_985 : (Jvm.Cond.code ({ cls := "EchoPantry", name := "pass", desc := "(I)I" } : Jvm.MethodName) prog_1_method_31_code (2 : Nat) (Option.some Jvm.ClassFile.FieldType.int)) ∈ TBL := tk_5 (List.mem_of_getElem? (i := 25) rfl) rfl
theorem w_996 : (Jvm.Cond.codeWith ({ cls := "EchoPantryLaw", name := "warmingMinute", desc := "(LEchoPantry;I[J)I" } : Jvm.MethodName) method_31_code (4 : Nat) (Option.some Jvm.ClassFile.FieldType.int) [((0 : Nat), (9 : Nat), (12 : Nat), (30 : Nat))]) ∈ TBL := tk_5 (List.mem_of_getElem? (i := 36) rfl) rfl
theorem w_997 : (Jvm.Cond.methodLink "EchoPantryLaw" (113 : Nat) ({ cls := "EchoPantry", name := "warmingMinute", desc := "(I)I" } : Jvm.MethodName)) ∈ TBL := tk_5 (List.mem_of_getElem? (i := 37) rfl) rfl
theorem w_998 : (Jvm.Cond.instanceMethod ({ cls := "EchoPantry", name := "warmingMinute", desc := "(I)I" } : Jvm.MethodName)) ∈ TBL := tk_5 (List.mem_of_getElem? (i := 38) rfl) rfl
theorem w_999 : (Jvm.Cond.selects "EchoPantry" ({ cls := "EchoPantry", name := "warmingMinute", desc := "(I)I" } : Jvm.MethodName) ({ cls := "EchoPantry", name := "warmingMinute", desc := "(I)I" } : Jvm.MethodName)) ∈ TBL := tk_5 (List.mem_of_getElem? (i := 39) rfl) rfl
theorem w_1000 : (Jvm.Cond.code ({ cls := "EchoPantry", name := "warmingMinute", desc := "(I)I" } : Jvm.MethodName) prog_1_method_34_code (2 : Nat) (Option.some Jvm.ClassFile.FieldType.int)) ∈ TBL := tk_5 (List.mem_of_getElem? (i := 40) rfl) rfl
theorem w_1003 : (Jvm.Cond.codeWith ({ cls := "EchoPantryLaw", name := "warmingJar", desc := "(LEchoPantry;I[J)I" } : Jvm.MethodName) method_32_code (4 : Nat) (Option.some Jvm.ClassFile.FieldType.int) [((0 : Nat), (9 : Nat), (12 : Nat), (30 : Nat))]) ∈ TBL := tk_5 (List.mem_of_getElem? (i := 43) rfl) rfl
theorem w_1004 : (Jvm.Cond.methodLink "EchoPantryLaw" (116 : Nat) ({ cls := "EchoPantry", name := "warmingJar", desc := "(I)C" } : Jvm.MethodName)) ∈ TBL := tk_5 (List.mem_of_getElem? (i := 44) rfl) rfl
theorem w_1005 : (Jvm.Cond.instanceMethod ({ cls := "EchoPantry", name := "warmingJar", desc := "(I)C" } : Jvm.MethodName)) ∈ TBL := tk_5 (List.mem_of_getElem? (i := 45) rfl) rfl
theorem w_1006 : (Jvm.Cond.selects "EchoPantry" ({ cls := "EchoPantry", name := "warmingJar", desc := "(I)C" } : Jvm.MethodName) ({ cls := "EchoPantry", name := "warmingJar", desc := "(I)C" } : Jvm.MethodName)) ∈ TBL := tk_5 (List.mem_of_getElem? (i := 46) rfl) rfl
theorem w_1007 : (Jvm.Cond.code ({ cls := "EchoPantry", name := "warmingJar", desc := "(I)C" } : Jvm.MethodName) prog_1_method_35_code (2 : Nat) (Option.some Jvm.ClassFile.FieldType.char)) ∈ TBL := tk_5 (List.mem_of_getElem? (i := 47) rfl) rfl
theorem w_1010 : (Jvm.Cond.codeWith ({ cls := "EchoPantryLaw", name := "misses", desc := "(LEchoPantry;C[J)I" } : Jvm.MethodName) method_33_code (4 : Nat) (Option.some Jvm.ClassFile.FieldType.int) [((0 : Nat), (9 : Nat), (12 : Nat), (13 : Nat))]) ∈ TBL := tk_5 (List.mem_of_getElem? (i := 50) rfl) rfl
theorem w_1011 : (Jvm.Cond.methodLink "EchoPantryLaw" (119 : Nat) ({ cls := "EchoPantry", name := "misses", desc := "(C)I" } : Jvm.MethodName)) ∈ TBL := tk_5 (List.mem_of_getElem? (i := 51) rfl) rfl
theorem w_1012 : (Jvm.Cond.instanceMethod ({ cls := "EchoPantry", name := "misses", desc := "(C)I" } : Jvm.MethodName)) ∈ TBL := tk_5 (List.mem_of_getElem? (i := 52) rfl) rfl
theorem w_1013 : (Jvm.Cond.selects "EchoPantry" ({ cls := "EchoPantry", name := "misses", desc := "(C)I" } : Jvm.MethodName) ({ cls := "EchoPantry", name := "misses", desc := "(C)I" } : Jvm.MethodName)) ∈ TBL := tk_5 (List.mem_of_getElem? (i := 53) rfl) rfl
theorem w_1014 : (Jvm.Cond.code ({ cls := "EchoPantry", name := "misses", desc := "(C)I" } : Jvm.MethodName) prog_1_method_37_code (2 : Nat) (Option.some Jvm.ClassFile.FieldType.int)) ∈ TBL := tk_5 (List.mem_of_getElem? (i := 54) rfl) rfl
theorem w_1018 : (Jvm.Cond.codeWith ({ cls := "EchoPantryLaw", name := "hitShare", desc := "(LEchoPantry;[D)I" } : Jvm.MethodName) method_34_code (3 : Nat) (Option.some Jvm.ClassFile.FieldType.int) [((0 : Nat), (8 : Nat), (11 : Nat), (126 : Nat))]) ∈ TBL := tk_5 (List.mem_of_getElem? (i := 58) rfl) rfl
theorem w_1019 : (Jvm.Cond.classLink "EchoPantryLaw" (126 : Nat) "java/lang/ArithmeticException") ∈ TBL := tk_5 (List.mem_of_getElem? (i := 59) rfl) rfl
theorem w_1033 : (Jvm.Cond.methodLink "EchoPantryLaw" (122 : Nat) ({ cls := "EchoPantry", name := "hitShare", desc := "()F" } : Jvm.MethodName)) ∈ TBL := tk_5 (List.mem_of_getElem? (i := 73) rfl) rfl
theorem w_1034 : (Jvm.Cond.instanceMethod ({ cls := "EchoPantry", name := "hitShare", desc := "()F" } : Jvm.MethodName)) ∈ TBL := tk_5 (List.mem_of_getElem? (i := 74) rfl) rfl
theorem w_1035 : (Jvm.Cond.selects "EchoPantry" ({ cls := "EchoPantry", name := "hitShare", desc := "()F" } : Jvm.MethodName) ({ cls := "EchoPantry", name := "hitShare", desc := "()F" } : Jvm.MethodName)) ∈ TBL := tk_5 (List.mem_of_getElem? (i := 75) rfl) rfl
theorem w_1036 : (Jvm.Cond.code ({ cls := "EchoPantry", name := "hitShare", desc := "()F" } : Jvm.MethodName) prog_1_method_38_code (2 : Nat) (Option.some Jvm.ClassFile.FieldType.float)) ∈ TBL := tk_5 (List.mem_of_getElem? (i := 76) rfl) rfl
theorem w_1042 : (Jvm.Cond.codeWith ({ cls := "EchoPantryLaw", name := "meanAge", desc := "(LEchoPantry;[D)I" } : Jvm.MethodName) method_35_code (3 : Nat) (Option.some Jvm.ClassFile.FieldType.int) [((0 : Nat), (7 : Nat), (10 : Nat), (126 : Nat))]) ∈ TBL := tk_5 (List.mem_of_getElem? (i := 82) rfl) rfl
theorem w_1043 : (Jvm.Cond.methodLink "EchoPantryLaw" (128 : Nat) ({ cls := "EchoPantry", name := "meanAge", desc := "()D" } : Jvm.MethodName)) ∈ TBL := tk_5 (List.mem_of_getElem? (i := 83) rfl) rfl
theorem w_1044 : (Jvm.Cond.instanceMethod ({ cls := "EchoPantry", name := "meanAge", desc := "()D" } : Jvm.MethodName)) ∈ TBL := tk_5 (List.mem_of_getElem? (i := 84) rfl) rfl
theorem w_1045 : (Jvm.Cond.selects "EchoPantry" ({ cls := "EchoPantry", name := "meanAge", desc := "()D" } : Jvm.MethodName) ({ cls := "EchoPantry", name := "meanAge", desc := "()D" } : Jvm.MethodName)) ∈ TBL := tk_5 (List.mem_of_getElem? (i := 85) rfl) rfl
theorem w_1046 : (Jvm.Cond.code ({ cls := "EchoPantry", name := "meanAge", desc := "()D" } : Jvm.MethodName) prog_1_method_39_code (7 : Nat) (Option.some Jvm.ClassFile.FieldType.double)) ∈ TBL := tk_5 (List.mem_of_getElem? (i := 86) rfl) rfl
theorem w_1054 : (Jvm.Cond.codeWith ({ cls := "EchoPantryLaw", name := "shelfByHits", desc := "(LEchoPantry;I[J)I" } : Jvm.MethodName) method_36_code (4 : Nat) (Option.some Jvm.ClassFile.FieldType.int) [((0 : Nat), (9 : Nat), (12 : Nat), (21 : Nat))]) ∈ TBL := tk_5 (List.mem_of_getElem? (i := 94) rfl) rfl
theorem w_1055 : (Jvm.Cond.methodLink "EchoPantryLaw" (132 : Nat) ({ cls := "EchoPantry", name := "shelfByHits", desc := "(I)I" } : Jvm.MethodName)) ∈ TBL := tk_5 (List.mem_of_getElem? (i := 95) rfl) rfl
theorem w_1056 : (Jvm.Cond.instanceMethod ({ cls := "EchoPantry", name := "shelfByHits", desc := "(I)I" } : Jvm.MethodName)) ∈ TBL := tk_5 (List.mem_of_getElem? (i := 96) rfl) rfl
theorem w_1057 : (Jvm.Cond.selects "EchoPantry" ({ cls := "EchoPantry", name := "shelfByHits", desc := "(I)I" } : Jvm.MethodName) ({ cls := "EchoPantry", name := "shelfByHits", desc := "(I)I" } : Jvm.MethodName)) ∈ TBL := tk_5 (List.mem_of_getElem? (i := 97) rfl) rfl
theorem w_1058 : (Jvm.Cond.code ({ cls := "EchoPantry", name := "shelfByHits", desc := "(I)I" } : Jvm.MethodName) prog_1_method_40_code (3 : Nat) (Option.some Jvm.ClassFile.FieldType.int)) ∈ TBL := tk_5 (List.mem_of_getElem? (i := 98) rfl) rfl
theorem w_1066 : (Jvm.Cond.codeWith ({ cls := "EchoPantryLaw", name := "writeShelf", desc := "(LEchoPantry;I[J)I" } : Jvm.MethodName) method_37_code (4 : Nat) (Option.some Jvm.ClassFile.FieldType.int) [((0 : Nat), (9 : Nat), (12 : Nat), (30 : Nat))]) ∈ TBL := tk_5 (List.mem_of_getElem? (i := 106) rfl) rfl
theorem w_1067 : (Jvm.Cond.methodLink "EchoPantryLaw" (135 : Nat) ({ cls := "EchoPantry", name := "writeShelf", desc := "(I)I" } : Jvm.MethodName)) ∈ TBL := tk_5 (List.mem_of_getElem? (i := 107) rfl) rfl
theorem w_1068 : (Jvm.Cond.instanceMethod ({ cls := "EchoPantry", name := "writeShelf", desc := "(I)I" } : Jvm.MethodName)) ∈ TBL := tk_5 (List.mem_of_getElem? (i := 108) rfl) rfl
theorem w_1069 : (Jvm.Cond.selects "EchoPantry" ({ cls := "EchoPantry", name := "writeShelf", desc := "(I)I" } : Jvm.MethodName) ({ cls := "EchoPantry", name := "writeShelf", desc := "(I)I" } : Jvm.MethodName)) ∈ TBL := tk_5 (List.mem_of_getElem? (i := 109) rfl) rfl
theorem w_1070 : (Jvm.Cond.code ({ cls := "EchoPantry", name := "writeShelf", desc := "(I)I" } : Jvm.MethodName) prog_1_method_41_code (5 : Nat) (Option.some Jvm.ClassFile.FieldType.int)) ∈ TBL := tk_5 (List.mem_of_getElem? (i := 110) rfl) rfl
theorem w_1358 : (Jvm.Cond.codeWith ({ cls := "EchoPantryLaw", name := "lineAt", desc := "(LEchoPantry;I[J)I" } : Jvm.MethodName) method_38_code (4 : Nat) (Option.some Jvm.ClassFile.FieldType.int) [((0 : Nat), (9 : Nat), (12 : Nat), (30 : Nat))]) ∈ TBL := tk_6 (List.mem_of_getElem? (i := 158) rfl) rfl
theorem w_1359 : (Jvm.Cond.methodLink "EchoPantryLaw" (138 : Nat) ({ cls := "EchoPantry", name := "lineAt", desc := "(I)C" } : Jvm.MethodName)) ∈ TBL := tk_6 (List.mem_of_getElem? (i := 159) rfl) rfl
theorem w_1360 : (Jvm.Cond.instanceMethod ({ cls := "EchoPantry", name := "lineAt", desc := "(I)C" } : Jvm.MethodName)) ∈ TBL := tk_6 (List.mem_of_getElem? (i := 160) rfl) rfl
theorem w_1361 : (Jvm.Cond.selects "EchoPantry" ({ cls := "EchoPantry", name := "lineAt", desc := "(I)C" } : Jvm.MethodName) ({ cls := "EchoPantry", name := "lineAt", desc := "(I)C" } : Jvm.MethodName)) ∈ TBL := tk_6 (List.mem_of_getElem? (i := 161) rfl) rfl
theorem w_1362 : (Jvm.Cond.code ({ cls := "EchoPantry", name := "lineAt", desc := "(I)C" } : Jvm.MethodName) prog_1_method_42_code (2 : Nat) (Option.some Jvm.ClassFile.FieldType.char)) ∈ TBL := tk_6 (List.mem_of_getElem? (i := 162) rfl) rfl
theorem w_1376 : (Jvm.Cond.codeWith ({ cls := "EchoPantryLaw", name := "type", desc := "(LEchoPantry;C[J)I" } : Jvm.MethodName) method_39_code (4 : Nat) (Option.some Jvm.ClassFile.FieldType.int) [((0 : Nat), (9 : Nat), (12 : Nat), (13 : Nat)), ((0 : Nat), (9 : Nat), (15 : Nat), (15 : Nat))]) ∈ TBL := tk_6 (List.mem_of_getElem? (i := 176) rfl) rfl
theorem w_1377 : (Jvm.Cond.methodLink "EchoPantryLaw" (141 : Nat) ({ cls := "EchoPantry", name := "type", desc := "(C)I" } : Jvm.MethodName)) ∈ TBL := tk_6 (List.mem_of_getElem? (i := 177) rfl) rfl
theorem w_1378 : (Jvm.Cond.instanceMethod ({ cls := "EchoPantry", name := "type", desc := "(C)I" } : Jvm.MethodName)) ∈ TBL := tk_6 (List.mem_of_getElem? (i := 178) rfl) rfl
theorem w_1379 : (Jvm.Cond.selects "EchoPantry" ({ cls := "EchoPantry", name := "type", desc := "(C)I" } : Jvm.MethodName) ({ cls := "EchoPantry", name := "type", desc := "(C)I" } : Jvm.MethodName)) ∈ TBL := tk_6 (List.mem_of_getElem? (i := 179) rfl) rfl
theorem w_1380 : (Jvm.Cond.code ({ cls := "EchoPantry", name := "type", desc := "(C)I" } : Jvm.MethodName) prog_1_method_44_code (2 : Nat) (Option.some Jvm.ClassFile.FieldType.int)) ∈ TBL := tk_6 (List.mem_of_getElem? (i := 180) rfl) rfl
theorem w_1389 : (Jvm.Cond.codeWith ({ cls := "EchoPantryLaw", name := "execute", desc := "(LEchoPantry;[J)I" } : Jvm.MethodName) method_40_code (3 : Nat) (Option.some Jvm.ClassFile.FieldType.int) [((0 : Nat), (8 : Nat), (11 : Nat), (13 : Nat)), ((0 : Nat), (8 : Nat), (14 : Nat), (15 : Nat))]) ∈ TBL := tk_6 (List.mem_of_getElem? (i := 189) rfl) rfl
theorem w_1390 : (Jvm.Cond.methodLink "EchoPantryLaw" (144 : Nat) ({ cls := "EchoPantry", name := "execute", desc := "()I" } : Jvm.MethodName)) ∈ TBL := tk_6 (List.mem_of_getElem? (i := 190) rfl) rfl
theorem w_1391 : (Jvm.Cond.instanceMethod ({ cls := "EchoPantry", name := "execute", desc := "()I" } : Jvm.MethodName)) ∈ TBL := tk_6 (List.mem_of_getElem? (i := 191) rfl) rfl
theorem w_1392 : (Jvm.Cond.selects "EchoPantry" ({ cls := "EchoPantry", name := "execute", desc := "()I" } : Jvm.MethodName) ({ cls := "EchoPantry", name := "execute", desc := "()I" } : Jvm.MethodName)) ∈ TBL := tk_6 (List.mem_of_getElem? (i := 192) rfl) rfl
theorem w_1393 : (Jvm.Cond.code ({ cls := "EchoPantry", name := "execute", desc := "()I" } : Jvm.MethodName) prog_1_method_45_code (4 : Nat) (Option.some Jvm.ClassFile.FieldType.int)) ∈ TBL := tk_6 (List.mem_of_getElem? (i := 193) rfl) rfl
theorem w_1496 : (Jvm.Cond.codeWith ({ cls := "EchoPantryLaw", name := "errorPosition", desc := "(LEchoPantry;[J)I" } : Jvm.MethodName) method_41_code (3 : Nat) (Option.some Jvm.ClassFile.FieldType.int) [((0 : Nat), (8 : Nat), (11 : Nat), (21 : Nat))]) ∈ TBL := tk_7 (List.mem_of_getElem? (i := 56) rfl) rfl
theorem w_1497 : (Jvm.Cond.methodLink "EchoPantryLaw" (148 : Nat) ({ cls := "EchoPantry", name := "errorPosition", desc := "()I" } : Jvm.MethodName)) ∈ TBL := tk_7 (List.mem_of_getElem? (i := 57) rfl) rfl
theorem w_1498 : (Jvm.Cond.instanceMethod ({ cls := "EchoPantry", name := "errorPosition", desc := "()I" } : Jvm.MethodName)) ∈ TBL := tk_7 (List.mem_of_getElem? (i := 58) rfl) rfl
theorem w_1499 : (Jvm.Cond.selects "EchoPantry" ({ cls := "EchoPantry", name := "errorPosition", desc := "()I" } : Jvm.MethodName) ({ cls := "EchoPantry", name := "errorPosition", desc := "()I" } : Jvm.MethodName)) ∈ TBL := tk_7 (List.mem_of_getElem? (i := 59) rfl) rfl
theorem w_1500 : (Jvm.Cond.code ({ cls := "EchoPantry", name := "errorPosition", desc := "()I" } : Jvm.MethodName) prog_1_method_46_code (1 : Nat) (Option.some Jvm.ClassFile.FieldType.int)) ∈ TBL := tk_7 (List.mem_of_getElem? (i := 60) rfl) rfl
theorem w_1504 : (Jvm.Cond.codeWith ({ cls := "EchoPantryLaw", name := "failedCommand", desc := "(LEchoPantry;[J)I" } : Jvm.MethodName) method_42_code (3 : Nat) (Option.some Jvm.ClassFile.FieldType.int) [((0 : Nat), (8 : Nat), (11 : Nat), (21 : Nat))]) ∈ TBL := tk_7 (List.mem_of_getElem? (i := 64) rfl) rfl
theorem w_1505 : (Jvm.Cond.methodLink "EchoPantryLaw" (151 : Nat) ({ cls := "EchoPantry", name := "failedCommand", desc := "()I" } : Jvm.MethodName)) ∈ TBL := tk_7 (List.mem_of_getElem? (i := 65) rfl) rfl
theorem w_1506 : (Jvm.Cond.instanceMethod ({ cls := "EchoPantry", name := "failedCommand", desc := "()I" } : Jvm.MethodName)) ∈ TBL := tk_7 (List.mem_of_getElem? (i := 66) rfl) rfl
theorem w_1507 : (Jvm.Cond.selects "EchoPantry" ({ cls := "EchoPantry", name := "failedCommand", desc := "()I" } : Jvm.MethodName) ({ cls := "EchoPantry", name := "failedCommand", desc := "()I" } : Jvm.MethodName)) ∈ TBL := tk_7 (List.mem_of_getElem? (i := 67) rfl) rfl
theorem w_1508 : (Jvm.Cond.code ({ cls := "EchoPantry", name := "failedCommand", desc := "()I" } : Jvm.MethodName) prog_1_method_47_code (1 : Nat) (Option.some Jvm.ClassFile.FieldType.int)) ∈ TBL := tk_7 (List.mem_of_getElem? (i := 68) rfl) rfl
theorem w_1512 : (Jvm.Cond.codeWith ({ cls := "EchoPantryLaw", name := "undo", desc := "(LEchoPantry;[J)I" } : Jvm.MethodName) method_43_code (3 : Nat) (Option.some Jvm.ClassFile.FieldType.int) [((0 : Nat), (8 : Nat), (11 : Nat), (15 : Nat))]) ∈ TBL := tk_7 (List.mem_of_getElem? (i := 72) rfl) rfl
theorem w_1513 : (Jvm.Cond.methodLink "EchoPantryLaw" (154 : Nat) ({ cls := "EchoPantry", name := "undo", desc := "()I" } : Jvm.MethodName)) ∈ TBL := tk_7 (List.mem_of_getElem? (i := 73) rfl) rfl
theorem w_1514 : (Jvm.Cond.instanceMethod ({ cls := "EchoPantry", name := "undo", desc := "()I" } : Jvm.MethodName)) ∈ TBL := tk_7 (List.mem_of_getElem? (i := 74) rfl) rfl
theorem w_1515 : (Jvm.Cond.selects "EchoPantry" ({ cls := "EchoPantry", name := "undo", desc := "()I" } : Jvm.MethodName) ({ cls := "EchoPantry", name := "undo", desc := "()I" } : Jvm.MethodName)) ∈ TBL := tk_7 (List.mem_of_getElem? (i := 75) rfl) rfl
theorem w_1516 : (Jvm.Cond.code ({ cls := "EchoPantry", name := "undo", desc := "()I" } : Jvm.MethodName) prog_1_method_48_code (1 : Nat) (Option.some Jvm.ClassFile.FieldType.int)) ∈ TBL := tk_7 (List.mem_of_getElem? (i := 76) rfl) rfl
theorem w_1525 : (Jvm.Cond.codeWith ({ cls := "EchoPantryLaw", name := "restore", desc := "(LEchoPantry;[J)I" } : Jvm.MethodName) method_44_code (3 : Nat) (Option.some Jvm.ClassFile.FieldType.int) [((0 : Nat), (8 : Nat), (11 : Nat), (15 : Nat))]) ∈ TBL := tk_7 (List.mem_of_getElem? (i := 85) rfl) rfl
theorem w_1526 : (Jvm.Cond.methodLink "EchoPantryLaw" (157 : Nat) ({ cls := "EchoPantry", name := "restore", desc := "()I" } : Jvm.MethodName)) ∈ TBL := tk_7 (List.mem_of_getElem? (i := 86) rfl) rfl
theorem w_1527 : (Jvm.Cond.instanceMethod ({ cls := "EchoPantry", name := "restore", desc := "()I" } : Jvm.MethodName)) ∈ TBL := tk_7 (List.mem_of_getElem? (i := 87) rfl) rfl
theorem w_1528 : (Jvm.Cond.selects "EchoPantry" ({ cls := "EchoPantry", name := "restore", desc := "()I" } : Jvm.MethodName) ({ cls := "EchoPantry", name := "restore", desc := "()I" } : Jvm.MethodName)) ∈ TBL := tk_7 (List.mem_of_getElem? (i := 88) rfl) rfl
theorem w_1529 : (Jvm.Cond.code ({ cls := "EchoPantry", name := "restore", desc := "()I" } : Jvm.MethodName) prog_1_method_50_code (1 : Nat) (Option.some Jvm.ClassFile.FieldType.int)) ∈ TBL := tk_7 (List.mem_of_getElem? (i := 89) rfl) rfl
theorem gL_7 : yOk RL 7 2 mX8_addJar := ⟨w_460, w_463, w_1, ⟨by decide, by decide⟩, by decide +kernel⟩
theorem gL_17 : yOk RL 17 1 mX8_removeJar := ⟨w_623, w_626, w_1, ⟨by decide, by decide⟩, by decide +kernel⟩
theorem gL_23 : yOk RL 23 2 mX8_say := ⟨w_650, w_653, w_1, ⟨by decide, by decide⟩, by decide +kernel⟩
theorem gL_26 : yOk RL 26 1 mX8_jarAt := ⟨w_691, w_694, w_1, ⟨by decide, by decide⟩, by decide +kernel⟩
theorem gL_32 : yOk RL 32 1 mX8_wordOf := ⟨w_703, w_706, w_1, ⟨by decide, by decide⟩, by decide +kernel⟩
theorem gL_35 : yOk RL 35 3 mX8_addShelf := ⟨w_715, w_718, w_1, ⟨by decide, by decide⟩, by decide +kernel⟩
theorem gL_39 : yOk RL 39 2 mX8_setListening := ⟨w_735, w_738, w_1, ⟨by decide, by decide⟩, by decide +kernel⟩
theorem gL_43 : yOk RL 43 1 mX8_capacityOf := ⟨w_750, w_753, w_1, ⟨by decide, by decide⟩, by decide +kernel⟩
theorem gL_47 : yOk RL 47 1 mX8_lifetimeOf := ⟨w_757, w_760, w_1, ⟨by decide, by decide⟩, by decide +kernel⟩
theorem gL_50 : yOk RL 50 1 mX8_policyOf := ⟨w_764, w_767, w_1, ⟨by decide, by decide⟩, by decide +kernel⟩
theorem gL_53 : yOk RL 53 1 mX8_isListening := ⟨w_771, w_774, w_1, ⟨by decide, by decide⟩, by decide +kernel⟩
theorem gL_57 : yOk RL 57 1 mX8_echoCount := ⟨w_778, w_781, w_1, ⟨by decide, by decide⟩, by decide +kernel⟩
theorem gL_60 : yOk RL 60 2 mX8_echoAt := ⟨w_785, w_788, w_1, ⟨by decide, by decide⟩, by decide +kernel⟩
theorem gL_64 : yOk RL 64 2 mX8_hasEcho := ⟨w_797, w_800, w_1, ⟨by decide, by decide⟩, by decide +kernel⟩
theorem gL_68 : yOk RL 68 2 mX8_echoOf := ⟨w_805, w_808, w_1, ⟨by decide, by decide⟩, by decide +kernel⟩
theorem gL_72 : yOk RL 72 2 mX8_ageOf := ⟨w_817, w_820, w_1, ⟨by decide, by decide⟩, by decide +kernel⟩
theorem gL_75 : yOk RL 75 2 mX8_hitsOf := ⟨w_828, w_831, w_1, ⟨by decide, by decide⟩, by decide +kernel⟩
theorem gL_78 : yOk RL 78 2 mX8_isExpired := ⟨w_835, w_838, w_1, ⟨by decide, by decide⟩, by decide +kernel⟩
theorem gL_81 : yOk RL 81 2 mX8_isOpen := ⟨w_847, w_850, w_1, ⟨by decide, by decide⟩, by decide +kernel⟩
theorem gL_84 : yOk RL 84 2 mX8_isTrue := ⟨w_854, w_857, w_1, ⟨by decide, by decide⟩, by decide +kernel⟩
theorem gL_87 : yOk RL 87 2 mX8_isTrueBySteps := ⟨w_862, w_865, w_1, ⟨by decide, by decide⟩, by decide +kernel⟩
theorem gL_90 : yOk RL 90 1 mX8_victimOf := ⟨w_870, w_873, w_1, ⟨by decide, by decide⟩, by decide +kernel⟩
theorem gL_93 : yOk RL 93 1 mX8_victimByScan := ⟨w_878, w_881, w_1, ⟨by decide, by decide⟩, by decide +kernel⟩
theorem gL_96 : yOk RL 96 2 mX8_hear := ⟨w_885, w_888, w_1, ⟨by decide, by decide⟩, by decide +kernel⟩
theorem gL_99 : yOk RL 99 2 mX8_outcomeOf := ⟨w_929, w_932, w_1, ⟨by decide, by decide⟩, by decide +kernel⟩
theorem gL_103 : yOk RL 103 3 mX8_warm := ⟨w_937, w_940, w_1, ⟨by decide, by decide⟩, by decide +kernel⟩
theorem gL_107 : yOk RL 107 1 mX8_cancelWarming := ⟨w_962, w_965, w_1, ⟨by decide, by decide⟩, by decide +kernel⟩
theorem gL_110 : yOk RL 110 1 mX8_pass := ⟨w_982, w_985, w_1, ⟨by decide, by decide⟩, by decide +kernel⟩
theorem gL_113 : yOk RL 113 1 mX8_warmingMinute := ⟨w_997, w_1000, w_1, ⟨by decide, by decide⟩, by decide +kernel⟩
theorem gL_116 : yOk RL 116 1 mX8_warmingJar := ⟨w_1004, w_1007, w_1, ⟨by decide, by decide⟩, by decide +kernel⟩
theorem gL_119 : yOk RL 119 1 mX8_misses := ⟨w_1011, w_1014, w_1, ⟨by decide, by decide⟩, by decide +kernel⟩
theorem gL_122 : yOk RL 122 0 mX8_hitShare := ⟨w_1033, w_1036, w_1, ⟨by decide, by decide⟩, by decide +kernel⟩
theorem gL_128 : yOk RL 128 0 mX8_meanAge := ⟨w_1043, w_1046, w_1, ⟨by decide, by decide⟩, by decide +kernel⟩
theorem gL_132 : yOk RL 132 1 mX8_shelfByHits := ⟨w_1055, w_1058, w_1, ⟨by decide, by decide⟩, by decide +kernel⟩
theorem gL_135 : yOk RL 135 1 mX8_writeShelf := ⟨w_1067, w_1070, w_1, ⟨by decide, by decide⟩, by decide +kernel⟩
theorem gL_138 : yOk RL 138 1 mX8_lineAt := ⟨w_1359, w_1362, w_1, ⟨by decide, by decide⟩, by decide +kernel⟩
theorem gL_141 : yOk RL 141 1 mX8_type := ⟨w_1377, w_1380, w_1, ⟨by decide, by decide⟩, by decide +kernel⟩
theorem gL_144 : yOk RL 144 0 mX8_execute := ⟨w_1390, w_1393, w_1, ⟨by decide, by decide⟩, by decide +kernel⟩
theorem gL_148 : yOk RL 148 0 mX8_errorPosition := ⟨w_1497, w_1500, w_1, ⟨by decide, by decide⟩, by decide +kernel⟩
theorem gL_151 : yOk RL 151 0 mX8_failedCommand := ⟨w_1505, w_1508, w_1, ⟨by decide, by decide⟩, by decide +kernel⟩
theorem gL_154 : yOk RL 154 0 mX8_undo := ⟨w_1513, w_1516, w_1, ⟨by decide, by decide⟩, by decide +kernel⟩
theorem gL_157 : yOk RL 157 0 mX8_restore := ⟨w_1526, w_1529, w_1, ⟨by decide, by decide⟩, by decide +kernel⟩
theorem ca_IAE : Cond.castable "java/lang/IllegalArgumentException" "java/lang/IllegalArgumentException" ∈ lw_tbl := List.mem_of_getElem? (i := 606) (by decide +kernel)
theorem ca_ISE : Cond.castable "java/lang/IllegalStateException" "java/lang/IllegalStateException" ∈ lw_tbl := List.mem_of_getElem? (i := 622) (by decide +kernel)
theorem ca_IOB : Cond.castable "java/lang/IndexOutOfBoundsException" "java/lang/IndexOutOfBoundsException" ∈ lw_tbl := List.mem_of_getElem? (i := 519) (by decide +kernel)
theorem ca_NSE : Cond.castable "java/util/NoSuchElementException" "java/util/NoSuchElementException" ∈ lw_tbl := List.mem_of_getElem? (i := 590) (by decide +kernel)
theorem ca_ARI : Cond.castable "java/lang/ArithmeticException" "java/lang/ArithmeticException" ∈ lw_tbl := List.mem_of_getElem? (i := 1076) (by decide +kernel)
/-- a helper's end: 0 and the answer laid down, or the number of what was thrown -/
def HL (K : Int32 → Mm → Prop) (o : Nat) (es : List String) : RES → Mm → Prop := fun r t => match r with
  | .inl v => ∃ z : Int32, v = some (vI z) ∧ mt t o = (51, 1) ∧ K 0 (sl t o 0 z.toInt64)
  | .inr E => ∃ i, es[i]? = some E ∧ K (nI (i + 1)) t
def HLB (K : Int32 → Mm → Prop) (o : Nat) (es : List String) : RES → Mm → Prop := fun r t => match r with
  | .inl v => ∃ z : Int32, v = some (vI z) ∧ mt t o = (51, 1) ∧ K 0 (sl t o 0 (if z = 0 then 0 else 1))
  | .inr E => ∃ i, es[i]? = some E ∧ K (nI (i + 1)) t
def HLF (K : Int32 → Mm → Prop) (o : Nat) (es : List String) : RES → Mm → Prop := fun r t => match r with
  | .inl v => ∃ z : UInt32, v = some (vF z) ∧ vf_n64 (FP.f2d z) ∧ mt t o = (52, 1) ∧ K 0 (sd t o 0 (FP.f2d z))
  | .inr E => ∃ i, es[i]? = some E ∧ K (nI (i + 1)) t
def HLD (K : Int32 → Mm → Prop) (o : Nat) (es : List String) : RES → Mm → Prop := fun r t => match r with
  | .inl v => ∃ z : UInt64, v = some (vD z) ∧ mt t o = (52, 1) ∧ K 0 (sd t o 0 z)
  | .inr E => ∃ i, es[i]? = some E ∧ K (nI (i + 1)) t
def HR (K : Int32 → Mm → Prop) : RES → Mm → Prop := fun r t => ∃ z : Int32, r = .inl (some (vI z)) ∧ K z t
theorem vin1 : vp_in 0 1 := by unfold vp_in; decide
def mL_addJar : SIG := (yL_addJar, cL_addJar, 5, some .int)
def hL_addJar : List (Nat × Nat × Nat × Nat) := [(0, 10, 13, 13), (0, 10, 17, 15)]
def rL_addJar : Room := { frames := 8, cells := 1, slots := 6, locals := 129 }
def mL_removeJar : SIG := (yL_removeJar, cL_removeJar, 4, some .int)
def hL_removeJar : List (Nat × Nat × Nat × Nat) := [(0, 9, 12, 21)]
def rL_removeJar : Room := { frames := 8, cells := 1, slots := 6, locals := 128 }
def mL_say : SIG := (yL_say, cL_say, 5, some .int)
def hL_say : List (Nat × Nat × Nat × Nat) := [(0, 10, 13, 21), (0, 10, 17, 13)]
def rL_say : Room := { frames := 8, cells := 1, slots := 6, locals := 129 }
def mL_jarAt : SIG := (yL_jarAt, cL_jarAt, 4, some .int)
def hL_jarAt : List (Nat × Nat × Nat × Nat) := [(0, 9, 12, 30)]
def rL_jarAt : Room := { frames := 7, cells := 1, slots := 6, locals := 104 }
def mL_wordOf : SIG := (yL_wordOf, cL_wordOf, 4, some .int)
def hL_wordOf : List (Nat × Nat × Nat × Nat) := [(0, 9, 12, 21)]
def rL_wordOf : Room := { frames := 8, cells := 1, slots := 6, locals := 125 }
def mL_addShelf : SIG := (yL_addShelf, cL_addShelf, 6, some .int)
def hL_addShelf : List (Nat × Nat × Nat × Nat) := [(0, 12, 15, 13), (0, 12, 19, 15)]
def rL_addShelf : Room := { frames := 8, cells := 1, slots := 6, locals := 130 }
def mL_setListening : SIG := (yL_setListening, cL_setListening, 5, some .int)
def hL_setListening : List (Nat × Nat × Nat × Nat) := [(0, 17, 20, 30)]
def rL_setListening : Room := { frames := 8, cells := 1, slots := 6, locals := 131 }
def mL_capacityOf : SIG := (yL_capacityOf, cL_capacityOf, 4, some .int)
def hL_capacityOf : List (Nat × Nat × Nat × Nat) := [(0, 9, 12, 30)]
def rL_capacityOf : Room := { frames := 8, cells := 1, slots := 6, locals := 125 }
def mL_lifetimeOf : SIG := (yL_lifetimeOf, cL_lifetimeOf, 4, some .int)
def hL_lifetimeOf : List (Nat × Nat × Nat × Nat) := [(0, 9, 12, 30)]
def rL_lifetimeOf : Room := { frames := 8, cells := 1, slots := 6, locals := 125 }
def mL_policyOf : SIG := (yL_policyOf, cL_policyOf, 4, some .int)
def hL_policyOf : List (Nat × Nat × Nat × Nat) := [(0, 9, 12, 30)]
def rL_policyOf : Room := { frames := 8, cells := 1, slots := 6, locals := 125 }
def mL_isListening : SIG := (yL_isListening, cL_isListening, 4, some .int)
def hL_isListening : List (Nat × Nat × Nat × Nat) := [(0, 16, 19, 30)]
def rL_isListening : Room := { frames := 8, cells := 1, slots := 6, locals := 125 }
def mL_echoCount : SIG := (yL_echoCount, cL_echoCount, 4, some .int)
def hL_echoCount : List (Nat × Nat × Nat × Nat) := [(0, 9, 12, 30)]
def rL_echoCount : Room := { frames := 8, cells := 1, slots := 6, locals := 125 }
def mL_echoAt : SIG := (yL_echoAt, cL_echoAt, 5, some .int)
def hL_echoAt : List (Nat × Nat × Nat × Nat) := [(0, 10, 13, 30), (0, 10, 17, 21)]
def rL_echoAt : Room := { frames := 8, cells := 2, slots := 12, locals := 127 }
def mL_hasEcho : SIG := (yL_hasEcho, cL_hasEcho, 5, some .int)
def hL_hasEcho : List (Nat × Nat × Nat × Nat) := [(0, 17, 20, 30)]
def rL_hasEcho : Room := { frames := 8, cells := 1, slots := 6, locals := 126 }
def mL_echoOf : SIG := (yL_echoOf, cL_echoOf, 5, some .int)
def hL_echoOf : List (Nat × Nat × Nat × Nat) := [(0, 10, 13, 30), (0, 10, 17, 21)]
def rL_echoOf : Room := { frames := 9, cells := 2, slots := 12, locals := 149 }
def mL_ageOf : SIG := (yL_ageOf, cL_ageOf, 5, some .int)
def hL_ageOf : List (Nat × Nat × Nat × Nat) := [(0, 10, 13, 30), (0, 10, 17, 21)]
def rL_ageOf : Room := { frames := 9, cells := 2, slots := 12, locals := 149 }
def mL_hitsOf : SIG := (yL_hitsOf, cL_hitsOf, 5, some .int)
def hL_hitsOf : List (Nat × Nat × Nat × Nat) := [(0, 10, 13, 30), (0, 10, 17, 21)]
def rL_hitsOf : Room := { frames := 9, cells := 2, slots := 12, locals := 149 }
def mL_isExpired : SIG := (yL_isExpired, cL_isExpired, 5, some .int)
def hL_isExpired : List (Nat × Nat × Nat × Nat) := [(0, 17, 20, 30), (0, 17, 24, 21)]
def rL_isExpired : Room := { frames := 9, cells := 3, slots := 18, locals := 150 }
def mL_isOpen : SIG := (yL_isOpen, cL_isOpen, 5, some .int)
def hL_isOpen : List (Nat × Nat × Nat × Nat) := [(0, 17, 20, 30), (0, 17, 24, 21)]
def rL_isOpen : Room := { frames := 9, cells := 2, slots := 12, locals := 149 }
def mL_isTrue : SIG := (yL_isTrue, cL_isTrue, 5, some .int)
def hL_isTrue : List (Nat × Nat × Nat × Nat) := [(0, 17, 20, 30), (0, 17, 24, 21)]
def rL_isTrue : Room := { frames := 9, cells := 2, slots := 12, locals := 149 }
def mL_isTrueBySteps : SIG := (yL_isTrueBySteps, cL_isTrueBySteps, 5, some .int)
def hL_isTrueBySteps : List (Nat × Nat × Nat × Nat) := [(0, 17, 20, 30), (0, 17, 24, 21)]
def rL_isTrueBySteps : Room := { frames := 9, cells := 2, slots := 12, locals := 149 }
def mL_victimOf : SIG := (yL_victimOf, cL_victimOf, 4, some .int)
def hL_victimOf : List (Nat × Nat × Nat × Nat) := [(0, 9, 12, 30), (0, 9, 15, 21)]
def rL_victimOf : Room := { frames := 8, cells := 2, slots := 12, locals := 126 }
def mL_victimByScan : SIG := (yL_victimByScan, cL_victimByScan, 4, some .int)
def hL_victimByScan : List (Nat × Nat × Nat × Nat) := [(0, 9, 12, 30), (0, 9, 15, 21)]
def rL_victimByScan : Room := { frames := 8, cells := 2, slots := 12, locals := 126 }
def mL_hear : SIG := (yL_hear, cL_hear, 5, some .int)
def hL_hear : List (Nat × Nat × Nat × Nat) := [(0, 10, 13, 30), (0, 10, 17, 21)]
def rL_hear : Room := { frames := 8, cells := 1, slots := 6, locals := 148 }
def mL_outcomeOf : SIG := (yL_outcomeOf, cL_outcomeOf, 5, some .int)
def hL_outcomeOf : List (Nat × Nat × Nat × Nat) := [(0, 10, 13, 30), (0, 10, 17, 21)]
def rL_outcomeOf : Room := { frames := 8, cells := 2, slots := 12, locals := 126 }
def mL_warm : SIG := (yL_warm, cL_warm, 6, some .int)
def hL_warm : List (Nat × Nat × Nat × Nat) := [(0, 12, 15, 30), (0, 12, 19, 21), (0, 12, 23, 13), (0, 12, 27, 15)]
def rL_warm : Room := { frames := 8, cells := 1, slots := 6, locals := 134 }
def mL_cancelWarming : SIG := (yL_cancelWarming, cL_cancelWarming, 4, some .int)
def hL_cancelWarming : List (Nat × Nat × Nat × Nat) := [(0, 9, 12, 30)]
def rL_cancelWarming : Room := { frames := 8, cells := 1, slots := 6, locals := 129 }
def mL_pass : SIG := (yL_pass, cL_pass, 4, some .int)
def hL_pass : List (Nat × Nat × Nat × Nat) := [(0, 9, 12, 13)]
def rL_pass : Room := { frames := 8, cells := 1, slots := 6, locals := 147 }
def mL_warmingMinute : SIG := (yL_warmingMinute, cL_warmingMinute, 4, some .int)
def hL_warmingMinute : List (Nat × Nat × Nat × Nat) := [(0, 9, 12, 30)]
def rL_warmingMinute : Room := { frames := 8, cells := 1, slots := 6, locals := 125 }
def mL_warmingJar : SIG := (yL_warmingJar, cL_warmingJar, 4, some .int)
def hL_warmingJar : List (Nat × Nat × Nat × Nat) := [(0, 9, 12, 30)]
def rL_warmingJar : Room := { frames := 8, cells := 1, slots := 6, locals := 125 }
def mL_misses : SIG := (yL_misses, cL_misses, 4, some .int)
def hL_misses : List (Nat × Nat × Nat × Nat) := [(0, 9, 12, 13)]
def rL_misses : Room := { frames := 7, cells := 1, slots := 6, locals := 103 }
def mL_hitShare : SIG := (yL_hitShare, cL_hitShare, 3, some .int)
def hL_hitShare : List (Nat × Nat × Nat × Nat) := [(0, 8, 11, 126)]
def rL_hitShare : Room := { frames := 7, cells := 1, slots := 6, locals := 103 }
def mL_meanAge : SIG := (yL_meanAge, cL_meanAge, 3, some .int)
def hL_meanAge : List (Nat × Nat × Nat × Nat) := [(0, 7, 10, 126)]
def rL_meanAge : Room := { frames := 7, cells := 1, slots := 6, locals := 108 }
def mL_shelfByHits : SIG := (yL_shelfByHits, cL_shelfByHits, 4, some .int)
def hL_shelfByHits : List (Nat × Nat × Nat × Nat) := [(0, 9, 12, 21)]
def rL_shelfByHits : Room := { frames := 7, cells := 1, slots := 6, locals := 104 }
def mL_writeShelf : SIG := (yL_writeShelf, cL_writeShelf, 4, some .int)
def hL_writeShelf : List (Nat × Nat × Nat × Nat) := [(0, 9, 12, 30)]
def rL_writeShelf : Room := { frames := 17, cells := 31, slots := 4206, locals := 767 }
def mL_lineAt : SIG := (yL_lineAt, cL_lineAt, 4, some .int)
def hL_lineAt : List (Nat × Nat × Nat × Nat) := [(0, 9, 12, 30)]
def rL_lineAt : Room := { frames := 16, cells := 1, slots := 6, locals := 742 }
def mL_type : SIG := (yL_type, cL_type, 4, some .int)
def hL_type : List (Nat × Nat × Nat × Nat) := [(0, 9, 12, 13), (0, 9, 15, 15)]
def rL_type : Room := { frames := 7, cells := 1, slots := 6, locals := 103 }
def mL_execute : SIG := (yL_execute, cL_execute, 3, some .int)
def hL_execute : List (Nat × Nat × Nat × Nat) := [(0, 8, 11, 13), (0, 8, 14, 15)]
def rL_execute : Room := { frames := 10, cells := 1, slots := 6, locals := 222 }
def mL_errorPosition : SIG := (yL_errorPosition, cL_errorPosition, 3, some .int)
def hL_errorPosition : List (Nat × Nat × Nat × Nat) := [(0, 8, 11, 21)]
def rL_errorPosition : Room := { frames := 7, cells := 1, slots := 6, locals := 102 }
def mL_failedCommand : SIG := (yL_failedCommand, cL_failedCommand, 3, some .int)
def hL_failedCommand : List (Nat × Nat × Nat × Nat) := [(0, 8, 11, 21)]
def rL_failedCommand : Room := { frames := 7, cells := 1, slots := 6, locals := 102 }
def mL_undo : SIG := (yL_undo, cL_undo, 3, some .int)
def hL_undo : List (Nat × Nat × Nat × Nat) := [(0, 8, 11, 15)]
def rL_undo : Room := { frames := 7, cells := 1, slots := 6, locals := 127 }
def mL_restore : SIG := (yL_restore, cL_restore, 3, some .int)
def hL_restore : List (Nat × Nat × Nat × Nat) := [(0, 8, 11, 15)]
def rL_restore : Room := { frames := 7, cells := 1, slots := 6, locals := 102 }
theorem kL_addJar : ∀ own idx, Cond.methodLink own idx mL_addJar.1 ∈ TBL → yOkH own idx 4 mL_addJar hL_addJar := fun own idx h => ⟨h, w_457, w_0, ⟨by decide, by decide⟩, by decide +kernel⟩
theorem kL_removeJar : ∀ own idx, Cond.methodLink own idx mL_removeJar.1 ∈ TBL → yOkH own idx 3 mL_removeJar hL_removeJar := fun own idx h => ⟨h, w_621, w_0, ⟨by decide, by decide⟩, by decide +kernel⟩
theorem kL_say : ∀ own idx, Cond.methodLink own idx mL_say.1 ∈ TBL → yOkH own idx 4 mL_say hL_say := fun own idx h => ⟨h, w_649, w_0, ⟨by decide, by decide⟩, by decide +kernel⟩
theorem kL_jarAt : ∀ own idx, Cond.methodLink own idx mL_jarAt.1 ∈ TBL → yOkH own idx 3 mL_jarAt hL_jarAt := fun own idx h => ⟨h, w_669, w_0, ⟨by decide, by decide⟩, by decide +kernel⟩
theorem kL_wordOf : ∀ own idx, Cond.methodLink own idx mL_wordOf.1 ∈ TBL → yOkH own idx 3 mL_wordOf hL_wordOf := fun own idx h => ⟨h, w_702, w_0, ⟨by decide, by decide⟩, by decide +kernel⟩
theorem kL_addShelf : ∀ own idx, Cond.methodLink own idx mL_addShelf.1 ∈ TBL → yOkH own idx 5 mL_addShelf hL_addShelf := fun own idx h => ⟨h, w_714, w_0, ⟨by decide, by decide⟩, by decide +kernel⟩
theorem kL_setListening : ∀ own idx, Cond.methodLink own idx mL_setListening.1 ∈ TBL → yOkH own idx 4 mL_setListening hL_setListening := fun own idx h => ⟨h, w_734, w_0, ⟨by decide, by decide⟩, by decide +kernel⟩
theorem kL_capacityOf : ∀ own idx, Cond.methodLink own idx mL_capacityOf.1 ∈ TBL → yOkH own idx 3 mL_capacityOf hL_capacityOf := fun own idx h => ⟨h, w_749, w_0, ⟨by decide, by decide⟩, by decide +kernel⟩
theorem kL_lifetimeOf : ∀ own idx, Cond.methodLink own idx mL_lifetimeOf.1 ∈ TBL → yOkH own idx 3 mL_lifetimeOf hL_lifetimeOf := fun own idx h => ⟨h, w_756, w_0, ⟨by decide, by decide⟩, by decide +kernel⟩
theorem kL_policyOf : ∀ own idx, Cond.methodLink own idx mL_policyOf.1 ∈ TBL → yOkH own idx 3 mL_policyOf hL_policyOf := fun own idx h => ⟨h, w_763, w_0, ⟨by decide, by decide⟩, by decide +kernel⟩
theorem kL_isListening : ∀ own idx, Cond.methodLink own idx mL_isListening.1 ∈ TBL → yOkH own idx 3 mL_isListening hL_isListening := fun own idx h => ⟨h, w_770, w_0, ⟨by decide, by decide⟩, by decide +kernel⟩
theorem kL_echoCount : ∀ own idx, Cond.methodLink own idx mL_echoCount.1 ∈ TBL → yOkH own idx 3 mL_echoCount hL_echoCount := fun own idx h => ⟨h, w_777, w_0, ⟨by decide, by decide⟩, by decide +kernel⟩
theorem kL_echoAt : ∀ own idx, Cond.methodLink own idx mL_echoAt.1 ∈ TBL → yOkH own idx 4 mL_echoAt hL_echoAt := fun own idx h => ⟨h, w_784, w_0, ⟨by decide, by decide⟩, by decide +kernel⟩
theorem kL_hasEcho : ∀ own idx, Cond.methodLink own idx mL_hasEcho.1 ∈ TBL → yOkH own idx 4 mL_hasEcho hL_hasEcho := fun own idx h => ⟨h, w_796, w_0, ⟨by decide, by decide⟩, by decide +kernel⟩
theorem kL_echoOf : ∀ own idx, Cond.methodLink own idx mL_echoOf.1 ∈ TBL → yOkH own idx 4 mL_echoOf hL_echoOf := fun own idx h => ⟨h, w_804, w_0, ⟨by decide, by decide⟩, by decide +kernel⟩
theorem kL_ageOf : ∀ own idx, Cond.methodLink own idx mL_ageOf.1 ∈ TBL → yOkH own idx 4 mL_ageOf hL_ageOf := fun own idx h => ⟨h, w_816, w_0, ⟨by decide, by decide⟩, by decide +kernel⟩
theorem kL_hitsOf : ∀ own idx, Cond.methodLink own idx mL_hitsOf.1 ∈ TBL → yOkH own idx 4 mL_hitsOf hL_hitsOf := fun own idx h => ⟨h, w_827, w_0, ⟨by decide, by decide⟩, by decide +kernel⟩
theorem kL_isExpired : ∀ own idx, Cond.methodLink own idx mL_isExpired.1 ∈ TBL → yOkH own idx 4 mL_isExpired hL_isExpired := fun own idx h => ⟨h, w_834, w_0, ⟨by decide, by decide⟩, by decide +kernel⟩
theorem kL_isOpen : ∀ own idx, Cond.methodLink own idx mL_isOpen.1 ∈ TBL → yOkH own idx 4 mL_isOpen hL_isOpen := fun own idx h => ⟨h, w_846, w_0, ⟨by decide, by decide⟩, by decide +kernel⟩
theorem kL_isTrue : ∀ own idx, Cond.methodLink own idx mL_isTrue.1 ∈ TBL → yOkH own idx 4 mL_isTrue hL_isTrue := fun own idx h => ⟨h, w_853, w_0, ⟨by decide, by decide⟩, by decide +kernel⟩
theorem kL_isTrueBySteps : ∀ own idx, Cond.methodLink own idx mL_isTrueBySteps.1 ∈ TBL → yOkH own idx 4 mL_isTrueBySteps hL_isTrueBySteps := fun own idx h => ⟨h, w_861, w_0, ⟨by decide, by decide⟩, by decide +kernel⟩
theorem kL_victimOf : ∀ own idx, Cond.methodLink own idx mL_victimOf.1 ∈ TBL → yOkH own idx 3 mL_victimOf hL_victimOf := fun own idx h => ⟨h, w_869, w_0, ⟨by decide, by decide⟩, by decide +kernel⟩
theorem kL_victimByScan : ∀ own idx, Cond.methodLink own idx mL_victimByScan.1 ∈ TBL → yOkH own idx 3 mL_victimByScan hL_victimByScan := fun own idx h => ⟨h, w_877, w_0, ⟨by decide, by decide⟩, by decide +kernel⟩
theorem kL_hear : ∀ own idx, Cond.methodLink own idx mL_hear.1 ∈ TBL → yOkH own idx 4 mL_hear hL_hear := fun own idx h => ⟨h, w_884, w_0, ⟨by decide, by decide⟩, by decide +kernel⟩
theorem kL_outcomeOf : ∀ own idx, Cond.methodLink own idx mL_outcomeOf.1 ∈ TBL → yOkH own idx 4 mL_outcomeOf hL_outcomeOf := fun own idx h => ⟨h, w_928, w_0, ⟨by decide, by decide⟩, by decide +kernel⟩
theorem kL_warm : ∀ own idx, Cond.methodLink own idx mL_warm.1 ∈ TBL → yOkH own idx 5 mL_warm hL_warm := fun own idx h => ⟨h, w_936, w_0, ⟨by decide, by decide⟩, by decide +kernel⟩
theorem kL_cancelWarming : ∀ own idx, Cond.methodLink own idx mL_cancelWarming.1 ∈ TBL → yOkH own idx 3 mL_cancelWarming hL_cancelWarming := fun own idx h => ⟨h, w_961, w_0, ⟨by decide, by decide⟩, by decide +kernel⟩
theorem kL_pass : ∀ own idx, Cond.methodLink own idx mL_pass.1 ∈ TBL → yOkH own idx 3 mL_pass hL_pass := fun own idx h => ⟨h, w_981, w_0, ⟨by decide, by decide⟩, by decide +kernel⟩
theorem kL_warmingMinute : ∀ own idx, Cond.methodLink own idx mL_warmingMinute.1 ∈ TBL → yOkH own idx 3 mL_warmingMinute hL_warmingMinute := fun own idx h => ⟨h, w_996, w_0, ⟨by decide, by decide⟩, by decide +kernel⟩
theorem kL_warmingJar : ∀ own idx, Cond.methodLink own idx mL_warmingJar.1 ∈ TBL → yOkH own idx 3 mL_warmingJar hL_warmingJar := fun own idx h => ⟨h, w_1003, w_0, ⟨by decide, by decide⟩, by decide +kernel⟩
theorem kL_misses : ∀ own idx, Cond.methodLink own idx mL_misses.1 ∈ TBL → yOkH own idx 3 mL_misses hL_misses := fun own idx h => ⟨h, w_1010, w_0, ⟨by decide, by decide⟩, by decide +kernel⟩
theorem kL_hitShare : ∀ own idx, Cond.methodLink own idx mL_hitShare.1 ∈ TBL → yOkH own idx 2 mL_hitShare hL_hitShare := fun own idx h => ⟨h, w_1018, w_0, ⟨by decide, by decide⟩, by decide +kernel⟩
theorem kL_meanAge : ∀ own idx, Cond.methodLink own idx mL_meanAge.1 ∈ TBL → yOkH own idx 2 mL_meanAge hL_meanAge := fun own idx h => ⟨h, w_1042, w_0, ⟨by decide, by decide⟩, by decide +kernel⟩
theorem kL_shelfByHits : ∀ own idx, Cond.methodLink own idx mL_shelfByHits.1 ∈ TBL → yOkH own idx 3 mL_shelfByHits hL_shelfByHits := fun own idx h => ⟨h, w_1054, w_0, ⟨by decide, by decide⟩, by decide +kernel⟩
theorem kL_writeShelf : ∀ own idx, Cond.methodLink own idx mL_writeShelf.1 ∈ TBL → yOkH own idx 3 mL_writeShelf hL_writeShelf := fun own idx h => ⟨h, w_1066, w_0, ⟨by decide, by decide⟩, by decide +kernel⟩
theorem kL_lineAt : ∀ own idx, Cond.methodLink own idx mL_lineAt.1 ∈ TBL → yOkH own idx 3 mL_lineAt hL_lineAt := fun own idx h => ⟨h, w_1358, w_0, ⟨by decide, by decide⟩, by decide +kernel⟩
theorem kL_type : ∀ own idx, Cond.methodLink own idx mL_type.1 ∈ TBL → yOkH own idx 3 mL_type hL_type := fun own idx h => ⟨h, w_1376, w_0, ⟨by decide, by decide⟩, by decide +kernel⟩
theorem kL_execute : ∀ own idx, Cond.methodLink own idx mL_execute.1 ∈ TBL → yOkH own idx 2 mL_execute hL_execute := fun own idx h => ⟨h, w_1389, w_0, ⟨by decide, by decide⟩, by decide +kernel⟩
theorem kL_errorPosition : ∀ own idx, Cond.methodLink own idx mL_errorPosition.1 ∈ TBL → yOkH own idx 2 mL_errorPosition hL_errorPosition := fun own idx h => ⟨h, w_1496, w_0, ⟨by decide, by decide⟩, by decide +kernel⟩
theorem kL_failedCommand : ∀ own idx, Cond.methodLink own idx mL_failedCommand.1 ∈ TBL → yOkH own idx 2 mL_failedCommand hL_failedCommand := fun own idx h => ⟨h, w_1504, w_0, ⟨by decide, by decide⟩, by decide +kernel⟩
theorem kL_undo : ∀ own idx, Cond.methodLink own idx mL_undo.1 ∈ TBL → yOkH own idx 2 mL_undo hL_undo := fun own idx h => ⟨h, w_1512, w_0, ⟨by decide, by decide⟩, by decide +kernel⟩
theorem kL_restore : ∀ own idx, Cond.methodLink own idx mL_restore.1 ∈ TBL → yOkH own idx 2 mL_restore hL_restore := fun own idx h => ⟨h, w_1525, w_0, ⟨by decide, by decide⟩, by decide +kernel⟩
theorem dL_addJar_0 : decode mL_addJar.2.1 0 = .ok (.aload_n 3, 1) := by decide +kernel
theorem dL_addJar_1 : decode mL_addJar.2.1 1 = .ok (.iconst 0, 1) := by decide +kernel
theorem dL_addJar_2 : decode mL_addJar.2.1 2 = .ok (.aload_n 0, 1) := by decide +kernel
theorem dL_addJar_3 : decode mL_addJar.2.1 3 = .ok (.iload_n 1, 1) := by decide +kernel
theorem dL_addJar_4 : decode mL_addJar.2.1 4 = .ok (.iload_n 2, 1) := by decide +kernel
theorem dL_addJar_5 : decode mL_addJar.2.1 5 = .ok (.invokevirtual 7, 3) := by decide +kernel
theorem dL_addJar_8 : decode mL_addJar.2.1 8 = .ok (.i2l, 1) := by decide +kernel
theorem dL_addJar_9 : decode mL_addJar.2.1 9 = .ok (.lastore, 1) := by decide +kernel
theorem dL_addJar_10 : decode mL_addJar.2.1 10 = .ok (.goto 11, 3) := by decide +kernel
theorem dL_addJar_13 : decode mL_addJar.2.1 13 = .ok (.astore 4, 2) := by decide +kernel
theorem dL_addJar_15 : decode mL_addJar.2.1 15 = .ok (.iconst 1, 1) := by decide +kernel
theorem dL_addJar_16 : decode mL_addJar.2.1 16 = .ok (.ireturn, 1) := by decide +kernel
theorem dL_addJar_17 : decode mL_addJar.2.1 17 = .ok (.astore 4, 2) := by decide +kernel
theorem dL_addJar_19 : decode mL_addJar.2.1 19 = .ok (.iconst 2, 1) := by decide +kernel
theorem dL_addJar_20 : decode mL_addJar.2.1 20 = .ok (.ireturn, 1) := by decide +kernel
theorem dL_addJar_21 : decode mL_addJar.2.1 21 = .ok (.iconst 0, 1) := by decide +kernel
theorem dL_addJar_22 : decode mL_addJar.2.1 22 = .ok (.ireturn, 1) := by decide +kernel
theorem dL_removeJar_0 : decode mL_removeJar.2.1 0 = .ok (.aload_n 2, 1) := by decide +kernel
theorem dL_removeJar_1 : decode mL_removeJar.2.1 1 = .ok (.iconst 0, 1) := by decide +kernel
theorem dL_removeJar_2 : decode mL_removeJar.2.1 2 = .ok (.aload_n 0, 1) := by decide +kernel
theorem dL_removeJar_3 : decode mL_removeJar.2.1 3 = .ok (.iload_n 1, 1) := by decide +kernel
theorem dL_removeJar_4 : decode mL_removeJar.2.1 4 = .ok (.invokevirtual 17, 3) := by decide +kernel
theorem dL_removeJar_7 : decode mL_removeJar.2.1 7 = .ok (.i2l, 1) := by decide +kernel
theorem dL_removeJar_8 : decode mL_removeJar.2.1 8 = .ok (.lastore, 1) := by decide +kernel
theorem dL_removeJar_9 : decode mL_removeJar.2.1 9 = .ok (.goto 6, 3) := by decide +kernel
theorem dL_removeJar_12 : decode mL_removeJar.2.1 12 = .ok (.astore_n 3, 1) := by decide +kernel
theorem dL_removeJar_13 : decode mL_removeJar.2.1 13 = .ok (.iconst 1, 1) := by decide +kernel
theorem dL_removeJar_14 : decode mL_removeJar.2.1 14 = .ok (.ireturn, 1) := by decide +kernel
theorem dL_removeJar_15 : decode mL_removeJar.2.1 15 = .ok (.iconst 0, 1) := by decide +kernel
theorem dL_removeJar_16 : decode mL_removeJar.2.1 16 = .ok (.ireturn, 1) := by decide +kernel
theorem dL_say_0 : decode mL_say.2.1 0 = .ok (.aload_n 3, 1) := by decide +kernel
theorem dL_say_1 : decode mL_say.2.1 1 = .ok (.iconst 0, 1) := by decide +kernel
theorem dL_say_2 : decode mL_say.2.1 2 = .ok (.aload_n 0, 1) := by decide +kernel
theorem dL_say_3 : decode mL_say.2.1 3 = .ok (.iload_n 1, 1) := by decide +kernel
theorem dL_say_4 : decode mL_say.2.1 4 = .ok (.iload_n 2, 1) := by decide +kernel
theorem dL_say_5 : decode mL_say.2.1 5 = .ok (.invokevirtual 23, 3) := by decide +kernel
theorem dL_say_8 : decode mL_say.2.1 8 = .ok (.i2l, 1) := by decide +kernel
theorem dL_say_9 : decode mL_say.2.1 9 = .ok (.lastore, 1) := by decide +kernel
theorem dL_say_10 : decode mL_say.2.1 10 = .ok (.goto 11, 3) := by decide +kernel
theorem dL_say_13 : decode mL_say.2.1 13 = .ok (.astore 4, 2) := by decide +kernel
theorem dL_say_15 : decode mL_say.2.1 15 = .ok (.iconst 1, 1) := by decide +kernel
theorem dL_say_16 : decode mL_say.2.1 16 = .ok (.ireturn, 1) := by decide +kernel
theorem dL_say_17 : decode mL_say.2.1 17 = .ok (.astore 4, 2) := by decide +kernel
theorem dL_say_19 : decode mL_say.2.1 19 = .ok (.iconst 2, 1) := by decide +kernel
theorem dL_say_20 : decode mL_say.2.1 20 = .ok (.ireturn, 1) := by decide +kernel
theorem dL_say_21 : decode mL_say.2.1 21 = .ok (.iconst 0, 1) := by decide +kernel
theorem dL_say_22 : decode mL_say.2.1 22 = .ok (.ireturn, 1) := by decide +kernel
theorem dL_jarAt_0 : decode mL_jarAt.2.1 0 = .ok (.aload_n 2, 1) := by decide +kernel
theorem dL_jarAt_1 : decode mL_jarAt.2.1 1 = .ok (.iconst 0, 1) := by decide +kernel
theorem dL_jarAt_2 : decode mL_jarAt.2.1 2 = .ok (.aload_n 0, 1) := by decide +kernel
theorem dL_jarAt_3 : decode mL_jarAt.2.1 3 = .ok (.iload_n 1, 1) := by decide +kernel
theorem dL_jarAt_4 : decode mL_jarAt.2.1 4 = .ok (.invokevirtual 26, 3) := by decide +kernel
theorem dL_jarAt_7 : decode mL_jarAt.2.1 7 = .ok (.i2l, 1) := by decide +kernel
theorem dL_jarAt_8 : decode mL_jarAt.2.1 8 = .ok (.lastore, 1) := by decide +kernel
theorem dL_jarAt_9 : decode mL_jarAt.2.1 9 = .ok (.goto 6, 3) := by decide +kernel
theorem dL_jarAt_12 : decode mL_jarAt.2.1 12 = .ok (.astore_n 3, 1) := by decide +kernel
theorem dL_jarAt_13 : decode mL_jarAt.2.1 13 = .ok (.iconst 1, 1) := by decide +kernel
theorem dL_jarAt_14 : decode mL_jarAt.2.1 14 = .ok (.ireturn, 1) := by decide +kernel
theorem dL_jarAt_15 : decode mL_jarAt.2.1 15 = .ok (.iconst 0, 1) := by decide +kernel
theorem dL_jarAt_16 : decode mL_jarAt.2.1 16 = .ok (.ireturn, 1) := by decide +kernel
theorem dL_wordOf_0 : decode mL_wordOf.2.1 0 = .ok (.aload_n 2, 1) := by decide +kernel
theorem dL_wordOf_1 : decode mL_wordOf.2.1 1 = .ok (.iconst 0, 1) := by decide +kernel
theorem dL_wordOf_2 : decode mL_wordOf.2.1 2 = .ok (.aload_n 0, 1) := by decide +kernel
theorem dL_wordOf_3 : decode mL_wordOf.2.1 3 = .ok (.iload_n 1, 1) := by decide +kernel
theorem dL_wordOf_4 : decode mL_wordOf.2.1 4 = .ok (.invokevirtual 32, 3) := by decide +kernel
theorem dL_wordOf_7 : decode mL_wordOf.2.1 7 = .ok (.i2l, 1) := by decide +kernel
theorem dL_wordOf_8 : decode mL_wordOf.2.1 8 = .ok (.lastore, 1) := by decide +kernel
theorem dL_wordOf_9 : decode mL_wordOf.2.1 9 = .ok (.goto 6, 3) := by decide +kernel
theorem dL_wordOf_12 : decode mL_wordOf.2.1 12 = .ok (.astore_n 3, 1) := by decide +kernel
theorem dL_wordOf_13 : decode mL_wordOf.2.1 13 = .ok (.iconst 1, 1) := by decide +kernel
theorem dL_wordOf_14 : decode mL_wordOf.2.1 14 = .ok (.ireturn, 1) := by decide +kernel
theorem dL_wordOf_15 : decode mL_wordOf.2.1 15 = .ok (.iconst 0, 1) := by decide +kernel
theorem dL_wordOf_16 : decode mL_wordOf.2.1 16 = .ok (.ireturn, 1) := by decide +kernel
theorem dL_addShelf_0 : decode mL_addShelf.2.1 0 = .ok (.aload 4, 2) := by decide +kernel
theorem dL_addShelf_2 : decode mL_addShelf.2.1 2 = .ok (.iconst 0, 1) := by decide +kernel
theorem dL_addShelf_3 : decode mL_addShelf.2.1 3 = .ok (.aload_n 0, 1) := by decide +kernel
theorem dL_addShelf_4 : decode mL_addShelf.2.1 4 = .ok (.iload_n 1, 1) := by decide +kernel
theorem dL_addShelf_5 : decode mL_addShelf.2.1 5 = .ok (.iload_n 2, 1) := by decide +kernel
theorem dL_addShelf_6 : decode mL_addShelf.2.1 6 = .ok (.iload_n 3, 1) := by decide +kernel
theorem dL_addShelf_7 : decode mL_addShelf.2.1 7 = .ok (.invokevirtual 35, 3) := by decide +kernel
theorem dL_addShelf_10 : decode mL_addShelf.2.1 10 = .ok (.i2l, 1) := by decide +kernel
theorem dL_addShelf_11 : decode mL_addShelf.2.1 11 = .ok (.lastore, 1) := by decide +kernel
theorem dL_addShelf_12 : decode mL_addShelf.2.1 12 = .ok (.goto 11, 3) := by decide +kernel
theorem dL_addShelf_15 : decode mL_addShelf.2.1 15 = .ok (.astore 5, 2) := by decide +kernel
theorem dL_addShelf_17 : decode mL_addShelf.2.1 17 = .ok (.iconst 1, 1) := by decide +kernel
theorem dL_addShelf_18 : decode mL_addShelf.2.1 18 = .ok (.ireturn, 1) := by decide +kernel
theorem dL_addShelf_19 : decode mL_addShelf.2.1 19 = .ok (.astore 5, 2) := by decide +kernel
theorem dL_addShelf_21 : decode mL_addShelf.2.1 21 = .ok (.iconst 2, 1) := by decide +kernel
theorem dL_addShelf_22 : decode mL_addShelf.2.1 22 = .ok (.ireturn, 1) := by decide +kernel
theorem dL_addShelf_23 : decode mL_addShelf.2.1 23 = .ok (.iconst 0, 1) := by decide +kernel
theorem dL_addShelf_24 : decode mL_addShelf.2.1 24 = .ok (.ireturn, 1) := by decide +kernel
theorem dL_setListening_0 : decode mL_setListening.2.1 0 = .ok (.aload_n 3, 1) := by decide +kernel
theorem dL_setListening_1 : decode mL_setListening.2.1 1 = .ok (.iconst 0, 1) := by decide +kernel
theorem dL_setListening_2 : decode mL_setListening.2.1 2 = .ok (.aload_n 0, 1) := by decide +kernel
theorem dL_setListening_3 : decode mL_setListening.2.1 3 = .ok (.iload_n 1, 1) := by decide +kernel
theorem dL_setListening_4 : decode mL_setListening.2.1 4 = .ok (.iload_n 2, 1) := by decide +kernel
theorem dL_setListening_5 : decode mL_setListening.2.1 5 = .ok (.invokevirtual 39, 3) := by decide +kernel
theorem dL_setListening_8 : decode mL_setListening.2.1 8 = .ok (.ifCond .eq 7, 3) := by decide +kernel
theorem dL_setListening_11 : decode mL_setListening.2.1 11 = .ok (.lconst 1, 1) := by decide +kernel
theorem dL_setListening_12 : decode mL_setListening.2.1 12 = .ok (.goto 4, 3) := by decide +kernel
theorem dL_setListening_15 : decode mL_setListening.2.1 15 = .ok (.lconst 0, 1) := by decide +kernel
theorem dL_setListening_16 : decode mL_setListening.2.1 16 = .ok (.lastore, 1) := by decide +kernel
theorem dL_setListening_17 : decode mL_setListening.2.1 17 = .ok (.goto 7, 3) := by decide +kernel
theorem dL_setListening_20 : decode mL_setListening.2.1 20 = .ok (.astore 4, 2) := by decide +kernel
theorem dL_setListening_22 : decode mL_setListening.2.1 22 = .ok (.iconst 1, 1) := by decide +kernel
theorem dL_setListening_23 : decode mL_setListening.2.1 23 = .ok (.ireturn, 1) := by decide +kernel
theorem dL_setListening_24 : decode mL_setListening.2.1 24 = .ok (.iconst 0, 1) := by decide +kernel
theorem dL_setListening_25 : decode mL_setListening.2.1 25 = .ok (.ireturn, 1) := by decide +kernel
theorem dL_capacityOf_0 : decode mL_capacityOf.2.1 0 = .ok (.aload_n 2, 1) := by decide +kernel
theorem dL_capacityOf_1 : decode mL_capacityOf.2.1 1 = .ok (.iconst 0, 1) := by decide +kernel
theorem dL_capacityOf_2 : decode mL_capacityOf.2.1 2 = .ok (.aload_n 0, 1) := by decide +kernel
theorem dL_capacityOf_3 : decode mL_capacityOf.2.1 3 = .ok (.iload_n 1, 1) := by decide +kernel
theorem dL_capacityOf_4 : decode mL_capacityOf.2.1 4 = .ok (.invokevirtual 43, 3) := by decide +kernel
theorem dL_capacityOf_7 : decode mL_capacityOf.2.1 7 = .ok (.i2l, 1) := by decide +kernel
theorem dL_capacityOf_8 : decode mL_capacityOf.2.1 8 = .ok (.lastore, 1) := by decide +kernel
theorem dL_capacityOf_9 : decode mL_capacityOf.2.1 9 = .ok (.goto 6, 3) := by decide +kernel
theorem dL_capacityOf_12 : decode mL_capacityOf.2.1 12 = .ok (.astore_n 3, 1) := by decide +kernel
theorem dL_capacityOf_13 : decode mL_capacityOf.2.1 13 = .ok (.iconst 1, 1) := by decide +kernel
theorem dL_capacityOf_14 : decode mL_capacityOf.2.1 14 = .ok (.ireturn, 1) := by decide +kernel
theorem dL_capacityOf_15 : decode mL_capacityOf.2.1 15 = .ok (.iconst 0, 1) := by decide +kernel
theorem dL_capacityOf_16 : decode mL_capacityOf.2.1 16 = .ok (.ireturn, 1) := by decide +kernel
theorem dL_lifetimeOf_0 : decode mL_lifetimeOf.2.1 0 = .ok (.aload_n 2, 1) := by decide +kernel
theorem dL_lifetimeOf_1 : decode mL_lifetimeOf.2.1 1 = .ok (.iconst 0, 1) := by decide +kernel
theorem dL_lifetimeOf_2 : decode mL_lifetimeOf.2.1 2 = .ok (.aload_n 0, 1) := by decide +kernel
theorem dL_lifetimeOf_3 : decode mL_lifetimeOf.2.1 3 = .ok (.iload_n 1, 1) := by decide +kernel
theorem dL_lifetimeOf_4 : decode mL_lifetimeOf.2.1 4 = .ok (.invokevirtual 47, 3) := by decide +kernel
theorem dL_lifetimeOf_7 : decode mL_lifetimeOf.2.1 7 = .ok (.i2l, 1) := by decide +kernel
theorem dL_lifetimeOf_8 : decode mL_lifetimeOf.2.1 8 = .ok (.lastore, 1) := by decide +kernel
theorem dL_lifetimeOf_9 : decode mL_lifetimeOf.2.1 9 = .ok (.goto 6, 3) := by decide +kernel
theorem dL_lifetimeOf_12 : decode mL_lifetimeOf.2.1 12 = .ok (.astore_n 3, 1) := by decide +kernel
theorem dL_lifetimeOf_13 : decode mL_lifetimeOf.2.1 13 = .ok (.iconst 1, 1) := by decide +kernel
theorem dL_lifetimeOf_14 : decode mL_lifetimeOf.2.1 14 = .ok (.ireturn, 1) := by decide +kernel
theorem dL_lifetimeOf_15 : decode mL_lifetimeOf.2.1 15 = .ok (.iconst 0, 1) := by decide +kernel
theorem dL_lifetimeOf_16 : decode mL_lifetimeOf.2.1 16 = .ok (.ireturn, 1) := by decide +kernel
theorem dL_policyOf_0 : decode mL_policyOf.2.1 0 = .ok (.aload_n 2, 1) := by decide +kernel
theorem dL_policyOf_1 : decode mL_policyOf.2.1 1 = .ok (.iconst 0, 1) := by decide +kernel
theorem dL_policyOf_2 : decode mL_policyOf.2.1 2 = .ok (.aload_n 0, 1) := by decide +kernel
theorem dL_policyOf_3 : decode mL_policyOf.2.1 3 = .ok (.iload_n 1, 1) := by decide +kernel
theorem dL_policyOf_4 : decode mL_policyOf.2.1 4 = .ok (.invokevirtual 50, 3) := by decide +kernel
theorem dL_policyOf_7 : decode mL_policyOf.2.1 7 = .ok (.i2l, 1) := by decide +kernel
theorem dL_policyOf_8 : decode mL_policyOf.2.1 8 = .ok (.lastore, 1) := by decide +kernel
theorem dL_policyOf_9 : decode mL_policyOf.2.1 9 = .ok (.goto 6, 3) := by decide +kernel
theorem dL_policyOf_12 : decode mL_policyOf.2.1 12 = .ok (.astore_n 3, 1) := by decide +kernel
theorem dL_policyOf_13 : decode mL_policyOf.2.1 13 = .ok (.iconst 1, 1) := by decide +kernel
theorem dL_policyOf_14 : decode mL_policyOf.2.1 14 = .ok (.ireturn, 1) := by decide +kernel
theorem dL_policyOf_15 : decode mL_policyOf.2.1 15 = .ok (.iconst 0, 1) := by decide +kernel
theorem dL_policyOf_16 : decode mL_policyOf.2.1 16 = .ok (.ireturn, 1) := by decide +kernel
theorem dL_isListening_0 : decode mL_isListening.2.1 0 = .ok (.aload_n 2, 1) := by decide +kernel
theorem dL_isListening_1 : decode mL_isListening.2.1 1 = .ok (.iconst 0, 1) := by decide +kernel
theorem dL_isListening_2 : decode mL_isListening.2.1 2 = .ok (.aload_n 0, 1) := by decide +kernel
theorem dL_isListening_3 : decode mL_isListening.2.1 3 = .ok (.iload_n 1, 1) := by decide +kernel
theorem dL_isListening_4 : decode mL_isListening.2.1 4 = .ok (.invokevirtual 53, 3) := by decide +kernel
theorem dL_isListening_7 : decode mL_isListening.2.1 7 = .ok (.ifCond .eq 7, 3) := by decide +kernel
theorem dL_isListening_10 : decode mL_isListening.2.1 10 = .ok (.lconst 1, 1) := by decide +kernel
theorem dL_isListening_11 : decode mL_isListening.2.1 11 = .ok (.goto 4, 3) := by decide +kernel
theorem dL_isListening_14 : decode mL_isListening.2.1 14 = .ok (.lconst 0, 1) := by decide +kernel
theorem dL_isListening_15 : decode mL_isListening.2.1 15 = .ok (.lastore, 1) := by decide +kernel
theorem dL_isListening_16 : decode mL_isListening.2.1 16 = .ok (.goto 6, 3) := by decide +kernel
theorem dL_isListening_19 : decode mL_isListening.2.1 19 = .ok (.astore_n 3, 1) := by decide +kernel
theorem dL_isListening_20 : decode mL_isListening.2.1 20 = .ok (.iconst 1, 1) := by decide +kernel
theorem dL_isListening_21 : decode mL_isListening.2.1 21 = .ok (.ireturn, 1) := by decide +kernel
theorem dL_isListening_22 : decode mL_isListening.2.1 22 = .ok (.iconst 0, 1) := by decide +kernel
theorem dL_isListening_23 : decode mL_isListening.2.1 23 = .ok (.ireturn, 1) := by decide +kernel
theorem dL_echoCount_0 : decode mL_echoCount.2.1 0 = .ok (.aload_n 2, 1) := by decide +kernel
theorem dL_echoCount_1 : decode mL_echoCount.2.1 1 = .ok (.iconst 0, 1) := by decide +kernel
theorem dL_echoCount_2 : decode mL_echoCount.2.1 2 = .ok (.aload_n 0, 1) := by decide +kernel
theorem dL_echoCount_3 : decode mL_echoCount.2.1 3 = .ok (.iload_n 1, 1) := by decide +kernel
theorem dL_echoCount_4 : decode mL_echoCount.2.1 4 = .ok (.invokevirtual 57, 3) := by decide +kernel
theorem dL_echoCount_7 : decode mL_echoCount.2.1 7 = .ok (.i2l, 1) := by decide +kernel
theorem dL_echoCount_8 : decode mL_echoCount.2.1 8 = .ok (.lastore, 1) := by decide +kernel
theorem dL_echoCount_9 : decode mL_echoCount.2.1 9 = .ok (.goto 6, 3) := by decide +kernel
theorem dL_echoCount_12 : decode mL_echoCount.2.1 12 = .ok (.astore_n 3, 1) := by decide +kernel
theorem dL_echoCount_13 : decode mL_echoCount.2.1 13 = .ok (.iconst 1, 1) := by decide +kernel
theorem dL_echoCount_14 : decode mL_echoCount.2.1 14 = .ok (.ireturn, 1) := by decide +kernel
theorem dL_echoCount_15 : decode mL_echoCount.2.1 15 = .ok (.iconst 0, 1) := by decide +kernel
theorem dL_echoCount_16 : decode mL_echoCount.2.1 16 = .ok (.ireturn, 1) := by decide +kernel
theorem dL_echoAt_0 : decode mL_echoAt.2.1 0 = .ok (.aload_n 3, 1) := by decide +kernel
theorem dL_echoAt_1 : decode mL_echoAt.2.1 1 = .ok (.iconst 0, 1) := by decide +kernel
theorem dL_echoAt_2 : decode mL_echoAt.2.1 2 = .ok (.aload_n 0, 1) := by decide +kernel
theorem dL_echoAt_3 : decode mL_echoAt.2.1 3 = .ok (.iload_n 1, 1) := by decide +kernel
theorem dL_echoAt_4 : decode mL_echoAt.2.1 4 = .ok (.iload_n 2, 1) := by decide +kernel
theorem dL_echoAt_5 : decode mL_echoAt.2.1 5 = .ok (.invokevirtual 60, 3) := by decide +kernel
theorem dL_echoAt_8 : decode mL_echoAt.2.1 8 = .ok (.i2l, 1) := by decide +kernel
theorem dL_echoAt_9 : decode mL_echoAt.2.1 9 = .ok (.lastore, 1) := by decide +kernel
theorem dL_echoAt_10 : decode mL_echoAt.2.1 10 = .ok (.goto 11, 3) := by decide +kernel
theorem dL_echoAt_13 : decode mL_echoAt.2.1 13 = .ok (.astore 4, 2) := by decide +kernel
theorem dL_echoAt_15 : decode mL_echoAt.2.1 15 = .ok (.iconst 1, 1) := by decide +kernel
theorem dL_echoAt_16 : decode mL_echoAt.2.1 16 = .ok (.ireturn, 1) := by decide +kernel
theorem dL_echoAt_17 : decode mL_echoAt.2.1 17 = .ok (.astore 4, 2) := by decide +kernel
theorem dL_echoAt_19 : decode mL_echoAt.2.1 19 = .ok (.iconst 2, 1) := by decide +kernel
theorem dL_echoAt_20 : decode mL_echoAt.2.1 20 = .ok (.ireturn, 1) := by decide +kernel
theorem dL_echoAt_21 : decode mL_echoAt.2.1 21 = .ok (.iconst 0, 1) := by decide +kernel
theorem dL_echoAt_22 : decode mL_echoAt.2.1 22 = .ok (.ireturn, 1) := by decide +kernel
theorem dL_hasEcho_0 : decode mL_hasEcho.2.1 0 = .ok (.aload_n 3, 1) := by decide +kernel
theorem dL_hasEcho_1 : decode mL_hasEcho.2.1 1 = .ok (.iconst 0, 1) := by decide +kernel
theorem dL_hasEcho_2 : decode mL_hasEcho.2.1 2 = .ok (.aload_n 0, 1) := by decide +kernel
theorem dL_hasEcho_3 : decode mL_hasEcho.2.1 3 = .ok (.iload_n 1, 1) := by decide +kernel
theorem dL_hasEcho_4 : decode mL_hasEcho.2.1 4 = .ok (.iload_n 2, 1) := by decide +kernel
theorem dL_hasEcho_5 : decode mL_hasEcho.2.1 5 = .ok (.invokevirtual 64, 3) := by decide +kernel
theorem dL_hasEcho_8 : decode mL_hasEcho.2.1 8 = .ok (.ifCond .eq 7, 3) := by decide +kernel
theorem dL_hasEcho_11 : decode mL_hasEcho.2.1 11 = .ok (.lconst 1, 1) := by decide +kernel
theorem dL_hasEcho_12 : decode mL_hasEcho.2.1 12 = .ok (.goto 4, 3) := by decide +kernel
theorem dL_hasEcho_15 : decode mL_hasEcho.2.1 15 = .ok (.lconst 0, 1) := by decide +kernel
theorem dL_hasEcho_16 : decode mL_hasEcho.2.1 16 = .ok (.lastore, 1) := by decide +kernel
theorem dL_hasEcho_17 : decode mL_hasEcho.2.1 17 = .ok (.goto 7, 3) := by decide +kernel
theorem dL_hasEcho_20 : decode mL_hasEcho.2.1 20 = .ok (.astore 4, 2) := by decide +kernel
theorem dL_hasEcho_22 : decode mL_hasEcho.2.1 22 = .ok (.iconst 1, 1) := by decide +kernel
theorem dL_hasEcho_23 : decode mL_hasEcho.2.1 23 = .ok (.ireturn, 1) := by decide +kernel
theorem dL_hasEcho_24 : decode mL_hasEcho.2.1 24 = .ok (.iconst 0, 1) := by decide +kernel
theorem dL_hasEcho_25 : decode mL_hasEcho.2.1 25 = .ok (.ireturn, 1) := by decide +kernel
theorem dL_echoOf_0 : decode mL_echoOf.2.1 0 = .ok (.aload_n 3, 1) := by decide +kernel
theorem dL_echoOf_1 : decode mL_echoOf.2.1 1 = .ok (.iconst 0, 1) := by decide +kernel
theorem dL_echoOf_2 : decode mL_echoOf.2.1 2 = .ok (.aload_n 0, 1) := by decide +kernel
theorem dL_echoOf_3 : decode mL_echoOf.2.1 3 = .ok (.iload_n 1, 1) := by decide +kernel
theorem dL_echoOf_4 : decode mL_echoOf.2.1 4 = .ok (.iload_n 2, 1) := by decide +kernel
theorem dL_echoOf_5 : decode mL_echoOf.2.1 5 = .ok (.invokevirtual 68, 3) := by decide +kernel
theorem dL_echoOf_8 : decode mL_echoOf.2.1 8 = .ok (.i2l, 1) := by decide +kernel
theorem dL_echoOf_9 : decode mL_echoOf.2.1 9 = .ok (.lastore, 1) := by decide +kernel
theorem dL_echoOf_10 : decode mL_echoOf.2.1 10 = .ok (.goto 11, 3) := by decide +kernel
theorem dL_echoOf_13 : decode mL_echoOf.2.1 13 = .ok (.astore 4, 2) := by decide +kernel
theorem dL_echoOf_15 : decode mL_echoOf.2.1 15 = .ok (.iconst 1, 1) := by decide +kernel
theorem dL_echoOf_16 : decode mL_echoOf.2.1 16 = .ok (.ireturn, 1) := by decide +kernel
theorem dL_echoOf_17 : decode mL_echoOf.2.1 17 = .ok (.astore 4, 2) := by decide +kernel
theorem dL_echoOf_19 : decode mL_echoOf.2.1 19 = .ok (.iconst 2, 1) := by decide +kernel
theorem dL_echoOf_20 : decode mL_echoOf.2.1 20 = .ok (.ireturn, 1) := by decide +kernel
theorem dL_echoOf_21 : decode mL_echoOf.2.1 21 = .ok (.iconst 0, 1) := by decide +kernel
theorem dL_echoOf_22 : decode mL_echoOf.2.1 22 = .ok (.ireturn, 1) := by decide +kernel
theorem dL_ageOf_0 : decode mL_ageOf.2.1 0 = .ok (.aload_n 3, 1) := by decide +kernel
theorem dL_ageOf_1 : decode mL_ageOf.2.1 1 = .ok (.iconst 0, 1) := by decide +kernel
theorem dL_ageOf_2 : decode mL_ageOf.2.1 2 = .ok (.aload_n 0, 1) := by decide +kernel
theorem dL_ageOf_3 : decode mL_ageOf.2.1 3 = .ok (.iload_n 1, 1) := by decide +kernel
theorem dL_ageOf_4 : decode mL_ageOf.2.1 4 = .ok (.iload_n 2, 1) := by decide +kernel
theorem dL_ageOf_5 : decode mL_ageOf.2.1 5 = .ok (.invokevirtual 72, 3) := by decide +kernel
theorem dL_ageOf_8 : decode mL_ageOf.2.1 8 = .ok (.i2l, 1) := by decide +kernel
theorem dL_ageOf_9 : decode mL_ageOf.2.1 9 = .ok (.lastore, 1) := by decide +kernel
theorem dL_ageOf_10 : decode mL_ageOf.2.1 10 = .ok (.goto 11, 3) := by decide +kernel
theorem dL_ageOf_13 : decode mL_ageOf.2.1 13 = .ok (.astore 4, 2) := by decide +kernel
theorem dL_ageOf_15 : decode mL_ageOf.2.1 15 = .ok (.iconst 1, 1) := by decide +kernel
theorem dL_ageOf_16 : decode mL_ageOf.2.1 16 = .ok (.ireturn, 1) := by decide +kernel
theorem dL_ageOf_17 : decode mL_ageOf.2.1 17 = .ok (.astore 4, 2) := by decide +kernel
theorem dL_ageOf_19 : decode mL_ageOf.2.1 19 = .ok (.iconst 2, 1) := by decide +kernel
theorem dL_ageOf_20 : decode mL_ageOf.2.1 20 = .ok (.ireturn, 1) := by decide +kernel
theorem dL_ageOf_21 : decode mL_ageOf.2.1 21 = .ok (.iconst 0, 1) := by decide +kernel
theorem dL_ageOf_22 : decode mL_ageOf.2.1 22 = .ok (.ireturn, 1) := by decide +kernel
theorem dL_hitsOf_0 : decode mL_hitsOf.2.1 0 = .ok (.aload_n 3, 1) := by decide +kernel
theorem dL_hitsOf_1 : decode mL_hitsOf.2.1 1 = .ok (.iconst 0, 1) := by decide +kernel
theorem dL_hitsOf_2 : decode mL_hitsOf.2.1 2 = .ok (.aload_n 0, 1) := by decide +kernel
theorem dL_hitsOf_3 : decode mL_hitsOf.2.1 3 = .ok (.iload_n 1, 1) := by decide +kernel
theorem dL_hitsOf_4 : decode mL_hitsOf.2.1 4 = .ok (.iload_n 2, 1) := by decide +kernel
theorem dL_hitsOf_5 : decode mL_hitsOf.2.1 5 = .ok (.invokevirtual 75, 3) := by decide +kernel
theorem dL_hitsOf_8 : decode mL_hitsOf.2.1 8 = .ok (.i2l, 1) := by decide +kernel
theorem dL_hitsOf_9 : decode mL_hitsOf.2.1 9 = .ok (.lastore, 1) := by decide +kernel
theorem dL_hitsOf_10 : decode mL_hitsOf.2.1 10 = .ok (.goto 11, 3) := by decide +kernel
theorem dL_hitsOf_13 : decode mL_hitsOf.2.1 13 = .ok (.astore 4, 2) := by decide +kernel
theorem dL_hitsOf_15 : decode mL_hitsOf.2.1 15 = .ok (.iconst 1, 1) := by decide +kernel
theorem dL_hitsOf_16 : decode mL_hitsOf.2.1 16 = .ok (.ireturn, 1) := by decide +kernel
theorem dL_hitsOf_17 : decode mL_hitsOf.2.1 17 = .ok (.astore 4, 2) := by decide +kernel
theorem dL_hitsOf_19 : decode mL_hitsOf.2.1 19 = .ok (.iconst 2, 1) := by decide +kernel
theorem dL_hitsOf_20 : decode mL_hitsOf.2.1 20 = .ok (.ireturn, 1) := by decide +kernel
theorem dL_hitsOf_21 : decode mL_hitsOf.2.1 21 = .ok (.iconst 0, 1) := by decide +kernel
theorem dL_hitsOf_22 : decode mL_hitsOf.2.1 22 = .ok (.ireturn, 1) := by decide +kernel
theorem dL_isExpired_0 : decode mL_isExpired.2.1 0 = .ok (.aload_n 3, 1) := by decide +kernel
theorem dL_isExpired_1 : decode mL_isExpired.2.1 1 = .ok (.iconst 0, 1) := by decide +kernel
theorem dL_isExpired_2 : decode mL_isExpired.2.1 2 = .ok (.aload_n 0, 1) := by decide +kernel
theorem dL_isExpired_3 : decode mL_isExpired.2.1 3 = .ok (.iload_n 1, 1) := by decide +kernel
theorem dL_isExpired_4 : decode mL_isExpired.2.1 4 = .ok (.iload_n 2, 1) := by decide +kernel
theorem dL_isExpired_5 : decode mL_isExpired.2.1 5 = .ok (.invokevirtual 78, 3) := by decide +kernel
theorem dL_isExpired_8 : decode mL_isExpired.2.1 8 = .ok (.ifCond .eq 7, 3) := by decide +kernel
theorem dL_isExpired_11 : decode mL_isExpired.2.1 11 = .ok (.lconst 1, 1) := by decide +kernel
theorem dL_isExpired_12 : decode mL_isExpired.2.1 12 = .ok (.goto 4, 3) := by decide +kernel
theorem dL_isExpired_15 : decode mL_isExpired.2.1 15 = .ok (.lconst 0, 1) := by decide +kernel
theorem dL_isExpired_16 : decode mL_isExpired.2.1 16 = .ok (.lastore, 1) := by decide +kernel
theorem dL_isExpired_17 : decode mL_isExpired.2.1 17 = .ok (.goto 11, 3) := by decide +kernel
theorem dL_isExpired_20 : decode mL_isExpired.2.1 20 = .ok (.astore 4, 2) := by decide +kernel
theorem dL_isExpired_22 : decode mL_isExpired.2.1 22 = .ok (.iconst 1, 1) := by decide +kernel
theorem dL_isExpired_23 : decode mL_isExpired.2.1 23 = .ok (.ireturn, 1) := by decide +kernel
theorem dL_isExpired_24 : decode mL_isExpired.2.1 24 = .ok (.astore 4, 2) := by decide +kernel
theorem dL_isExpired_26 : decode mL_isExpired.2.1 26 = .ok (.iconst 2, 1) := by decide +kernel
theorem dL_isExpired_27 : decode mL_isExpired.2.1 27 = .ok (.ireturn, 1) := by decide +kernel
theorem dL_isExpired_28 : decode mL_isExpired.2.1 28 = .ok (.iconst 0, 1) := by decide +kernel
theorem dL_isExpired_29 : decode mL_isExpired.2.1 29 = .ok (.ireturn, 1) := by decide +kernel
theorem dL_isOpen_0 : decode mL_isOpen.2.1 0 = .ok (.aload_n 3, 1) := by decide +kernel
theorem dL_isOpen_1 : decode mL_isOpen.2.1 1 = .ok (.iconst 0, 1) := by decide +kernel
theorem dL_isOpen_2 : decode mL_isOpen.2.1 2 = .ok (.aload_n 0, 1) := by decide +kernel
theorem dL_isOpen_3 : decode mL_isOpen.2.1 3 = .ok (.iload_n 1, 1) := by decide +kernel
theorem dL_isOpen_4 : decode mL_isOpen.2.1 4 = .ok (.iload_n 2, 1) := by decide +kernel
theorem dL_isOpen_5 : decode mL_isOpen.2.1 5 = .ok (.invokevirtual 81, 3) := by decide +kernel
theorem dL_isOpen_8 : decode mL_isOpen.2.1 8 = .ok (.ifCond .eq 7, 3) := by decide +kernel
theorem dL_isOpen_11 : decode mL_isOpen.2.1 11 = .ok (.lconst 1, 1) := by decide +kernel
theorem dL_isOpen_12 : decode mL_isOpen.2.1 12 = .ok (.goto 4, 3) := by decide +kernel
theorem dL_isOpen_15 : decode mL_isOpen.2.1 15 = .ok (.lconst 0, 1) := by decide +kernel
theorem dL_isOpen_16 : decode mL_isOpen.2.1 16 = .ok (.lastore, 1) := by decide +kernel
theorem dL_isOpen_17 : decode mL_isOpen.2.1 17 = .ok (.goto 11, 3) := by decide +kernel
theorem dL_isOpen_20 : decode mL_isOpen.2.1 20 = .ok (.astore 4, 2) := by decide +kernel
theorem dL_isOpen_22 : decode mL_isOpen.2.1 22 = .ok (.iconst 1, 1) := by decide +kernel
theorem dL_isOpen_23 : decode mL_isOpen.2.1 23 = .ok (.ireturn, 1) := by decide +kernel
theorem dL_isOpen_24 : decode mL_isOpen.2.1 24 = .ok (.astore 4, 2) := by decide +kernel
theorem dL_isOpen_26 : decode mL_isOpen.2.1 26 = .ok (.iconst 2, 1) := by decide +kernel
theorem dL_isOpen_27 : decode mL_isOpen.2.1 27 = .ok (.ireturn, 1) := by decide +kernel
theorem dL_isOpen_28 : decode mL_isOpen.2.1 28 = .ok (.iconst 0, 1) := by decide +kernel
theorem dL_isOpen_29 : decode mL_isOpen.2.1 29 = .ok (.ireturn, 1) := by decide +kernel
theorem dL_isTrue_0 : decode mL_isTrue.2.1 0 = .ok (.aload_n 3, 1) := by decide +kernel
theorem dL_isTrue_1 : decode mL_isTrue.2.1 1 = .ok (.iconst 0, 1) := by decide +kernel
theorem dL_isTrue_2 : decode mL_isTrue.2.1 2 = .ok (.aload_n 0, 1) := by decide +kernel
theorem dL_isTrue_3 : decode mL_isTrue.2.1 3 = .ok (.iload_n 1, 1) := by decide +kernel
theorem dL_isTrue_4 : decode mL_isTrue.2.1 4 = .ok (.iload_n 2, 1) := by decide +kernel
theorem dL_isTrue_5 : decode mL_isTrue.2.1 5 = .ok (.invokevirtual 84, 3) := by decide +kernel
theorem dL_isTrue_8 : decode mL_isTrue.2.1 8 = .ok (.ifCond .eq 7, 3) := by decide +kernel
theorem dL_isTrue_11 : decode mL_isTrue.2.1 11 = .ok (.lconst 1, 1) := by decide +kernel
theorem dL_isTrue_12 : decode mL_isTrue.2.1 12 = .ok (.goto 4, 3) := by decide +kernel
theorem dL_isTrue_15 : decode mL_isTrue.2.1 15 = .ok (.lconst 0, 1) := by decide +kernel
theorem dL_isTrue_16 : decode mL_isTrue.2.1 16 = .ok (.lastore, 1) := by decide +kernel
theorem dL_isTrue_17 : decode mL_isTrue.2.1 17 = .ok (.goto 11, 3) := by decide +kernel
theorem dL_isTrue_20 : decode mL_isTrue.2.1 20 = .ok (.astore 4, 2) := by decide +kernel
theorem dL_isTrue_22 : decode mL_isTrue.2.1 22 = .ok (.iconst 1, 1) := by decide +kernel
theorem dL_isTrue_23 : decode mL_isTrue.2.1 23 = .ok (.ireturn, 1) := by decide +kernel
theorem dL_isTrue_24 : decode mL_isTrue.2.1 24 = .ok (.astore 4, 2) := by decide +kernel
theorem dL_isTrue_26 : decode mL_isTrue.2.1 26 = .ok (.iconst 2, 1) := by decide +kernel
theorem dL_isTrue_27 : decode mL_isTrue.2.1 27 = .ok (.ireturn, 1) := by decide +kernel
theorem dL_isTrue_28 : decode mL_isTrue.2.1 28 = .ok (.iconst 0, 1) := by decide +kernel
theorem dL_isTrue_29 : decode mL_isTrue.2.1 29 = .ok (.ireturn, 1) := by decide +kernel
theorem dL_isTrueBySteps_0 : decode mL_isTrueBySteps.2.1 0 = .ok (.aload_n 3, 1) := by decide +kernel
theorem dL_isTrueBySteps_1 : decode mL_isTrueBySteps.2.1 1 = .ok (.iconst 0, 1) := by decide +kernel
theorem dL_isTrueBySteps_2 : decode mL_isTrueBySteps.2.1 2 = .ok (.aload_n 0, 1) := by decide +kernel
theorem dL_isTrueBySteps_3 : decode mL_isTrueBySteps.2.1 3 = .ok (.iload_n 1, 1) := by decide +kernel
theorem dL_isTrueBySteps_4 : decode mL_isTrueBySteps.2.1 4 = .ok (.iload_n 2, 1) := by decide +kernel
theorem dL_isTrueBySteps_5 : decode mL_isTrueBySteps.2.1 5 = .ok (.invokevirtual 87, 3) := by decide +kernel
theorem dL_isTrueBySteps_8 : decode mL_isTrueBySteps.2.1 8 = .ok (.ifCond .eq 7, 3) := by decide +kernel
theorem dL_isTrueBySteps_11 : decode mL_isTrueBySteps.2.1 11 = .ok (.lconst 1, 1) := by decide +kernel
theorem dL_isTrueBySteps_12 : decode mL_isTrueBySteps.2.1 12 = .ok (.goto 4, 3) := by decide +kernel
theorem dL_isTrueBySteps_15 : decode mL_isTrueBySteps.2.1 15 = .ok (.lconst 0, 1) := by decide +kernel
theorem dL_isTrueBySteps_16 : decode mL_isTrueBySteps.2.1 16 = .ok (.lastore, 1) := by decide +kernel
theorem dL_isTrueBySteps_17 : decode mL_isTrueBySteps.2.1 17 = .ok (.goto 11, 3) := by decide +kernel
theorem dL_isTrueBySteps_20 : decode mL_isTrueBySteps.2.1 20 = .ok (.astore 4, 2) := by decide +kernel
theorem dL_isTrueBySteps_22 : decode mL_isTrueBySteps.2.1 22 = .ok (.iconst 1, 1) := by decide +kernel
theorem dL_isTrueBySteps_23 : decode mL_isTrueBySteps.2.1 23 = .ok (.ireturn, 1) := by decide +kernel
theorem dL_isTrueBySteps_24 : decode mL_isTrueBySteps.2.1 24 = .ok (.astore 4, 2) := by decide +kernel
theorem dL_isTrueBySteps_26 : decode mL_isTrueBySteps.2.1 26 = .ok (.iconst 2, 1) := by decide +kernel
theorem dL_isTrueBySteps_27 : decode mL_isTrueBySteps.2.1 27 = .ok (.ireturn, 1) := by decide +kernel
theorem dL_isTrueBySteps_28 : decode mL_isTrueBySteps.2.1 28 = .ok (.iconst 0, 1) := by decide +kernel
theorem dL_isTrueBySteps_29 : decode mL_isTrueBySteps.2.1 29 = .ok (.ireturn, 1) := by decide +kernel
theorem dL_victimOf_0 : decode mL_victimOf.2.1 0 = .ok (.aload_n 2, 1) := by decide +kernel
theorem dL_victimOf_1 : decode mL_victimOf.2.1 1 = .ok (.iconst 0, 1) := by decide +kernel
theorem dL_victimOf_2 : decode mL_victimOf.2.1 2 = .ok (.aload_n 0, 1) := by decide +kernel
theorem dL_victimOf_3 : decode mL_victimOf.2.1 3 = .ok (.iload_n 1, 1) := by decide +kernel
theorem dL_victimOf_4 : decode mL_victimOf.2.1 4 = .ok (.invokevirtual 90, 3) := by decide +kernel
theorem dL_victimOf_7 : decode mL_victimOf.2.1 7 = .ok (.i2l, 1) := by decide +kernel
theorem dL_victimOf_8 : decode mL_victimOf.2.1 8 = .ok (.lastore, 1) := by decide +kernel
theorem dL_victimOf_9 : decode mL_victimOf.2.1 9 = .ok (.goto 9, 3) := by decide +kernel
theorem dL_victimOf_12 : decode mL_victimOf.2.1 12 = .ok (.astore_n 3, 1) := by decide +kernel
theorem dL_victimOf_13 : decode mL_victimOf.2.1 13 = .ok (.iconst 1, 1) := by decide +kernel
theorem dL_victimOf_14 : decode mL_victimOf.2.1 14 = .ok (.ireturn, 1) := by decide +kernel
theorem dL_victimOf_15 : decode mL_victimOf.2.1 15 = .ok (.astore_n 3, 1) := by decide +kernel
theorem dL_victimOf_16 : decode mL_victimOf.2.1 16 = .ok (.iconst 2, 1) := by decide +kernel
theorem dL_victimOf_17 : decode mL_victimOf.2.1 17 = .ok (.ireturn, 1) := by decide +kernel
theorem dL_victimOf_18 : decode mL_victimOf.2.1 18 = .ok (.iconst 0, 1) := by decide +kernel
theorem dL_victimOf_19 : decode mL_victimOf.2.1 19 = .ok (.ireturn, 1) := by decide +kernel
theorem dL_victimByScan_0 : decode mL_victimByScan.2.1 0 = .ok (.aload_n 2, 1) := by decide +kernel
theorem dL_victimByScan_1 : decode mL_victimByScan.2.1 1 = .ok (.iconst 0, 1) := by decide +kernel
theorem dL_victimByScan_2 : decode mL_victimByScan.2.1 2 = .ok (.aload_n 0, 1) := by decide +kernel
theorem dL_victimByScan_3 : decode mL_victimByScan.2.1 3 = .ok (.iload_n 1, 1) := by decide +kernel
theorem dL_victimByScan_4 : decode mL_victimByScan.2.1 4 = .ok (.invokevirtual 93, 3) := by decide +kernel
theorem dL_victimByScan_7 : decode mL_victimByScan.2.1 7 = .ok (.i2l, 1) := by decide +kernel
theorem dL_victimByScan_8 : decode mL_victimByScan.2.1 8 = .ok (.lastore, 1) := by decide +kernel
theorem dL_victimByScan_9 : decode mL_victimByScan.2.1 9 = .ok (.goto 9, 3) := by decide +kernel
theorem dL_victimByScan_12 : decode mL_victimByScan.2.1 12 = .ok (.astore_n 3, 1) := by decide +kernel
theorem dL_victimByScan_13 : decode mL_victimByScan.2.1 13 = .ok (.iconst 1, 1) := by decide +kernel
theorem dL_victimByScan_14 : decode mL_victimByScan.2.1 14 = .ok (.ireturn, 1) := by decide +kernel
theorem dL_victimByScan_15 : decode mL_victimByScan.2.1 15 = .ok (.astore_n 3, 1) := by decide +kernel
theorem dL_victimByScan_16 : decode mL_victimByScan.2.1 16 = .ok (.iconst 2, 1) := by decide +kernel
theorem dL_victimByScan_17 : decode mL_victimByScan.2.1 17 = .ok (.ireturn, 1) := by decide +kernel
theorem dL_victimByScan_18 : decode mL_victimByScan.2.1 18 = .ok (.iconst 0, 1) := by decide +kernel
theorem dL_victimByScan_19 : decode mL_victimByScan.2.1 19 = .ok (.ireturn, 1) := by decide +kernel
theorem dL_hear_0 : decode mL_hear.2.1 0 = .ok (.aload_n 3, 1) := by decide +kernel
theorem dL_hear_1 : decode mL_hear.2.1 1 = .ok (.iconst 0, 1) := by decide +kernel
theorem dL_hear_2 : decode mL_hear.2.1 2 = .ok (.aload_n 0, 1) := by decide +kernel
theorem dL_hear_3 : decode mL_hear.2.1 3 = .ok (.iload_n 1, 1) := by decide +kernel
theorem dL_hear_4 : decode mL_hear.2.1 4 = .ok (.iload_n 2, 1) := by decide +kernel
theorem dL_hear_5 : decode mL_hear.2.1 5 = .ok (.invokevirtual 96, 3) := by decide +kernel
theorem dL_hear_8 : decode mL_hear.2.1 8 = .ok (.i2l, 1) := by decide +kernel
theorem dL_hear_9 : decode mL_hear.2.1 9 = .ok (.lastore, 1) := by decide +kernel
theorem dL_hear_10 : decode mL_hear.2.1 10 = .ok (.goto 11, 3) := by decide +kernel
theorem dL_hear_13 : decode mL_hear.2.1 13 = .ok (.astore 4, 2) := by decide +kernel
theorem dL_hear_15 : decode mL_hear.2.1 15 = .ok (.iconst 1, 1) := by decide +kernel
theorem dL_hear_16 : decode mL_hear.2.1 16 = .ok (.ireturn, 1) := by decide +kernel
theorem dL_hear_17 : decode mL_hear.2.1 17 = .ok (.astore 4, 2) := by decide +kernel
theorem dL_hear_19 : decode mL_hear.2.1 19 = .ok (.iconst 2, 1) := by decide +kernel
theorem dL_hear_20 : decode mL_hear.2.1 20 = .ok (.ireturn, 1) := by decide +kernel
theorem dL_hear_21 : decode mL_hear.2.1 21 = .ok (.iconst 0, 1) := by decide +kernel
theorem dL_hear_22 : decode mL_hear.2.1 22 = .ok (.ireturn, 1) := by decide +kernel
theorem dL_outcomeOf_0 : decode mL_outcomeOf.2.1 0 = .ok (.aload_n 3, 1) := by decide +kernel
theorem dL_outcomeOf_1 : decode mL_outcomeOf.2.1 1 = .ok (.iconst 0, 1) := by decide +kernel
theorem dL_outcomeOf_2 : decode mL_outcomeOf.2.1 2 = .ok (.aload_n 0, 1) := by decide +kernel
theorem dL_outcomeOf_3 : decode mL_outcomeOf.2.1 3 = .ok (.iload_n 1, 1) := by decide +kernel
theorem dL_outcomeOf_4 : decode mL_outcomeOf.2.1 4 = .ok (.iload_n 2, 1) := by decide +kernel
theorem dL_outcomeOf_5 : decode mL_outcomeOf.2.1 5 = .ok (.invokevirtual 99, 3) := by decide +kernel
theorem dL_outcomeOf_8 : decode mL_outcomeOf.2.1 8 = .ok (.i2l, 1) := by decide +kernel
theorem dL_outcomeOf_9 : decode mL_outcomeOf.2.1 9 = .ok (.lastore, 1) := by decide +kernel
theorem dL_outcomeOf_10 : decode mL_outcomeOf.2.1 10 = .ok (.goto 11, 3) := by decide +kernel
theorem dL_outcomeOf_13 : decode mL_outcomeOf.2.1 13 = .ok (.astore 4, 2) := by decide +kernel
theorem dL_outcomeOf_15 : decode mL_outcomeOf.2.1 15 = .ok (.iconst 1, 1) := by decide +kernel
theorem dL_outcomeOf_16 : decode mL_outcomeOf.2.1 16 = .ok (.ireturn, 1) := by decide +kernel
theorem dL_outcomeOf_17 : decode mL_outcomeOf.2.1 17 = .ok (.astore 4, 2) := by decide +kernel
theorem dL_outcomeOf_19 : decode mL_outcomeOf.2.1 19 = .ok (.iconst 2, 1) := by decide +kernel
theorem dL_outcomeOf_20 : decode mL_outcomeOf.2.1 20 = .ok (.ireturn, 1) := by decide +kernel
theorem dL_outcomeOf_21 : decode mL_outcomeOf.2.1 21 = .ok (.iconst 0, 1) := by decide +kernel
theorem dL_outcomeOf_22 : decode mL_outcomeOf.2.1 22 = .ok (.ireturn, 1) := by decide +kernel
theorem dL_warm_0 : decode mL_warm.2.1 0 = .ok (.aload 4, 2) := by decide +kernel
theorem dL_warm_2 : decode mL_warm.2.1 2 = .ok (.iconst 0, 1) := by decide +kernel
theorem dL_warm_3 : decode mL_warm.2.1 3 = .ok (.aload_n 0, 1) := by decide +kernel
theorem dL_warm_4 : decode mL_warm.2.1 4 = .ok (.iload_n 1, 1) := by decide +kernel
theorem dL_warm_5 : decode mL_warm.2.1 5 = .ok (.iload_n 2, 1) := by decide +kernel
theorem dL_warm_6 : decode mL_warm.2.1 6 = .ok (.iload_n 3, 1) := by decide +kernel
theorem dL_warm_7 : decode mL_warm.2.1 7 = .ok (.invokevirtual 103, 3) := by decide +kernel
theorem dL_warm_10 : decode mL_warm.2.1 10 = .ok (.i2l, 1) := by decide +kernel
theorem dL_warm_11 : decode mL_warm.2.1 11 = .ok (.lastore, 1) := by decide +kernel
theorem dL_warm_12 : decode mL_warm.2.1 12 = .ok (.goto 19, 3) := by decide +kernel
theorem dL_warm_15 : decode mL_warm.2.1 15 = .ok (.astore 5, 2) := by decide +kernel
theorem dL_warm_17 : decode mL_warm.2.1 17 = .ok (.iconst 1, 1) := by decide +kernel
theorem dL_warm_18 : decode mL_warm.2.1 18 = .ok (.ireturn, 1) := by decide +kernel
theorem dL_warm_19 : decode mL_warm.2.1 19 = .ok (.astore 5, 2) := by decide +kernel
theorem dL_warm_21 : decode mL_warm.2.1 21 = .ok (.iconst 2, 1) := by decide +kernel
theorem dL_warm_22 : decode mL_warm.2.1 22 = .ok (.ireturn, 1) := by decide +kernel
theorem dL_warm_23 : decode mL_warm.2.1 23 = .ok (.astore 5, 2) := by decide +kernel
theorem dL_warm_25 : decode mL_warm.2.1 25 = .ok (.iconst 3, 1) := by decide +kernel
theorem dL_warm_26 : decode mL_warm.2.1 26 = .ok (.ireturn, 1) := by decide +kernel
theorem dL_warm_27 : decode mL_warm.2.1 27 = .ok (.astore 5, 2) := by decide +kernel
theorem dL_warm_29 : decode mL_warm.2.1 29 = .ok (.iconst 4, 1) := by decide +kernel
theorem dL_warm_30 : decode mL_warm.2.1 30 = .ok (.ireturn, 1) := by decide +kernel
theorem dL_warm_31 : decode mL_warm.2.1 31 = .ok (.iconst 0, 1) := by decide +kernel
theorem dL_warm_32 : decode mL_warm.2.1 32 = .ok (.ireturn, 1) := by decide +kernel
theorem dL_cancelWarming_0 : decode mL_cancelWarming.2.1 0 = .ok (.aload_n 2, 1) := by decide +kernel
theorem dL_cancelWarming_1 : decode mL_cancelWarming.2.1 1 = .ok (.iconst 0, 1) := by decide +kernel
theorem dL_cancelWarming_2 : decode mL_cancelWarming.2.1 2 = .ok (.aload_n 0, 1) := by decide +kernel
theorem dL_cancelWarming_3 : decode mL_cancelWarming.2.1 3 = .ok (.iload_n 1, 1) := by decide +kernel
theorem dL_cancelWarming_4 : decode mL_cancelWarming.2.1 4 = .ok (.invokevirtual 107, 3) := by decide +kernel
theorem dL_cancelWarming_7 : decode mL_cancelWarming.2.1 7 = .ok (.i2l, 1) := by decide +kernel
theorem dL_cancelWarming_8 : decode mL_cancelWarming.2.1 8 = .ok (.lastore, 1) := by decide +kernel
theorem dL_cancelWarming_9 : decode mL_cancelWarming.2.1 9 = .ok (.goto 6, 3) := by decide +kernel
theorem dL_cancelWarming_12 : decode mL_cancelWarming.2.1 12 = .ok (.astore_n 3, 1) := by decide +kernel
theorem dL_cancelWarming_13 : decode mL_cancelWarming.2.1 13 = .ok (.iconst 1, 1) := by decide +kernel
theorem dL_cancelWarming_14 : decode mL_cancelWarming.2.1 14 = .ok (.ireturn, 1) := by decide +kernel
theorem dL_cancelWarming_15 : decode mL_cancelWarming.2.1 15 = .ok (.iconst 0, 1) := by decide +kernel
theorem dL_cancelWarming_16 : decode mL_cancelWarming.2.1 16 = .ok (.ireturn, 1) := by decide +kernel
theorem dL_pass_0 : decode mL_pass.2.1 0 = .ok (.aload_n 2, 1) := by decide +kernel
theorem dL_pass_1 : decode mL_pass.2.1 1 = .ok (.iconst 0, 1) := by decide +kernel
theorem dL_pass_2 : decode mL_pass.2.1 2 = .ok (.aload_n 0, 1) := by decide +kernel
theorem dL_pass_3 : decode mL_pass.2.1 3 = .ok (.iload_n 1, 1) := by decide +kernel
theorem dL_pass_4 : decode mL_pass.2.1 4 = .ok (.invokevirtual 110, 3) := by decide +kernel
theorem dL_pass_7 : decode mL_pass.2.1 7 = .ok (.i2l, 1) := by decide +kernel
theorem dL_pass_8 : decode mL_pass.2.1 8 = .ok (.lastore, 1) := by decide +kernel
theorem dL_pass_9 : decode mL_pass.2.1 9 = .ok (.goto 6, 3) := by decide +kernel
theorem dL_pass_12 : decode mL_pass.2.1 12 = .ok (.astore_n 3, 1) := by decide +kernel
theorem dL_pass_13 : decode mL_pass.2.1 13 = .ok (.iconst 1, 1) := by decide +kernel
theorem dL_pass_14 : decode mL_pass.2.1 14 = .ok (.ireturn, 1) := by decide +kernel
theorem dL_pass_15 : decode mL_pass.2.1 15 = .ok (.iconst 0, 1) := by decide +kernel
theorem dL_pass_16 : decode mL_pass.2.1 16 = .ok (.ireturn, 1) := by decide +kernel
theorem dL_warmingMinute_0 : decode mL_warmingMinute.2.1 0 = .ok (.aload_n 2, 1) := by decide +kernel
theorem dL_warmingMinute_1 : decode mL_warmingMinute.2.1 1 = .ok (.iconst 0, 1) := by decide +kernel
theorem dL_warmingMinute_2 : decode mL_warmingMinute.2.1 2 = .ok (.aload_n 0, 1) := by decide +kernel
theorem dL_warmingMinute_3 : decode mL_warmingMinute.2.1 3 = .ok (.iload_n 1, 1) := by decide +kernel
theorem dL_warmingMinute_4 : decode mL_warmingMinute.2.1 4 = .ok (.invokevirtual 113, 3) := by decide +kernel
theorem dL_warmingMinute_7 : decode mL_warmingMinute.2.1 7 = .ok (.i2l, 1) := by decide +kernel
theorem dL_warmingMinute_8 : decode mL_warmingMinute.2.1 8 = .ok (.lastore, 1) := by decide +kernel
theorem dL_warmingMinute_9 : decode mL_warmingMinute.2.1 9 = .ok (.goto 6, 3) := by decide +kernel
theorem dL_warmingMinute_12 : decode mL_warmingMinute.2.1 12 = .ok (.astore_n 3, 1) := by decide +kernel
theorem dL_warmingMinute_13 : decode mL_warmingMinute.2.1 13 = .ok (.iconst 1, 1) := by decide +kernel
theorem dL_warmingMinute_14 : decode mL_warmingMinute.2.1 14 = .ok (.ireturn, 1) := by decide +kernel
theorem dL_warmingMinute_15 : decode mL_warmingMinute.2.1 15 = .ok (.iconst 0, 1) := by decide +kernel
theorem dL_warmingMinute_16 : decode mL_warmingMinute.2.1 16 = .ok (.ireturn, 1) := by decide +kernel
theorem dL_warmingJar_0 : decode mL_warmingJar.2.1 0 = .ok (.aload_n 2, 1) := by decide +kernel
theorem dL_warmingJar_1 : decode mL_warmingJar.2.1 1 = .ok (.iconst 0, 1) := by decide +kernel
theorem dL_warmingJar_2 : decode mL_warmingJar.2.1 2 = .ok (.aload_n 0, 1) := by decide +kernel
theorem dL_warmingJar_3 : decode mL_warmingJar.2.1 3 = .ok (.iload_n 1, 1) := by decide +kernel
theorem dL_warmingJar_4 : decode mL_warmingJar.2.1 4 = .ok (.invokevirtual 116, 3) := by decide +kernel
theorem dL_warmingJar_7 : decode mL_warmingJar.2.1 7 = .ok (.i2l, 1) := by decide +kernel
theorem dL_warmingJar_8 : decode mL_warmingJar.2.1 8 = .ok (.lastore, 1) := by decide +kernel
theorem dL_warmingJar_9 : decode mL_warmingJar.2.1 9 = .ok (.goto 6, 3) := by decide +kernel
theorem dL_warmingJar_12 : decode mL_warmingJar.2.1 12 = .ok (.astore_n 3, 1) := by decide +kernel
theorem dL_warmingJar_13 : decode mL_warmingJar.2.1 13 = .ok (.iconst 1, 1) := by decide +kernel
theorem dL_warmingJar_14 : decode mL_warmingJar.2.1 14 = .ok (.ireturn, 1) := by decide +kernel
theorem dL_warmingJar_15 : decode mL_warmingJar.2.1 15 = .ok (.iconst 0, 1) := by decide +kernel
theorem dL_warmingJar_16 : decode mL_warmingJar.2.1 16 = .ok (.ireturn, 1) := by decide +kernel
theorem dL_misses_0 : decode mL_misses.2.1 0 = .ok (.aload_n 2, 1) := by decide +kernel
theorem dL_misses_1 : decode mL_misses.2.1 1 = .ok (.iconst 0, 1) := by decide +kernel
theorem dL_misses_2 : decode mL_misses.2.1 2 = .ok (.aload_n 0, 1) := by decide +kernel
theorem dL_misses_3 : decode mL_misses.2.1 3 = .ok (.iload_n 1, 1) := by decide +kernel
theorem dL_misses_4 : decode mL_misses.2.1 4 = .ok (.invokevirtual 119, 3) := by decide +kernel
theorem dL_misses_7 : decode mL_misses.2.1 7 = .ok (.i2l, 1) := by decide +kernel
theorem dL_misses_8 : decode mL_misses.2.1 8 = .ok (.lastore, 1) := by decide +kernel
theorem dL_misses_9 : decode mL_misses.2.1 9 = .ok (.goto 6, 3) := by decide +kernel
theorem dL_misses_12 : decode mL_misses.2.1 12 = .ok (.astore_n 3, 1) := by decide +kernel
theorem dL_misses_13 : decode mL_misses.2.1 13 = .ok (.iconst 1, 1) := by decide +kernel
theorem dL_misses_14 : decode mL_misses.2.1 14 = .ok (.ireturn, 1) := by decide +kernel
theorem dL_misses_15 : decode mL_misses.2.1 15 = .ok (.iconst 0, 1) := by decide +kernel
theorem dL_misses_16 : decode mL_misses.2.1 16 = .ok (.ireturn, 1) := by decide +kernel
theorem dL_hitShare_0 : decode mL_hitShare.2.1 0 = .ok (.aload_n 1, 1) := by decide +kernel
theorem dL_hitShare_1 : decode mL_hitShare.2.1 1 = .ok (.iconst 0, 1) := by decide +kernel
theorem dL_hitShare_2 : decode mL_hitShare.2.1 2 = .ok (.aload_n 0, 1) := by decide +kernel
theorem dL_hitShare_3 : decode mL_hitShare.2.1 3 = .ok (.invokevirtual 122, 3) := by decide +kernel
theorem dL_hitShare_6 : decode mL_hitShare.2.1 6 = .ok (.f2d, 1) := by decide +kernel
theorem dL_hitShare_7 : decode mL_hitShare.2.1 7 = .ok (.dastore, 1) := by decide +kernel
theorem dL_hitShare_8 : decode mL_hitShare.2.1 8 = .ok (.goto 6, 3) := by decide +kernel
theorem dL_hitShare_11 : decode mL_hitShare.2.1 11 = .ok (.astore_n 2, 1) := by decide +kernel
theorem dL_hitShare_12 : decode mL_hitShare.2.1 12 = .ok (.iconst 1, 1) := by decide +kernel
theorem dL_hitShare_13 : decode mL_hitShare.2.1 13 = .ok (.ireturn, 1) := by decide +kernel
theorem dL_hitShare_14 : decode mL_hitShare.2.1 14 = .ok (.iconst 0, 1) := by decide +kernel
theorem dL_hitShare_15 : decode mL_hitShare.2.1 15 = .ok (.ireturn, 1) := by decide +kernel
theorem dL_meanAge_0 : decode mL_meanAge.2.1 0 = .ok (.aload_n 1, 1) := by decide +kernel
theorem dL_meanAge_1 : decode mL_meanAge.2.1 1 = .ok (.iconst 0, 1) := by decide +kernel
theorem dL_meanAge_2 : decode mL_meanAge.2.1 2 = .ok (.aload_n 0, 1) := by decide +kernel
theorem dL_meanAge_3 : decode mL_meanAge.2.1 3 = .ok (.invokevirtual 128, 3) := by decide +kernel
theorem dL_meanAge_6 : decode mL_meanAge.2.1 6 = .ok (.dastore, 1) := by decide +kernel
theorem dL_meanAge_7 : decode mL_meanAge.2.1 7 = .ok (.goto 6, 3) := by decide +kernel
theorem dL_meanAge_10 : decode mL_meanAge.2.1 10 = .ok (.astore_n 2, 1) := by decide +kernel
theorem dL_meanAge_11 : decode mL_meanAge.2.1 11 = .ok (.iconst 1, 1) := by decide +kernel
theorem dL_meanAge_12 : decode mL_meanAge.2.1 12 = .ok (.ireturn, 1) := by decide +kernel
theorem dL_meanAge_13 : decode mL_meanAge.2.1 13 = .ok (.iconst 0, 1) := by decide +kernel
theorem dL_meanAge_14 : decode mL_meanAge.2.1 14 = .ok (.ireturn, 1) := by decide +kernel
theorem dL_shelfByHits_0 : decode mL_shelfByHits.2.1 0 = .ok (.aload_n 2, 1) := by decide +kernel
theorem dL_shelfByHits_1 : decode mL_shelfByHits.2.1 1 = .ok (.iconst 0, 1) := by decide +kernel
theorem dL_shelfByHits_2 : decode mL_shelfByHits.2.1 2 = .ok (.aload_n 0, 1) := by decide +kernel
theorem dL_shelfByHits_3 : decode mL_shelfByHits.2.1 3 = .ok (.iload_n 1, 1) := by decide +kernel
theorem dL_shelfByHits_4 : decode mL_shelfByHits.2.1 4 = .ok (.invokevirtual 132, 3) := by decide +kernel
theorem dL_shelfByHits_7 : decode mL_shelfByHits.2.1 7 = .ok (.i2l, 1) := by decide +kernel
theorem dL_shelfByHits_8 : decode mL_shelfByHits.2.1 8 = .ok (.lastore, 1) := by decide +kernel
theorem dL_shelfByHits_9 : decode mL_shelfByHits.2.1 9 = .ok (.goto 6, 3) := by decide +kernel
theorem dL_shelfByHits_12 : decode mL_shelfByHits.2.1 12 = .ok (.astore_n 3, 1) := by decide +kernel
theorem dL_shelfByHits_13 : decode mL_shelfByHits.2.1 13 = .ok (.iconst 1, 1) := by decide +kernel
theorem dL_shelfByHits_14 : decode mL_shelfByHits.2.1 14 = .ok (.ireturn, 1) := by decide +kernel
theorem dL_shelfByHits_15 : decode mL_shelfByHits.2.1 15 = .ok (.iconst 0, 1) := by decide +kernel
theorem dL_shelfByHits_16 : decode mL_shelfByHits.2.1 16 = .ok (.ireturn, 1) := by decide +kernel
theorem dL_writeShelf_0 : decode mL_writeShelf.2.1 0 = .ok (.aload_n 2, 1) := by decide +kernel
theorem dL_writeShelf_1 : decode mL_writeShelf.2.1 1 = .ok (.iconst 0, 1) := by decide +kernel
theorem dL_writeShelf_2 : decode mL_writeShelf.2.1 2 = .ok (.aload_n 0, 1) := by decide +kernel
theorem dL_writeShelf_3 : decode mL_writeShelf.2.1 3 = .ok (.iload_n 1, 1) := by decide +kernel
theorem dL_writeShelf_4 : decode mL_writeShelf.2.1 4 = .ok (.invokevirtual 135, 3) := by decide +kernel
theorem dL_writeShelf_7 : decode mL_writeShelf.2.1 7 = .ok (.i2l, 1) := by decide +kernel
theorem dL_writeShelf_8 : decode mL_writeShelf.2.1 8 = .ok (.lastore, 1) := by decide +kernel
theorem dL_writeShelf_9 : decode mL_writeShelf.2.1 9 = .ok (.goto 6, 3) := by decide +kernel
theorem dL_writeShelf_12 : decode mL_writeShelf.2.1 12 = .ok (.astore_n 3, 1) := by decide +kernel
theorem dL_writeShelf_13 : decode mL_writeShelf.2.1 13 = .ok (.iconst 1, 1) := by decide +kernel
theorem dL_writeShelf_14 : decode mL_writeShelf.2.1 14 = .ok (.ireturn, 1) := by decide +kernel
theorem dL_writeShelf_15 : decode mL_writeShelf.2.1 15 = .ok (.iconst 0, 1) := by decide +kernel
theorem dL_writeShelf_16 : decode mL_writeShelf.2.1 16 = .ok (.ireturn, 1) := by decide +kernel
theorem dL_lineAt_0 : decode mL_lineAt.2.1 0 = .ok (.aload_n 2, 1) := by decide +kernel
theorem dL_lineAt_1 : decode mL_lineAt.2.1 1 = .ok (.iconst 0, 1) := by decide +kernel
theorem dL_lineAt_2 : decode mL_lineAt.2.1 2 = .ok (.aload_n 0, 1) := by decide +kernel
theorem dL_lineAt_3 : decode mL_lineAt.2.1 3 = .ok (.iload_n 1, 1) := by decide +kernel
theorem dL_lineAt_4 : decode mL_lineAt.2.1 4 = .ok (.invokevirtual 138, 3) := by decide +kernel
theorem dL_lineAt_7 : decode mL_lineAt.2.1 7 = .ok (.i2l, 1) := by decide +kernel
theorem dL_lineAt_8 : decode mL_lineAt.2.1 8 = .ok (.lastore, 1) := by decide +kernel
theorem dL_lineAt_9 : decode mL_lineAt.2.1 9 = .ok (.goto 6, 3) := by decide +kernel
theorem dL_lineAt_12 : decode mL_lineAt.2.1 12 = .ok (.astore_n 3, 1) := by decide +kernel
theorem dL_lineAt_13 : decode mL_lineAt.2.1 13 = .ok (.iconst 1, 1) := by decide +kernel
theorem dL_lineAt_14 : decode mL_lineAt.2.1 14 = .ok (.ireturn, 1) := by decide +kernel
theorem dL_lineAt_15 : decode mL_lineAt.2.1 15 = .ok (.iconst 0, 1) := by decide +kernel
theorem dL_lineAt_16 : decode mL_lineAt.2.1 16 = .ok (.ireturn, 1) := by decide +kernel
theorem dL_type_0 : decode mL_type.2.1 0 = .ok (.aload_n 2, 1) := by decide +kernel
theorem dL_type_1 : decode mL_type.2.1 1 = .ok (.iconst 0, 1) := by decide +kernel
theorem dL_type_2 : decode mL_type.2.1 2 = .ok (.aload_n 0, 1) := by decide +kernel
theorem dL_type_3 : decode mL_type.2.1 3 = .ok (.iload_n 1, 1) := by decide +kernel
theorem dL_type_4 : decode mL_type.2.1 4 = .ok (.invokevirtual 141, 3) := by decide +kernel
theorem dL_type_7 : decode mL_type.2.1 7 = .ok (.i2l, 1) := by decide +kernel
theorem dL_type_8 : decode mL_type.2.1 8 = .ok (.lastore, 1) := by decide +kernel
theorem dL_type_9 : decode mL_type.2.1 9 = .ok (.goto 9, 3) := by decide +kernel
theorem dL_type_12 : decode mL_type.2.1 12 = .ok (.astore_n 3, 1) := by decide +kernel
theorem dL_type_13 : decode mL_type.2.1 13 = .ok (.iconst 1, 1) := by decide +kernel
theorem dL_type_14 : decode mL_type.2.1 14 = .ok (.ireturn, 1) := by decide +kernel
theorem dL_type_15 : decode mL_type.2.1 15 = .ok (.astore_n 3, 1) := by decide +kernel
theorem dL_type_16 : decode mL_type.2.1 16 = .ok (.iconst 2, 1) := by decide +kernel
theorem dL_type_17 : decode mL_type.2.1 17 = .ok (.ireturn, 1) := by decide +kernel
theorem dL_type_18 : decode mL_type.2.1 18 = .ok (.iconst 0, 1) := by decide +kernel
theorem dL_type_19 : decode mL_type.2.1 19 = .ok (.ireturn, 1) := by decide +kernel
theorem dL_execute_0 : decode mL_execute.2.1 0 = .ok (.aload_n 1, 1) := by decide +kernel
theorem dL_execute_1 : decode mL_execute.2.1 1 = .ok (.iconst 0, 1) := by decide +kernel
theorem dL_execute_2 : decode mL_execute.2.1 2 = .ok (.aload_n 0, 1) := by decide +kernel
theorem dL_execute_3 : decode mL_execute.2.1 3 = .ok (.invokevirtual 144, 3) := by decide +kernel
theorem dL_execute_6 : decode mL_execute.2.1 6 = .ok (.i2l, 1) := by decide +kernel
theorem dL_execute_7 : decode mL_execute.2.1 7 = .ok (.lastore, 1) := by decide +kernel
theorem dL_execute_8 : decode mL_execute.2.1 8 = .ok (.goto 9, 3) := by decide +kernel
theorem dL_execute_11 : decode mL_execute.2.1 11 = .ok (.astore_n 2, 1) := by decide +kernel
theorem dL_execute_12 : decode mL_execute.2.1 12 = .ok (.iconst 1, 1) := by decide +kernel
theorem dL_execute_13 : decode mL_execute.2.1 13 = .ok (.ireturn, 1) := by decide +kernel
theorem dL_execute_14 : decode mL_execute.2.1 14 = .ok (.astore_n 2, 1) := by decide +kernel
theorem dL_execute_15 : decode mL_execute.2.1 15 = .ok (.iconst 2, 1) := by decide +kernel
theorem dL_execute_16 : decode mL_execute.2.1 16 = .ok (.ireturn, 1) := by decide +kernel
theorem dL_execute_17 : decode mL_execute.2.1 17 = .ok (.iconst 0, 1) := by decide +kernel
theorem dL_execute_18 : decode mL_execute.2.1 18 = .ok (.ireturn, 1) := by decide +kernel
theorem dL_errorPosition_0 : decode mL_errorPosition.2.1 0 = .ok (.aload_n 1, 1) := by decide +kernel
theorem dL_errorPosition_1 : decode mL_errorPosition.2.1 1 = .ok (.iconst 0, 1) := by decide +kernel
theorem dL_errorPosition_2 : decode mL_errorPosition.2.1 2 = .ok (.aload_n 0, 1) := by decide +kernel
theorem dL_errorPosition_3 : decode mL_errorPosition.2.1 3 = .ok (.invokevirtual 148, 3) := by decide +kernel
theorem dL_errorPosition_6 : decode mL_errorPosition.2.1 6 = .ok (.i2l, 1) := by decide +kernel
theorem dL_errorPosition_7 : decode mL_errorPosition.2.1 7 = .ok (.lastore, 1) := by decide +kernel
theorem dL_errorPosition_8 : decode mL_errorPosition.2.1 8 = .ok (.goto 6, 3) := by decide +kernel
theorem dL_errorPosition_11 : decode mL_errorPosition.2.1 11 = .ok (.astore_n 2, 1) := by decide +kernel
theorem dL_errorPosition_12 : decode mL_errorPosition.2.1 12 = .ok (.iconst 1, 1) := by decide +kernel
theorem dL_errorPosition_13 : decode mL_errorPosition.2.1 13 = .ok (.ireturn, 1) := by decide +kernel
theorem dL_errorPosition_14 : decode mL_errorPosition.2.1 14 = .ok (.iconst 0, 1) := by decide +kernel
theorem dL_errorPosition_15 : decode mL_errorPosition.2.1 15 = .ok (.ireturn, 1) := by decide +kernel
theorem dL_failedCommand_0 : decode mL_failedCommand.2.1 0 = .ok (.aload_n 1, 1) := by decide +kernel
theorem dL_failedCommand_1 : decode mL_failedCommand.2.1 1 = .ok (.iconst 0, 1) := by decide +kernel
theorem dL_failedCommand_2 : decode mL_failedCommand.2.1 2 = .ok (.aload_n 0, 1) := by decide +kernel
theorem dL_failedCommand_3 : decode mL_failedCommand.2.1 3 = .ok (.invokevirtual 151, 3) := by decide +kernel
theorem dL_failedCommand_6 : decode mL_failedCommand.2.1 6 = .ok (.i2l, 1) := by decide +kernel
theorem dL_failedCommand_7 : decode mL_failedCommand.2.1 7 = .ok (.lastore, 1) := by decide +kernel
theorem dL_failedCommand_8 : decode mL_failedCommand.2.1 8 = .ok (.goto 6, 3) := by decide +kernel
theorem dL_failedCommand_11 : decode mL_failedCommand.2.1 11 = .ok (.astore_n 2, 1) := by decide +kernel
theorem dL_failedCommand_12 : decode mL_failedCommand.2.1 12 = .ok (.iconst 1, 1) := by decide +kernel
theorem dL_failedCommand_13 : decode mL_failedCommand.2.1 13 = .ok (.ireturn, 1) := by decide +kernel
theorem dL_failedCommand_14 : decode mL_failedCommand.2.1 14 = .ok (.iconst 0, 1) := by decide +kernel
theorem dL_failedCommand_15 : decode mL_failedCommand.2.1 15 = .ok (.ireturn, 1) := by decide +kernel
theorem dL_undo_0 : decode mL_undo.2.1 0 = .ok (.aload_n 1, 1) := by decide +kernel
theorem dL_undo_1 : decode mL_undo.2.1 1 = .ok (.iconst 0, 1) := by decide +kernel
theorem dL_undo_2 : decode mL_undo.2.1 2 = .ok (.aload_n 0, 1) := by decide +kernel
theorem dL_undo_3 : decode mL_undo.2.1 3 = .ok (.invokevirtual 154, 3) := by decide +kernel
theorem dL_undo_6 : decode mL_undo.2.1 6 = .ok (.i2l, 1) := by decide +kernel
theorem dL_undo_7 : decode mL_undo.2.1 7 = .ok (.lastore, 1) := by decide +kernel
theorem dL_undo_8 : decode mL_undo.2.1 8 = .ok (.goto 6, 3) := by decide +kernel
theorem dL_undo_11 : decode mL_undo.2.1 11 = .ok (.astore_n 2, 1) := by decide +kernel
theorem dL_undo_12 : decode mL_undo.2.1 12 = .ok (.iconst 1, 1) := by decide +kernel
theorem dL_undo_13 : decode mL_undo.2.1 13 = .ok (.ireturn, 1) := by decide +kernel
theorem dL_undo_14 : decode mL_undo.2.1 14 = .ok (.iconst 0, 1) := by decide +kernel
theorem dL_undo_15 : decode mL_undo.2.1 15 = .ok (.ireturn, 1) := by decide +kernel
theorem dL_restore_0 : decode mL_restore.2.1 0 = .ok (.aload_n 1, 1) := by decide +kernel
theorem dL_restore_1 : decode mL_restore.2.1 1 = .ok (.iconst 0, 1) := by decide +kernel
theorem dL_restore_2 : decode mL_restore.2.1 2 = .ok (.aload_n 0, 1) := by decide +kernel
theorem dL_restore_3 : decode mL_restore.2.1 3 = .ok (.invokevirtual 157, 3) := by decide +kernel
theorem dL_restore_6 : decode mL_restore.2.1 6 = .ok (.i2l, 1) := by decide +kernel
theorem dL_restore_7 : decode mL_restore.2.1 7 = .ok (.lastore, 1) := by decide +kernel
theorem dL_restore_8 : decode mL_restore.2.1 8 = .ok (.goto 6, 3) := by decide +kernel
theorem dL_restore_11 : decode mL_restore.2.1 11 = .ok (.astore_n 2, 1) := by decide +kernel
theorem dL_restore_12 : decode mL_restore.2.1 12 = .ok (.iconst 1, 1) := by decide +kernel
theorem dL_restore_13 : decode mL_restore.2.1 13 = .ok (.ireturn, 1) := by decide +kernel
theorem dL_restore_14 : decode mL_restore.2.1 14 = .ok (.iconst 0, 1) := by decide +kernel
theorem dL_restore_15 : decode mL_restore.2.1 15 = .ok (.ireturn, 1) := by decide +kernel
