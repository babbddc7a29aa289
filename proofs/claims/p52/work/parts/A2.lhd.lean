/-! ===== the helpers of the law: what they are, and what they answer ===== -/
theorem h_bipush {G : GG} {M : SIG} {hh : List (Nat × Nat × Nat × Nat)} {rm : Room} {uc us pc : Nat} {L : List (Option VV)} {S : List VV} {σ : Mm} {K : RES → Mm → Prop} {n : Int} {v : Int32} (hd : decode M.2.1 pc = .ok (.bipush n, 2)) (hv : (Int8.ofInt n).toInt32 = v) (k : AtH G M hh rm uc us (pc + 2) L (vI v :: S) σ K) : AtH G M hh rm uc us pc L S σ K :=
  fun p e s m args below meth c H locs ls C h1 h2 h3 h4 => lv_bipush C.1 C.2.1 hd hv (k p e s m args below meth c H locs ls C h1 h2 h3 h4)
theorem w_0 : (Jvm.Cond.initialized "EchoPantryLaw") ∈ TBL := tk_1 (List.mem_of_getElem? (i := 0) rfl) rfl
theorem w_367 : (Jvm.Cond.codeWith ({ cls := "EchoPantryLaw", name := "addJar", desc := "(LEchoPantry;CI)I" } : Jvm.MethodName) method_3_code (4 : Nat) (Option.some Jvm.ClassFile.FieldType.int) [((0 : Nat), (6 : Nat), (7 : Nat), (14 : Nat)), ((0 : Nat), (6 : Nat), (10 : Nat), (16 : Nat))]) ∈ TBL := tk_2 (List.mem_of_getElem? (i := 127) rfl) rfl
theorem w_368 : (Jvm.Cond.classLink "EchoPantryLaw" (14 : Nat) "java/lang/IllegalArgumentException") ∈ TBL := tk_2 (List.mem_of_getElem? (i := 128) rfl) rfl
theorem w_369 : (Jvm.Cond.classLink "EchoPantryLaw" (16 : Nat) "java/lang/IllegalStateException") ∈ TBL := tk_2 (List.mem_of_getElem? (i := 129) rfl) rfl
theorem w_370 : (Jvm.Cond.methodLink "EchoPantryLaw" (8 : Nat) ({ cls := "EchoPantry", name := "addJar", desc := "(CI)I" } : Jvm.MethodName)) ∈ TBL := tk_2 (List.mem_of_getElem? (i := 130) rfl) rfl
theorem w_371 : (Jvm.Cond.instanceMethod ({ cls := "EchoPantry", name := "addJar", desc := "(CI)I" } : Jvm.MethodName)) ∈ TBL := tk_2 (List.mem_of_getElem? (i := 131) rfl) rfl
theorem w_372 : (Jvm.Cond.selects "EchoPantry" ({ cls := "EchoPantry", name := "addJar", desc := "(CI)I" } : Jvm.MethodName) ({ cls := "EchoPantry", name := "addJar", desc := "(CI)I" } : Jvm.MethodName)) ∈ TBL := tk_2 (List.mem_of_getElem? (i := 132) rfl) rfl
theorem w_373 : (Jvm.Cond.code ({ cls := "EchoPantry", name := "addJar", desc := "(CI)I" } : Jvm.MethodName) prog_1_method_2_code (3 : Nat) (Option.some Jvm.ClassFile.FieldType.int)) ∈ TBL := tk_2 (List.mem_of_getElem? (i := 133) rfl) rfl
theorem w_601 : (Jvm.Cond.codeWith ({ cls := "EchoPantryLaw", name := "addShelf", desc := "(LEchoPantry;IIC)I" } : Jvm.MethodName) method_8_code (5 : Nat) (Option.some Jvm.ClassFile.FieldType.int) [((0 : Nat), (7 : Nat), (8 : Nat), (14 : Nat)), ((0 : Nat), (7 : Nat), (12 : Nat), (16 : Nat))]) ∈ TBL := tk_3 (List.mem_of_getElem? (i := 121) rfl) rfl
theorem w_602 : (Jvm.Cond.methodLink "EchoPantryLaw" (36 : Nat) ({ cls := "EchoPantry", name := "addShelf", desc := "(IIC)I" } : Jvm.MethodName)) ∈ TBL := tk_3 (List.mem_of_getElem? (i := 122) rfl) rfl
theorem w_603 : (Jvm.Cond.instanceMethod ({ cls := "EchoPantry", name := "addShelf", desc := "(IIC)I" } : Jvm.MethodName)) ∈ TBL := tk_3 (List.mem_of_getElem? (i := 123) rfl) rfl
theorem w_604 : (Jvm.Cond.selects "EchoPantry" ({ cls := "EchoPantry", name := "addShelf", desc := "(IIC)I" } : Jvm.MethodName) ({ cls := "EchoPantry", name := "addShelf", desc := "(IIC)I" } : Jvm.MethodName)) ∈ TBL := tk_3 (List.mem_of_getElem? (i := 124) rfl) rfl
theorem w_605 : (Jvm.Cond.code ({ cls := "EchoPantry", name := "addShelf", desc := "(IIC)I" } : Jvm.MethodName) prog_1_method_8_code (4 : Nat) (Option.some Jvm.ClassFile.FieldType.int)) ∈ TBL := tk_3 (List.mem_of_getElem? (i := 125) rfl) rfl
theorem w_624 : (Jvm.Cond.codeWith ({ cls := "EchoPantryLaw", name := "hear", desc := "(LEchoPantry;IC)I" } : Jvm.MethodName) method_26_code (4 : Nat) (Option.some Jvm.ClassFile.FieldType.int) [((0 : Nat), (6 : Nat), (7 : Nat), (31 : Nat)), ((0 : Nat), (6 : Nat), (10 : Nat), (22 : Nat))]) ∈ TBL := tk_3 (List.mem_of_getElem? (i := 144) rfl) rfl
theorem w_625 : (Jvm.Cond.classLink "EchoPantryLaw" (31 : Nat) "java/lang/IndexOutOfBoundsException") ∈ TBL := tk_3 (List.mem_of_getElem? (i := 145) rfl) rfl
theorem w_646 : (Jvm.Cond.classLink "EchoPantryLaw" (22 : Nat) "java/util/NoSuchElementException") ∈ TBL := tk_3 (List.mem_of_getElem? (i := 166) rfl) rfl
theorem w_647 : (Jvm.Cond.methodLink "EchoPantryLaw" (97 : Nat) ({ cls := "EchoPantry", name := "hear", desc := "(IC)I" } : Jvm.MethodName)) ∈ TBL := tk_3 (List.mem_of_getElem? (i := 167) rfl) rfl
theorem w_648 : (Jvm.Cond.instanceMethod ({ cls := "EchoPantry", name := "hear", desc := "(IC)I" } : Jvm.MethodName)) ∈ TBL := tk_3 (List.mem_of_getElem? (i := 168) rfl) rfl
theorem w_649 : (Jvm.Cond.selects "EchoPantry" ({ cls := "EchoPantry", name := "hear", desc := "(IC)I" } : Jvm.MethodName) ({ cls := "EchoPantry", name := "hear", desc := "(IC)I" } : Jvm.MethodName)) ∈ TBL := tk_3 (List.mem_of_getElem? (i := 169) rfl) rfl
theorem w_650 : (Jvm.Cond.code ({ cls := "EchoPantry", name := "hear", desc := "(IC)I" } : Jvm.MethodName) prog_1_method_27_code (3 : Nat) (Option.some Jvm.ClassFile.FieldType.int)) ∈ TBL := tk_3 (List.mem_of_getElem? (i := 170) rfl) rfl
theorem w_722 : (Jvm.Cond.codeWith ({ cls := "EchoPantryLaw", name := "say", desc := "(LEchoPantry;CI)I" } : Jvm.MethodName) method_5_code (4 : Nat) (Option.some Jvm.ClassFile.FieldType.int) [((0 : Nat), (6 : Nat), (7 : Nat), (22 : Nat)), ((0 : Nat), (6 : Nat), (10 : Nat), (14 : Nat))]) ∈ TBL := tk_4 (List.mem_of_getElem? (i := 2) rfl) rfl
theorem w_723 : (Jvm.Cond.methodLink "EchoPantryLaw" (24 : Nat) ({ cls := "EchoPantry", name := "say", desc := "(CI)I" } : Jvm.MethodName)) ∈ TBL := tk_4 (List.mem_of_getElem? (i := 3) rfl) rfl
theorem w_724 : (Jvm.Cond.instanceMethod ({ cls := "EchoPantry", name := "say", desc := "(CI)I" } : Jvm.MethodName)) ∈ TBL := tk_4 (List.mem_of_getElem? (i := 4) rfl) rfl
theorem w_725 : (Jvm.Cond.selects "EchoPantry" ({ cls := "EchoPantry", name := "say", desc := "(CI)I" } : Jvm.MethodName) ({ cls := "EchoPantry", name := "say", desc := "(CI)I" } : Jvm.MethodName)) ∈ TBL := tk_4 (List.mem_of_getElem? (i := 5) rfl) rfl
theorem w_726 : (Jvm.Cond.code ({ cls := "EchoPantry", name := "say", desc := "(CI)I" } : Jvm.MethodName) prog_1_method_4_code (3 : Nat) (Option.some Jvm.ClassFile.FieldType.int)) ∈ TBL := tk_4 (List.mem_of_getElem? (i := 6) rfl) rfl
theorem w_741 : (Jvm.Cond.codeWith ({ cls := "EchoPantryLaw", name := "warm", desc := "(LEchoPantry;ICI)I" } : Jvm.MethodName) method_28_code (5 : Nat) (Option.some Jvm.ClassFile.FieldType.int) [((0 : Nat), (7 : Nat), (8 : Nat), (31 : Nat)), ((0 : Nat), (7 : Nat), (12 : Nat), (22 : Nat)), ((0 : Nat), (7 : Nat), (17 : Nat), (14 : Nat)), ((0 : Nat), (7 : Nat), (22 : Nat), (16 : Nat))]) ∈ TBL := tk_4 (List.mem_of_getElem? (i := 21) rfl) rfl
theorem w_742 : (Jvm.Cond.methodLink "EchoPantryLaw" (104 : Nat) ({ cls := "EchoPantry", name := "warm", desc := "(ICI)I" } : Jvm.MethodName)) ∈ TBL := tk_4 (List.mem_of_getElem? (i := 22) rfl) rfl
theorem w_743 : (Jvm.Cond.instanceMethod ({ cls := "EchoPantry", name := "warm", desc := "(ICI)I" } : Jvm.MethodName)) ∈ TBL := tk_4 (List.mem_of_getElem? (i := 23) rfl) rfl
theorem w_744 : (Jvm.Cond.selects "EchoPantry" ({ cls := "EchoPantry", name := "warm", desc := "(ICI)I" } : Jvm.MethodName) ({ cls := "EchoPantry", name := "warm", desc := "(ICI)I" } : Jvm.MethodName)) ∈ TBL := tk_4 (List.mem_of_getElem? (i := 24) rfl) rfl
theorem w_745 : (Jvm.Cond.code ({ cls := "EchoPantry", name := "warm", desc := "(ICI)I" } : Jvm.MethodName) prog_1_method_29_code (4 : Nat) (Option.some Jvm.ClassFile.FieldType.int)) ∈ TBL := tk_4 (List.mem_of_getElem? (i := 25) rfl) rfl
theorem w_769 : (Jvm.Cond.codeWith ({ cls := "EchoPantryLaw", name := "pass", desc := "(LEchoPantry;I)I" } : Jvm.MethodName) method_30_code (3 : Nat) (Option.some Jvm.ClassFile.FieldType.int) [((0 : Nat), (5 : Nat), (6 : Nat), (14 : Nat))]) ∈ TBL := tk_4 (List.mem_of_getElem? (i := 49) rfl) rfl
theorem w_770 : (Jvm.Cond.methodLink "EchoPantryLaw" (111 : Nat) ({ cls := "EchoPantry", name := "pass", desc := "(I)I" } : Jvm.MethodName)) ∈ TBL := tk_4 (List.mem_of_getElem? (i := 50) rfl) rfl
theorem w_771 : (Jvm.Cond.instanceMethod ({ cls := "EchoPantry", name := "pass", desc := "(I)I" } : Jvm.MethodName)) ∈ TBL := tk_4 (List.mem_of_getElem? (i := 51) rfl) rfl
theorem w_772 : (Jvm.Cond.selects "EchoPantry" ({ cls := "EchoPantry", name := "pass", desc := "(I)I" } : Jvm.MethodName) ({ cls := "EchoPantry", name := "pass", desc := "(I)I" } : Jvm.MethodName)) ∈ TBL := tk_4 (List.mem_of_getElem? (i := 52) rfl) rfl
theorem w_773 : (Jvm.Cond.code ({ cls := "EchoPantry", name := "pass", desc := "(I)I" } : Jvm.MethodName) prog_1_method_31_code (2 : Nat) (Option.some Jvm.ClassFile.FieldType.int)) ∈ TBL := tk_4 (List.mem_of_getElem? (i := 53) rfl) rfl
theorem w_784 : (Jvm.Cond.codeWith ({ cls := "EchoPantryLaw", name := "listen", desc := "(LEchoPantry;IZ)I" } : Jvm.MethodName) method_9_code (4 : Nat) (Option.some Jvm.ClassFile.FieldType.int) [((0 : Nat), (14 : Nat), (15 : Nat), (31 : Nat))]) ∈ TBL := tk_4 (List.mem_of_getElem? (i := 64) rfl) rfl
theorem w_785 : (Jvm.Cond.methodLink "EchoPantryLaw" (40 : Nat) ({ cls := "EchoPantry", name := "setListening", desc := "(IZ)Z" } : Jvm.MethodName)) ∈ TBL := tk_4 (List.mem_of_getElem? (i := 65) rfl) rfl
theorem w_786 : (Jvm.Cond.instanceMethod ({ cls := "EchoPantry", name := "setListening", desc := "(IZ)Z" } : Jvm.MethodName)) ∈ TBL := tk_4 (List.mem_of_getElem? (i := 66) rfl) rfl
theorem w_787 : (Jvm.Cond.selects "EchoPantry" ({ cls := "EchoPantry", name := "setListening", desc := "(IZ)Z" } : Jvm.MethodName) ({ cls := "EchoPantry", name := "setListening", desc := "(IZ)Z" } : Jvm.MethodName)) ∈ TBL := tk_4 (List.mem_of_getElem? (i := 67) rfl) rfl
theorem w_788 : (Jvm.Cond.code ({ cls := "EchoPantry", name := "setListening", desc := "(IZ)Z" } : Jvm.MethodName) prog_1_method_9_code (5 : Nat) (Option.some Jvm.ClassFile.FieldType.boolean)) ∈ TBL := tk_4 (List.mem_of_getElem? (i := 68) rfl) rfl
theorem w_804 : (Jvm.Cond.codeWith ({ cls := "EchoPantryLaw", name := "wordOf", desc := "(LEchoPantry;C)I" } : Jvm.MethodName) method_7_code (3 : Nat) (Option.some Jvm.ClassFile.FieldType.int) [((0 : Nat), (5 : Nat), (6 : Nat), (22 : Nat))]) ∈ TBL := tk_4 (List.mem_of_getElem? (i := 84) rfl) rfl
theorem w_805 : (Jvm.Cond.methodLink "EchoPantryLaw" (33 : Nat) ({ cls := "EchoPantry", name := "wordOf", desc := "(C)I" } : Jvm.MethodName)) ∈ TBL := tk_4 (List.mem_of_getElem? (i := 85) rfl) rfl
theorem w_806 : (Jvm.Cond.instanceMethod ({ cls := "EchoPantry", name := "wordOf", desc := "(C)I" } : Jvm.MethodName)) ∈ TBL := tk_4 (List.mem_of_getElem? (i := 86) rfl) rfl
theorem w_807 : (Jvm.Cond.selects "EchoPantry" ({ cls := "EchoPantry", name := "wordOf", desc := "(C)I" } : Jvm.MethodName) ({ cls := "EchoPantry", name := "wordOf", desc := "(C)I" } : Jvm.MethodName)) ∈ TBL := tk_4 (List.mem_of_getElem? (i := 87) rfl) rfl
theorem w_808 : (Jvm.Cond.code ({ cls := "EchoPantry", name := "wordOf", desc := "(C)I" } : Jvm.MethodName) prog_1_method_7_code (2 : Nat) (Option.some Jvm.ClassFile.FieldType.int)) ∈ TBL := tk_4 (List.mem_of_getElem? (i := 88) rfl) rfl
theorem w_816 : (Jvm.Cond.codeWith ({ cls := "EchoPantryLaw", name := "jarAt", desc := "(LEchoPantry;I)I" } : Jvm.MethodName) method_6_code (3 : Nat) (Option.some Jvm.ClassFile.FieldType.int) [((0 : Nat), (5 : Nat), (6 : Nat), (31 : Nat))]) ∈ TBL := tk_4 (List.mem_of_getElem? (i := 96) rfl) rfl
theorem w_817 : (Jvm.Cond.methodLink "EchoPantryLaw" (27 : Nat) ({ cls := "EchoPantry", name := "jarAt", desc := "(I)C" } : Jvm.MethodName)) ∈ TBL := tk_4 (List.mem_of_getElem? (i := 97) rfl) rfl
theorem w_818 : (Jvm.Cond.instanceMethod ({ cls := "EchoPantry", name := "jarAt", desc := "(I)C" } : Jvm.MethodName)) ∈ TBL := tk_4 (List.mem_of_getElem? (i := 98) rfl) rfl
theorem w_819 : (Jvm.Cond.selects "EchoPantry" ({ cls := "EchoPantry", name := "jarAt", desc := "(I)C" } : Jvm.MethodName) ({ cls := "EchoPantry", name := "jarAt", desc := "(I)C" } : Jvm.MethodName)) ∈ TBL := tk_4 (List.mem_of_getElem? (i := 99) rfl) rfl
theorem w_820 : (Jvm.Cond.code ({ cls := "EchoPantry", name := "jarAt", desc := "(I)C" } : Jvm.MethodName) prog_1_method_6_code (3 : Nat) (Option.some Jvm.ClassFile.FieldType.char)) ∈ TBL := tk_4 (List.mem_of_getElem? (i := 100) rfl) rfl
theorem w_836 : (Jvm.Cond.codeWith ({ cls := "EchoPantryLaw", name := "hasEcho", desc := "(LEchoPantry;IC)I" } : Jvm.MethodName) method_16_code (4 : Nat) (Option.some Jvm.ClassFile.FieldType.int) [((0 : Nat), (14 : Nat), (15 : Nat), (31 : Nat))]) ∈ TBL := tk_4 (List.mem_of_getElem? (i := 116) rfl) rfl
theorem w_837 : (Jvm.Cond.methodLink "EchoPantryLaw" (65 : Nat) ({ cls := "EchoPantry", name := "hasEcho", desc := "(IC)Z" } : Jvm.MethodName)) ∈ TBL := tk_4 (List.mem_of_getElem? (i := 117) rfl) rfl
theorem w_838 : (Jvm.Cond.instanceMethod ({ cls := "EchoPantry", name := "hasEcho", desc := "(IC)Z" } : Jvm.MethodName)) ∈ TBL := tk_4 (List.mem_of_getElem? (i := 118) rfl) rfl
theorem w_839 : (Jvm.Cond.selects "EchoPantry" ({ cls := "EchoPantry", name := "hasEcho", desc := "(IC)Z" } : Jvm.MethodName) ({ cls := "EchoPantry", name := "hasEcho", desc := "(IC)Z" } : Jvm.MethodName)) ∈ TBL := tk_4 (List.mem_of_getElem? (i := 119) rfl) rfl
theorem w_840 : (Jvm.Cond.code ({ cls := "EchoPantry", name := "hasEcho", desc := "(IC)Z" } : Jvm.MethodName) prog_1_method_17_code (3 : Nat) (Option.some Jvm.ClassFile.FieldType.boolean)) ∈ TBL := tk_4 (List.mem_of_getElem? (i := 120) rfl) rfl
theorem w_844 : (Jvm.Cond.codeWith ({ cls := "EchoPantryLaw", name := "echoOf", desc := "(LEchoPantry;IC)I" } : Jvm.MethodName) method_17_code (4 : Nat) (Option.some Jvm.ClassFile.FieldType.int) [((0 : Nat), (6 : Nat), (7 : Nat), (31 : Nat)), ((0 : Nat), (6 : Nat), (11 : Nat), (22 : Nat))]) ∈ TBL := tk_4 (List.mem_of_getElem? (i := 124) rfl) rfl
theorem w_845 : (Jvm.Cond.methodLink "EchoPantryLaw" (69 : Nat) ({ cls := "EchoPantry", name := "echoOf", desc := "(IC)I" } : Jvm.MethodName)) ∈ TBL := tk_4 (List.mem_of_getElem? (i := 125) rfl) rfl
theorem w_846 : (Jvm.Cond.instanceMethod ({ cls := "EchoPantry", name := "echoOf", desc := "(IC)I" } : Jvm.MethodName)) ∈ TBL := tk_4 (List.mem_of_getElem? (i := 126) rfl) rfl
theorem w_847 : (Jvm.Cond.selects "EchoPantry" ({ cls := "EchoPantry", name := "echoOf", desc := "(IC)I" } : Jvm.MethodName) ({ cls := "EchoPantry", name := "echoOf", desc := "(IC)I" } : Jvm.MethodName)) ∈ TBL := tk_4 (List.mem_of_getElem? (i := 127) rfl) rfl
theorem w_848 : (Jvm.Cond.code ({ cls := "EchoPantry", name := "echoOf", desc := "(IC)I" } : Jvm.MethodName) prog_1_method_18_code (3 : Nat) (Option.some Jvm.ClassFile.FieldType.int)) ∈ TBL := tk_4 (List.mem_of_getElem? (i := 128) rfl) rfl
theorem w_856 : (Jvm.Cond.codeWith ({ cls := "EchoPantryLaw", name := "ageOf", desc := "(LEchoPantry;IC)I" } : Jvm.MethodName) method_18_code (4 : Nat) (Option.some Jvm.ClassFile.FieldType.int) [((0 : Nat), (6 : Nat), (7 : Nat), (31 : Nat)), ((0 : Nat), (6 : Nat), (11 : Nat), (22 : Nat))]) ∈ TBL := tk_4 (List.mem_of_getElem? (i := 136) rfl) rfl
theorem w_857 : (Jvm.Cond.methodLink "EchoPantryLaw" (73 : Nat) ({ cls := "EchoPantry", name := "ageOf", desc := "(IC)I" } : Jvm.MethodName)) ∈ TBL := tk_4 (List.mem_of_getElem? (i := 137) rfl) rfl
theorem w_858 : (Jvm.Cond.instanceMethod ({ cls := "EchoPantry", name := "ageOf", desc := "(IC)I" } : Jvm.MethodName)) ∈ TBL := tk_4 (List.mem_of_getElem? (i := 138) rfl) rfl
theorem w_859 : (Jvm.Cond.selects "EchoPantry" ({ cls := "EchoPantry", name := "ageOf", desc := "(IC)I" } : Jvm.MethodName) ({ cls := "EchoPantry", name := "ageOf", desc := "(IC)I" } : Jvm.MethodName)) ∈ TBL := tk_4 (List.mem_of_getElem? (i := 139) rfl) rfl
theorem w_860 : (Jvm.Cond.code ({ cls := "EchoPantry", name := "ageOf", desc := "(IC)I" } : Jvm.MethodName) prog_1_method_19_code (3 : Nat) (Option.some Jvm.ClassFile.FieldType.int)) ∈ TBL := tk_4 (List.mem_of_getElem? (i := 140) rfl) rfl
theorem w_864 : (Jvm.Cond.codeWith ({ cls := "EchoPantryLaw", name := "hitsOf", desc := "(LEchoPantry;IC)I" } : Jvm.MethodName) method_19_code (4 : Nat) (Option.some Jvm.ClassFile.FieldType.int) [((0 : Nat), (6 : Nat), (7 : Nat), (31 : Nat)), ((0 : Nat), (6 : Nat), (11 : Nat), (22 : Nat))]) ∈ TBL := tk_4 (List.mem_of_getElem? (i := 144) rfl) rfl
theorem w_865 : (Jvm.Cond.methodLink "EchoPantryLaw" (76 : Nat) ({ cls := "EchoPantry", name := "hitsOf", desc := "(IC)I" } : Jvm.MethodName)) ∈ TBL := tk_4 (List.mem_of_getElem? (i := 145) rfl) rfl
theorem w_866 : (Jvm.Cond.instanceMethod ({ cls := "EchoPantry", name := "hitsOf", desc := "(IC)I" } : Jvm.MethodName)) ∈ TBL := tk_4 (List.mem_of_getElem? (i := 146) rfl) rfl
theorem w_867 : (Jvm.Cond.selects "EchoPantry" ({ cls := "EchoPantry", name := "hitsOf", desc := "(IC)I" } : Jvm.MethodName) ({ cls := "EchoPantry", name := "hitsOf", desc := "(IC)I" } : Jvm.MethodName)) ∈ TBL := tk_4 (List.mem_of_getElem? (i := 147) rfl) rfl
theorem w_868 : (Jvm.Cond.code ({ cls := "EchoPantry", name := "hitsOf", desc := "(IC)I" } : Jvm.MethodName) prog_1_method_20_code (3 : Nat) (Option.some Jvm.ClassFile.FieldType.int)) ∈ TBL := tk_4 (List.mem_of_getElem? (i := 148) rfl) rfl
theorem w_871 : (Jvm.Cond.codeWith ({ cls := "EchoPantryLaw", name := "isOpen", desc := "(LEchoPantry;IC)I" } : Jvm.MethodName) method_21_code (4 : Nat) (Option.some Jvm.ClassFile.FieldType.int) [((0 : Nat), (14 : Nat), (15 : Nat), (31 : Nat)), ((0 : Nat), (14 : Nat), (19 : Nat), (22 : Nat))]) ∈ TBL := tk_4 (List.mem_of_getElem? (i := 151) rfl) rfl
theorem w_872 : (Jvm.Cond.methodLink "EchoPantryLaw" (82 : Nat) ({ cls := "EchoPantry", name := "isOpen", desc := "(IC)Z" } : Jvm.MethodName)) ∈ TBL := tk_4 (List.mem_of_getElem? (i := 152) rfl) rfl
theorem w_873 : (Jvm.Cond.instanceMethod ({ cls := "EchoPantry", name := "isOpen", desc := "(IC)Z" } : Jvm.MethodName)) ∈ TBL := tk_4 (List.mem_of_getElem? (i := 153) rfl) rfl
theorem w_874 : (Jvm.Cond.selects "EchoPantry" ({ cls := "EchoPantry", name := "isOpen", desc := "(IC)Z" } : Jvm.MethodName) ({ cls := "EchoPantry", name := "isOpen", desc := "(IC)Z" } : Jvm.MethodName)) ∈ TBL := tk_4 (List.mem_of_getElem? (i := 154) rfl) rfl
theorem w_875 : (Jvm.Cond.code ({ cls := "EchoPantry", name := "isOpen", desc := "(IC)Z" } : Jvm.MethodName) prog_1_method_22_code (3 : Nat) (Option.some Jvm.ClassFile.FieldType.boolean)) ∈ TBL := tk_4 (List.mem_of_getElem? (i := 155) rfl) rfl
theorem w_878 : (Jvm.Cond.codeWith ({ cls := "EchoPantryLaw", name := "echoAt", desc := "(LEchoPantry;II)I" } : Jvm.MethodName) method_15_code (4 : Nat) (Option.some Jvm.ClassFile.FieldType.int) [((0 : Nat), (6 : Nat), (7 : Nat), (31 : Nat)), ((0 : Nat), (6 : Nat), (11 : Nat), (22 : Nat))]) ∈ TBL := tk_4 (List.mem_of_getElem? (i := 158) rfl) rfl
theorem w_879 : (Jvm.Cond.methodLink "EchoPantryLaw" (61 : Nat) ({ cls := "EchoPantry", name := "echoAt", desc := "(II)C" } : Jvm.MethodName)) ∈ TBL := tk_4 (List.mem_of_getElem? (i := 159) rfl) rfl
theorem w_880 : (Jvm.Cond.instanceMethod ({ cls := "EchoPantry", name := "echoAt", desc := "(II)C" } : Jvm.MethodName)) ∈ TBL := tk_4 (List.mem_of_getElem? (i := 160) rfl) rfl
theorem w_881 : (Jvm.Cond.selects "EchoPantry" ({ cls := "EchoPantry", name := "echoAt", desc := "(II)C" } : Jvm.MethodName) ({ cls := "EchoPantry", name := "echoAt", desc := "(II)C" } : Jvm.MethodName)) ∈ TBL := tk_4 (List.mem_of_getElem? (i := 161) rfl) rfl
theorem w_882 : (Jvm.Cond.code ({ cls := "EchoPantry", name := "echoAt", desc := "(II)C" } : Jvm.MethodName) prog_1_method_16_code (4 : Nat) (Option.some Jvm.ClassFile.FieldType.char)) ∈ TBL := tk_4 (List.mem_of_getElem? (i := 162) rfl) rfl
theorem w_893 : (Jvm.Cond.codeWith ({ cls := "EchoPantryLaw", name := "isTrue", desc := "(LEchoPantry;IC)I" } : Jvm.MethodName) method_22_code (4 : Nat) (Option.some Jvm.ClassFile.FieldType.int) [((0 : Nat), (14 : Nat), (15 : Nat), (31 : Nat)), ((0 : Nat), (14 : Nat), (19 : Nat), (22 : Nat))]) ∈ TBL := tk_4 (List.mem_of_getElem? (i := 173) rfl) rfl
theorem w_894 : (Jvm.Cond.methodLink "EchoPantryLaw" (85 : Nat) ({ cls := "EchoPantry", name := "isTrue", desc := "(IC)Z" } : Jvm.MethodName)) ∈ TBL := tk_4 (List.mem_of_getElem? (i := 174) rfl) rfl
theorem w_895 : (Jvm.Cond.instanceMethod ({ cls := "EchoPantry", name := "isTrue", desc := "(IC)Z" } : Jvm.MethodName)) ∈ TBL := tk_4 (List.mem_of_getElem? (i := 175) rfl) rfl
theorem w_896 : (Jvm.Cond.selects "EchoPantry" ({ cls := "EchoPantry", name := "isTrue", desc := "(IC)Z" } : Jvm.MethodName) ({ cls := "EchoPantry", name := "isTrue", desc := "(IC)Z" } : Jvm.MethodName)) ∈ TBL := tk_4 (List.mem_of_getElem? (i := 176) rfl) rfl
theorem w_897 : (Jvm.Cond.code ({ cls := "EchoPantry", name := "isTrue", desc := "(IC)Z" } : Jvm.MethodName) prog_1_method_23_code (3 : Nat) (Option.some Jvm.ClassFile.FieldType.boolean)) ∈ TBL := tk_4 (List.mem_of_getElem? (i := 177) rfl) rfl
theorem w_904 : (Jvm.Cond.codeWith ({ cls := "EchoPantryLaw", name := "lifetimeOf", desc := "(LEchoPantry;I)I" } : Jvm.MethodName) method_11_code (3 : Nat) (Option.some Jvm.ClassFile.FieldType.int) [((0 : Nat), (5 : Nat), (6 : Nat), (31 : Nat))]) ∈ TBL := tk_4 (List.mem_of_getElem? (i := 184) rfl) rfl
theorem w_905 : (Jvm.Cond.methodLink "EchoPantryLaw" (48 : Nat) ({ cls := "EchoPantry", name := "lifetimeOf", desc := "(I)I" } : Jvm.MethodName)) ∈ TBL := tk_4 (List.mem_of_getElem? (i := 185) rfl) rfl
theorem w_906 : (Jvm.Cond.instanceMethod ({ cls := "EchoPantry", name := "lifetimeOf", desc := "(I)I" } : Jvm.MethodName)) ∈ TBL := tk_4 (List.mem_of_getElem? (i := 186) rfl) rfl
theorem w_907 : (Jvm.Cond.selects "EchoPantry" ({ cls := "EchoPantry", name := "lifetimeOf", desc := "(I)I" } : Jvm.MethodName) ({ cls := "EchoPantry", name := "lifetimeOf", desc := "(I)I" } : Jvm.MethodName)) ∈ TBL := tk_4 (List.mem_of_getElem? (i := 187) rfl) rfl
theorem w_908 : (Jvm.Cond.code ({ cls := "EchoPantry", name := "lifetimeOf", desc := "(I)I" } : Jvm.MethodName) prog_1_method_12_code (2 : Nat) (Option.some Jvm.ClassFile.FieldType.int)) ∈ TBL := tk_4 (List.mem_of_getElem? (i := 188) rfl) rfl
theorem w_911 : (Jvm.Cond.codeWith ({ cls := "EchoPantryLaw", name := "bySteps", desc := "(LEchoPantry;IC)I" } : Jvm.MethodName) method_23_code (4 : Nat) (Option.some Jvm.ClassFile.FieldType.int) [((0 : Nat), (14 : Nat), (15 : Nat), (31 : Nat)), ((0 : Nat), (14 : Nat), (19 : Nat), (22 : Nat))]) ∈ TBL := tk_4 (List.mem_of_getElem? (i := 191) rfl) rfl
theorem w_912 : (Jvm.Cond.methodLink "EchoPantryLaw" (88 : Nat) ({ cls := "EchoPantry", name := "isTrueBySteps", desc := "(IC)Z" } : Jvm.MethodName)) ∈ TBL := tk_4 (List.mem_of_getElem? (i := 192) rfl) rfl
theorem w_913 : (Jvm.Cond.instanceMethod ({ cls := "EchoPantry", name := "isTrueBySteps", desc := "(IC)Z" } : Jvm.MethodName)) ∈ TBL := tk_4 (List.mem_of_getElem? (i := 193) rfl) rfl
theorem w_914 : (Jvm.Cond.selects "EchoPantry" ({ cls := "EchoPantry", name := "isTrueBySteps", desc := "(IC)Z" } : Jvm.MethodName) ({ cls := "EchoPantry", name := "isTrueBySteps", desc := "(IC)Z" } : Jvm.MethodName)) ∈ TBL := tk_4 (List.mem_of_getElem? (i := 194) rfl) rfl
theorem w_915 : (Jvm.Cond.code ({ cls := "EchoPantry", name := "isTrueBySteps", desc := "(IC)Z" } : Jvm.MethodName) prog_1_method_24_code (3 : Nat) (Option.some Jvm.ClassFile.FieldType.boolean)) ∈ TBL := tk_4 (List.mem_of_getElem? (i := 195) rfl) rfl
theorem w_922 : (Jvm.Cond.codeWith ({ cls := "EchoPantryLaw", name := "isExpired", desc := "(LEchoPantry;IC)I" } : Jvm.MethodName) method_20_code (4 : Nat) (Option.some Jvm.ClassFile.FieldType.int) [((0 : Nat), (14 : Nat), (15 : Nat), (31 : Nat)), ((0 : Nat), (14 : Nat), (19 : Nat), (22 : Nat))]) ∈ TBL := tk_4 (List.mem_of_getElem? (i := 202) rfl) rfl
theorem w_923 : (Jvm.Cond.methodLink "EchoPantryLaw" (79 : Nat) ({ cls := "EchoPantry", name := "isExpired", desc := "(IC)Z" } : Jvm.MethodName)) ∈ TBL := tk_4 (List.mem_of_getElem? (i := 203) rfl) rfl
theorem w_924 : (Jvm.Cond.instanceMethod ({ cls := "EchoPantry", name := "isExpired", desc := "(IC)Z" } : Jvm.MethodName)) ∈ TBL := tk_4 (List.mem_of_getElem? (i := 204) rfl) rfl
theorem w_925 : (Jvm.Cond.selects "EchoPantry" ({ cls := "EchoPantry", name := "isExpired", desc := "(IC)Z" } : Jvm.MethodName) ({ cls := "EchoPantry", name := "isExpired", desc := "(IC)Z" } : Jvm.MethodName)) ∈ TBL := tk_4 (List.mem_of_getElem? (i := 205) rfl) rfl
theorem w_926 : (Jvm.Cond.code ({ cls := "EchoPantry", name := "isExpired", desc := "(IC)Z" } : Jvm.MethodName) prog_1_method_21_code (4 : Nat) (Option.some Jvm.ClassFile.FieldType.boolean)) ∈ TBL := tk_4 (List.mem_of_getElem? (i := 206) rfl) rfl
theorem w_934 : (Jvm.Cond.codeWith ({ cls := "EchoPantryLaw", name := "outcome", desc := "(LEchoPantry;IC)I" } : Jvm.MethodName) method_27_code (4 : Nat) (Option.some Jvm.ClassFile.FieldType.int) [((0 : Nat), (6 : Nat), (7 : Nat), (31 : Nat)), ((0 : Nat), (6 : Nat), (11 : Nat), (22 : Nat))]) ∈ TBL := tk_4 (List.mem_of_getElem? (i := 214) rfl) rfl
theorem w_935 : (Jvm.Cond.methodLink "EchoPantryLaw" (100 : Nat) ({ cls := "EchoPantry", name := "outcomeOf", desc := "(IC)C" } : Jvm.MethodName)) ∈ TBL := tk_4 (List.mem_of_getElem? (i := 215) rfl) rfl
theorem w_936 : (Jvm.Cond.instanceMethod ({ cls := "EchoPantry", name := "outcomeOf", desc := "(IC)C" } : Jvm.MethodName)) ∈ TBL := tk_4 (List.mem_of_getElem? (i := 216) rfl) rfl
theorem w_937 : (Jvm.Cond.selects "EchoPantry" ({ cls := "EchoPantry", name := "outcomeOf", desc := "(IC)C" } : Jvm.MethodName) ({ cls := "EchoPantry", name := "outcomeOf", desc := "(IC)C" } : Jvm.MethodName)) ∈ TBL := tk_4 (List.mem_of_getElem? (i := 217) rfl) rfl
theorem w_938 : (Jvm.Cond.code ({ cls := "EchoPantry", name := "outcomeOf", desc := "(IC)C" } : Jvm.MethodName) prog_1_method_28_code (3 : Nat) (Option.some Jvm.ClassFile.FieldType.char)) ∈ TBL := tk_4 (List.mem_of_getElem? (i := 218) rfl) rfl
theorem w_942 : (Jvm.Cond.codeWith ({ cls := "EchoPantryLaw", name := "victimOf", desc := "(LEchoPantry;I)I" } : Jvm.MethodName) method_24_code (3 : Nat) (Option.some Jvm.ClassFile.FieldType.int) [((0 : Nat), (5 : Nat), (6 : Nat), (31 : Nat)), ((0 : Nat), (5 : Nat), (10 : Nat), (22 : Nat))]) ∈ TBL := tk_4 (List.mem_of_getElem? (i := 222) rfl) rfl
theorem w_943 : (Jvm.Cond.methodLink "EchoPantryLaw" (91 : Nat) ({ cls := "EchoPantry", name := "victimOf", desc := "(I)C" } : Jvm.MethodName)) ∈ TBL := tk_4 (List.mem_of_getElem? (i := 223) rfl) rfl
theorem w_944 : (Jvm.Cond.instanceMethod ({ cls := "EchoPantry", name := "victimOf", desc := "(I)C" } : Jvm.MethodName)) ∈ TBL := tk_4 (List.mem_of_getElem? (i := 224) rfl) rfl
theorem w_945 : (Jvm.Cond.selects "EchoPantry" ({ cls := "EchoPantry", name := "victimOf", desc := "(I)C" } : Jvm.MethodName) ({ cls := "EchoPantry", name := "victimOf", desc := "(I)C" } : Jvm.MethodName)) ∈ TBL := tk_4 (List.mem_of_getElem? (i := 225) rfl) rfl
theorem w_946 : (Jvm.Cond.code ({ cls := "EchoPantry", name := "victimOf", desc := "(I)C" } : Jvm.MethodName) prog_1_method_25_code (3 : Nat) (Option.some Jvm.ClassFile.FieldType.char)) ∈ TBL := tk_4 (List.mem_of_getElem? (i := 226) rfl) rfl
theorem w_951 : (Jvm.Cond.codeWith ({ cls := "EchoPantryLaw", name := "echoCount", desc := "(LEchoPantry;I)I" } : Jvm.MethodName) method_14_code (3 : Nat) (Option.some Jvm.ClassFile.FieldType.int) [((0 : Nat), (5 : Nat), (6 : Nat), (31 : Nat))]) ∈ TBL := tk_4 (List.mem_of_getElem? (i := 231) rfl) rfl
theorem w_952 : (Jvm.Cond.methodLink "EchoPantryLaw" (58 : Nat) ({ cls := "EchoPantry", name := "echoCount", desc := "(I)I" } : Jvm.MethodName)) ∈ TBL := tk_4 (List.mem_of_getElem? (i := 232) rfl) rfl
theorem w_953 : (Jvm.Cond.instanceMethod ({ cls := "EchoPantry", name := "echoCount", desc := "(I)I" } : Jvm.MethodName)) ∈ TBL := tk_4 (List.mem_of_getElem? (i := 233) rfl) rfl
theorem w_954 : (Jvm.Cond.selects "EchoPantry" ({ cls := "EchoPantry", name := "echoCount", desc := "(I)I" } : Jvm.MethodName) ({ cls := "EchoPantry", name := "echoCount", desc := "(I)I" } : Jvm.MethodName)) ∈ TBL := tk_4 (List.mem_of_getElem? (i := 234) rfl) rfl
theorem w_955 : (Jvm.Cond.code ({ cls := "EchoPantry", name := "echoCount", desc := "(I)I" } : Jvm.MethodName) prog_1_method_15_code (2 : Nat) (Option.some Jvm.ClassFile.FieldType.int)) ∈ TBL := tk_4 (List.mem_of_getElem? (i := 235) rfl) rfl
theorem w_959 : (Jvm.Cond.codeWith ({ cls := "EchoPantryLaw", name := "capacityOf", desc := "(LEchoPantry;I)I" } : Jvm.MethodName) method_10_code (3 : Nat) (Option.some Jvm.ClassFile.FieldType.int) [((0 : Nat), (5 : Nat), (6 : Nat), (31 : Nat))]) ∈ TBL := tk_4 (List.mem_of_getElem? (i := 239) rfl) rfl
theorem w_960 : (Jvm.Cond.methodLink "EchoPantryLaw" (44 : Nat) ({ cls := "EchoPantry", name := "capacityOf", desc := "(I)I" } : Jvm.MethodName)) ∈ TBL := tk_5 (List.mem_of_getElem? (i := 0) rfl) rfl
theorem w_961 : (Jvm.Cond.instanceMethod ({ cls := "EchoPantry", name := "capacityOf", desc := "(I)I" } : Jvm.MethodName)) ∈ TBL := tk_5 (List.mem_of_getElem? (i := 1) rfl) rfl
theorem w_962 : (Jvm.Cond.selects "EchoPantry" ({ cls := "EchoPantry", name := "capacityOf", desc := "(I)I" } : Jvm.MethodName) ({ cls := "EchoPantry", name := "capacityOf", desc := "(I)I" } : Jvm.MethodName)) ∈ TBL := tk_5 (List.mem_of_getElem? (i := 2) rfl) rfl
theorem w_963 : (Jvm.Cond.code ({ cls := "EchoPantry", name := "capacityOf", desc := "(I)I" } : Jvm.MethodName) prog_1_method_11_code (2 : Nat) (Option.some Jvm.ClassFile.FieldType.int)) ∈ TBL := tk_5 (List.mem_of_getElem? (i := 3) rfl) rfl
theorem w_966 : (Jvm.Cond.codeWith ({ cls := "EchoPantryLaw", name := "byScan", desc := "(LEchoPantry;I)I" } : Jvm.MethodName) method_25_code (3 : Nat) (Option.some Jvm.ClassFile.FieldType.int) [((0 : Nat), (5 : Nat), (6 : Nat), (31 : Nat)), ((0 : Nat), (5 : Nat), (10 : Nat), (22 : Nat))]) ∈ TBL := tk_5 (List.mem_of_getElem? (i := 6) rfl) rfl
theorem w_967 : (Jvm.Cond.methodLink "EchoPantryLaw" (94 : Nat) ({ cls := "EchoPantry", name := "victimByScan", desc := "(I)C" } : Jvm.MethodName)) ∈ TBL := tk_5 (List.mem_of_getElem? (i := 7) rfl) rfl
theorem w_968 : (Jvm.Cond.instanceMethod ({ cls := "EchoPantry", name := "victimByScan", desc := "(I)C" } : Jvm.MethodName)) ∈ TBL := tk_5 (List.mem_of_getElem? (i := 8) rfl) rfl
theorem w_969 : (Jvm.Cond.selects "EchoPantry" ({ cls := "EchoPantry", name := "victimByScan", desc := "(I)C" } : Jvm.MethodName) ({ cls := "EchoPantry", name := "victimByScan", desc := "(I)C" } : Jvm.MethodName)) ∈ TBL := tk_5 (List.mem_of_getElem? (i := 9) rfl) rfl
theorem w_970 : (Jvm.Cond.code ({ cls := "EchoPantry", name := "victimByScan", desc := "(I)C" } : Jvm.MethodName) prog_1_method_26_code (3 : Nat) (Option.some Jvm.ClassFile.FieldType.char)) ∈ TBL := tk_5 (List.mem_of_getElem? (i := 10) rfl) rfl
theorem w_977 : (Jvm.Cond.codeWith ({ cls := "EchoPantryLaw", name := "policyOf", desc := "(LEchoPantry;I)I" } : Jvm.MethodName) method_12_code (3 : Nat) (Option.some Jvm.ClassFile.FieldType.int) [((0 : Nat), (5 : Nat), (6 : Nat), (31 : Nat))]) ∈ TBL := tk_5 (List.mem_of_getElem? (i := 17) rfl) rfl
theorem w_978 : (Jvm.Cond.methodLink "EchoPantryLaw" (51 : Nat) ({ cls := "EchoPantry", name := "policyOf", desc := "(I)C" } : Jvm.MethodName)) ∈ TBL := tk_5 (List.mem_of_getElem? (i := 18) rfl) rfl
theorem w_979 : (Jvm.Cond.instanceMethod ({ cls := "EchoPantry", name := "policyOf", desc := "(I)C" } : Jvm.MethodName)) ∈ TBL := tk_5 (List.mem_of_getElem? (i := 19) rfl) rfl
theorem w_980 : (Jvm.Cond.selects "EchoPantry" ({ cls := "EchoPantry", name := "policyOf", desc := "(I)C" } : Jvm.MethodName) ({ cls := "EchoPantry", name := "policyOf", desc := "(I)C" } : Jvm.MethodName)) ∈ TBL := tk_5 (List.mem_of_getElem? (i := 20) rfl) rfl
theorem w_981 : (Jvm.Cond.code ({ cls := "EchoPantry", name := "policyOf", desc := "(I)C" } : Jvm.MethodName) prog_1_method_13_code (2 : Nat) (Option.some Jvm.ClassFile.FieldType.char)) ∈ TBL := tk_5 (List.mem_of_getElem? (i := 21) rfl) rfl
theorem w_1021 : (Jvm.Cond.codeWith ({ cls := "EchoPantryLaw", name := "isListening", desc := "(LEchoPantry;I)I" } : Jvm.MethodName) method_13_code (3 : Nat) (Option.some Jvm.ClassFile.FieldType.int) [((0 : Nat), (13 : Nat), (14 : Nat), (31 : Nat))]) ∈ TBL := tk_5 (List.mem_of_getElem? (i := 61) rfl) rfl
theorem w_1022 : (Jvm.Cond.methodLink "EchoPantryLaw" (54 : Nat) ({ cls := "EchoPantry", name := "isListening", desc := "(I)Z" } : Jvm.MethodName)) ∈ TBL := tk_5 (List.mem_of_getElem? (i := 62) rfl) rfl
theorem w_1023 : (Jvm.Cond.instanceMethod ({ cls := "EchoPantry", name := "isListening", desc := "(I)Z" } : Jvm.MethodName)) ∈ TBL := tk_5 (List.mem_of_getElem? (i := 63) rfl) rfl
theorem w_1024 : (Jvm.Cond.selects "EchoPantry" ({ cls := "EchoPantry", name := "isListening", desc := "(I)Z" } : Jvm.MethodName) ({ cls := "EchoPantry", name := "isListening", desc := "(I)Z" } : Jvm.MethodName)) ∈ TBL := tk_5 (List.mem_of_getElem? (i := 64) rfl) rfl
theorem w_1025 : (Jvm.Cond.code ({ cls := "EchoPantry", name := "isListening", desc := "(I)Z" } : Jvm.MethodName) prog_1_method_14_code (2 : Nat) (Option.some Jvm.ClassFile.FieldType.boolean)) ∈ TBL := tk_5 (List.mem_of_getElem? (i := 65) rfl) rfl
theorem w_1036 : (Jvm.Cond.codeWith ({ cls := "EchoPantryLaw", name := "minuteAt", desc := "(LEchoPantry;I)I" } : Jvm.MethodName) method_31_code (3 : Nat) (Option.some Jvm.ClassFile.FieldType.int) [((0 : Nat), (5 : Nat), (6 : Nat), (31 : Nat))]) ∈ TBL := tk_5 (List.mem_of_getElem? (i := 76) rfl) rfl
theorem w_1037 : (Jvm.Cond.methodLink "EchoPantryLaw" (114 : Nat) ({ cls := "EchoPantry", name := "warmingMinute", desc := "(I)I" } : Jvm.MethodName)) ∈ TBL := tk_5 (List.mem_of_getElem? (i := 77) rfl) rfl
theorem w_1038 : (Jvm.Cond.instanceMethod ({ cls := "EchoPantry", name := "warmingMinute", desc := "(I)I" } : Jvm.MethodName)) ∈ TBL := tk_5 (List.mem_of_getElem? (i := 78) rfl) rfl
theorem w_1039 : (Jvm.Cond.selects "EchoPantry" ({ cls := "EchoPantry", name := "warmingMinute", desc := "(I)I" } : Jvm.MethodName) ({ cls := "EchoPantry", name := "warmingMinute", desc := "(I)I" } : Jvm.MethodName)) ∈ TBL := tk_5 (List.mem_of_getElem? (i := 79) rfl) rfl
theorem w_1040 : (Jvm.Cond.code ({ cls := "EchoPantry", name := "warmingMinute", desc := "(I)I" } : Jvm.MethodName) prog_1_method_34_code (2 : Nat) (Option.some Jvm.ClassFile.FieldType.int)) ∈ TBL := tk_5 (List.mem_of_getElem? (i := 80) rfl) rfl
theorem w_1052 : (Jvm.Cond.codeWith ({ cls := "EchoPantryLaw", name := "warmedAt", desc := "(LEchoPantry;I)I" } : Jvm.MethodName) method_32_code (3 : Nat) (Option.some Jvm.ClassFile.FieldType.int) [((0 : Nat), (5 : Nat), (6 : Nat), (31 : Nat))]) ∈ TBL := tk_5 (List.mem_of_getElem? (i := 92) rfl) rfl
theorem w_1053 : (Jvm.Cond.methodLink "EchoPantryLaw" (117 : Nat) ({ cls := "EchoPantry", name := "warmingJar", desc := "(I)C" } : Jvm.MethodName)) ∈ TBL := tk_5 (List.mem_of_getElem? (i := 93) rfl) rfl
theorem w_1054 : (Jvm.Cond.instanceMethod ({ cls := "EchoPantry", name := "warmingJar", desc := "(I)C" } : Jvm.MethodName)) ∈ TBL := tk_5 (List.mem_of_getElem? (i := 94) rfl) rfl
theorem w_1055 : (Jvm.Cond.selects "EchoPantry" ({ cls := "EchoPantry", name := "warmingJar", desc := "(I)C" } : Jvm.MethodName) ({ cls := "EchoPantry", name := "warmingJar", desc := "(I)C" } : Jvm.MethodName)) ∈ TBL := tk_5 (List.mem_of_getElem? (i := 95) rfl) rfl
theorem w_1056 : (Jvm.Cond.code ({ cls := "EchoPantry", name := "warmingJar", desc := "(I)C" } : Jvm.MethodName) prog_1_method_35_code (2 : Nat) (Option.some Jvm.ClassFile.FieldType.char)) ∈ TBL := tk_5 (List.mem_of_getElem? (i := 96) rfl) rfl
theorem w_1063 : (Jvm.Cond.codeWith ({ cls := "EchoPantryLaw", name := "misses", desc := "(LEchoPantry;C)I" } : Jvm.MethodName) method_33_code (3 : Nat) (Option.some Jvm.ClassFile.FieldType.int) [((0 : Nat), (5 : Nat), (6 : Nat), (14 : Nat))]) ∈ TBL := tk_5 (List.mem_of_getElem? (i := 103) rfl) rfl
theorem w_1064 : (Jvm.Cond.methodLink "EchoPantryLaw" (120 : Nat) ({ cls := "EchoPantry", name := "misses", desc := "(C)I" } : Jvm.MethodName)) ∈ TBL := tk_5 (List.mem_of_getElem? (i := 104) rfl) rfl
theorem w_1065 : (Jvm.Cond.instanceMethod ({ cls := "EchoPantry", name := "misses", desc := "(C)I" } : Jvm.MethodName)) ∈ TBL := tk_5 (List.mem_of_getElem? (i := 105) rfl) rfl
theorem w_1066 : (Jvm.Cond.selects "EchoPantry" ({ cls := "EchoPantry", name := "misses", desc := "(C)I" } : Jvm.MethodName) ({ cls := "EchoPantry", name := "misses", desc := "(C)I" } : Jvm.MethodName)) ∈ TBL := tk_5 (List.mem_of_getElem? (i := 106) rfl) rfl
theorem w_1067 : (Jvm.Cond.code ({ cls := "EchoPantry", name := "misses", desc := "(C)I" } : Jvm.MethodName) prog_1_method_37_code (2 : Nat) (Option.some Jvm.ClassFile.FieldType.int)) ∈ TBL := tk_5 (List.mem_of_getElem? (i := 107) rfl) rfl
theorem w_1071 : (Jvm.Cond.codeWith ({ cls := "EchoPantryLaw", name := "byHits", desc := "(LEchoPantry;I)I" } : Jvm.MethodName) method_34_code (3 : Nat) (Option.some Jvm.ClassFile.FieldType.int) [((0 : Nat), (5 : Nat), (6 : Nat), (22 : Nat))]) ∈ TBL := tk_5 (List.mem_of_getElem? (i := 111) rfl) rfl
theorem w_1072 : (Jvm.Cond.methodLink "EchoPantryLaw" (123 : Nat) ({ cls := "EchoPantry", name := "shelfByHits", desc := "(I)I" } : Jvm.MethodName)) ∈ TBL := tk_5 (List.mem_of_getElem? (i := 112) rfl) rfl
theorem w_1073 : (Jvm.Cond.instanceMethod ({ cls := "EchoPantry", name := "shelfByHits", desc := "(I)I" } : Jvm.MethodName)) ∈ TBL := tk_5 (List.mem_of_getElem? (i := 113) rfl) rfl
theorem w_1074 : (Jvm.Cond.selects "EchoPantry" ({ cls := "EchoPantry", name := "shelfByHits", desc := "(I)I" } : Jvm.MethodName) ({ cls := "EchoPantry", name := "shelfByHits", desc := "(I)I" } : Jvm.MethodName)) ∈ TBL := tk_5 (List.mem_of_getElem? (i := 114) rfl) rfl
theorem w_1075 : (Jvm.Cond.code ({ cls := "EchoPantry", name := "shelfByHits", desc := "(I)I" } : Jvm.MethodName) prog_1_method_40_code (3 : Nat) (Option.some Jvm.ClassFile.FieldType.int)) ∈ TBL := tk_5 (List.mem_of_getElem? (i := 115) rfl) rfl
theorem w_1303 : (Jvm.Cond.codeWith ({ cls := "EchoPantryLaw", name := "writeShelf", desc := "(LEchoPantry;I)I" } : Jvm.MethodName) method_35_code (3 : Nat) (Option.some Jvm.ClassFile.FieldType.int) [((0 : Nat), (5 : Nat), (6 : Nat), (31 : Nat))]) ∈ TBL := tk_6 (List.mem_of_getElem? (i := 103) rfl) rfl
theorem w_1304 : (Jvm.Cond.methodLink "EchoPantryLaw" (126 : Nat) ({ cls := "EchoPantry", name := "writeShelf", desc := "(I)I" } : Jvm.MethodName)) ∈ TBL := tk_6 (List.mem_of_getElem? (i := 104) rfl) rfl
theorem w_1305 : (Jvm.Cond.instanceMethod ({ cls := "EchoPantry", name := "writeShelf", desc := "(I)I" } : Jvm.MethodName)) ∈ TBL := tk_6 (List.mem_of_getElem? (i := 105) rfl) rfl
theorem w_1306 : (Jvm.Cond.selects "EchoPantry" ({ cls := "EchoPantry", name := "writeShelf", desc := "(I)I" } : Jvm.MethodName) ({ cls := "EchoPantry", name := "writeShelf", desc := "(I)I" } : Jvm.MethodName)) ∈ TBL := tk_6 (List.mem_of_getElem? (i := 106) rfl) rfl
theorem w_1307 : (Jvm.Cond.code ({ cls := "EchoPantry", name := "writeShelf", desc := "(I)I" } : Jvm.MethodName) prog_1_method_41_code (5 : Nat) (Option.some Jvm.ClassFile.FieldType.int)) ∈ TBL := tk_6 (List.mem_of_getElem? (i := 107) rfl) rfl
theorem w_1373 : (Jvm.Cond.codeWith ({ cls := "EchoPantryLaw", name := "lineAt", desc := "(LEchoPantry;I)I" } : Jvm.MethodName) method_36_code (3 : Nat) (Option.some Jvm.ClassFile.FieldType.int) [((0 : Nat), (5 : Nat), (6 : Nat), (31 : Nat))]) ∈ TBL := tk_6 (List.mem_of_getElem? (i := 173) rfl) rfl
theorem w_1374 : (Jvm.Cond.methodLink "EchoPantryLaw" (129 : Nat) ({ cls := "EchoPantry", name := "lineAt", desc := "(I)C" } : Jvm.MethodName)) ∈ TBL := tk_6 (List.mem_of_getElem? (i := 174) rfl) rfl
theorem w_1375 : (Jvm.Cond.instanceMethod ({ cls := "EchoPantry", name := "lineAt", desc := "(I)C" } : Jvm.MethodName)) ∈ TBL := tk_6 (List.mem_of_getElem? (i := 175) rfl) rfl
theorem w_1376 : (Jvm.Cond.selects "EchoPantry" ({ cls := "EchoPantry", name := "lineAt", desc := "(I)C" } : Jvm.MethodName) ({ cls := "EchoPantry", name := "lineAt", desc := "(I)C" } : Jvm.MethodName)) ∈ TBL := tk_6 (List.mem_of_getElem? (i := 176) rfl) rfl
theorem w_1377 : (Jvm.Cond.code ({ cls := "EchoPantry", name := "lineAt", desc := "(I)C" } : Jvm.MethodName) prog_1_method_42_code (2 : Nat) (Option.some Jvm.ClassFile.FieldType.char)) ∈ TBL := tk_6 (List.mem_of_getElem? (i := 177) rfl) rfl
theorem w_1405 : (Jvm.Cond.codeWith ({ cls := "EchoPantryLaw", name := "removeJar", desc := "(LEchoPantry;C)I" } : Jvm.MethodName) method_4_code (3 : Nat) (Option.some Jvm.ClassFile.FieldType.int) [((0 : Nat), (5 : Nat), (6 : Nat), (22 : Nat))]) ∈ TBL := tk_6 (List.mem_of_getElem? (i := 205) rfl) rfl
theorem w_1406 : (Jvm.Cond.methodLink "EchoPantryLaw" (18 : Nat) ({ cls := "EchoPantry", name := "removeJar", desc := "(C)I" } : Jvm.MethodName)) ∈ TBL := tk_6 (List.mem_of_getElem? (i := 206) rfl) rfl
theorem w_1407 : (Jvm.Cond.instanceMethod ({ cls := "EchoPantry", name := "removeJar", desc := "(C)I" } : Jvm.MethodName)) ∈ TBL := tk_6 (List.mem_of_getElem? (i := 207) rfl) rfl
theorem w_1408 : (Jvm.Cond.selects "EchoPantry" ({ cls := "EchoPantry", name := "removeJar", desc := "(C)I" } : Jvm.MethodName) ({ cls := "EchoPantry", name := "removeJar", desc := "(C)I" } : Jvm.MethodName)) ∈ TBL := tk_6 (List.mem_of_getElem? (i := 208) rfl) rfl
theorem w_1409 : (Jvm.Cond.code ({ cls := "EchoPantry", name := "removeJar", desc := "(C)I" } : Jvm.MethodName) prog_1_method_3_code (2 : Nat) (Option.some Jvm.ClassFile.FieldType.int)) ∈ TBL := tk_6 (List.mem_of_getElem? (i := 209) rfl) rfl
theorem w_1422 : (Jvm.Cond.codeWith ({ cls := "EchoPantryLaw", name := "cancel", desc := "(LEchoPantry;I)I" } : Jvm.MethodName) method_29_code (3 : Nat) (Option.some Jvm.ClassFile.FieldType.int) [((0 : Nat), (5 : Nat), (6 : Nat), (31 : Nat))]) ∈ TBL := tk_6 (List.mem_of_getElem? (i := 222) rfl) rfl
theorem w_1423 : (Jvm.Cond.methodLink "EchoPantryLaw" (108 : Nat) ({ cls := "EchoPantry", name := "cancelWarming", desc := "(I)I" } : Jvm.MethodName)) ∈ TBL := tk_6 (List.mem_of_getElem? (i := 223) rfl) rfl
theorem w_1424 : (Jvm.Cond.instanceMethod ({ cls := "EchoPantry", name := "cancelWarming", desc := "(I)I" } : Jvm.MethodName)) ∈ TBL := tk_6 (List.mem_of_getElem? (i := 224) rfl) rfl
theorem w_1425 : (Jvm.Cond.selects "EchoPantry" ({ cls := "EchoPantry", name := "cancelWarming", desc := "(I)I" } : Jvm.MethodName) ({ cls := "EchoPantry", name := "cancelWarming", desc := "(I)I" } : Jvm.MethodName)) ∈ TBL := tk_6 (List.mem_of_getElem? (i := 225) rfl) rfl
theorem w_1426 : (Jvm.Cond.code ({ cls := "EchoPantry", name := "cancelWarming", desc := "(I)I" } : Jvm.MethodName) prog_1_method_30_code (3 : Nat) (Option.some Jvm.ClassFile.FieldType.int)) ∈ TBL := tk_6 (List.mem_of_getElem? (i := 226) rfl) rfl
theorem w_1439 : (Jvm.Cond.codeWith ({ cls := "EchoPantryLaw", name := "type", desc := "(LEchoPantry;C)I" } : Jvm.MethodName) method_37_code (3 : Nat) (Option.some Jvm.ClassFile.FieldType.int) [((0 : Nat), (5 : Nat), (6 : Nat), (14 : Nat)), ((0 : Nat), (5 : Nat), (10 : Nat), (16 : Nat))]) ∈ TBL := tk_6 (List.mem_of_getElem? (i := 239) rfl) rfl
theorem w_1440 : (Jvm.Cond.methodLink "EchoPantryLaw" (132 : Nat) ({ cls := "EchoPantry", name := "type", desc := "(C)I" } : Jvm.MethodName)) ∈ TBL := tk_7 (List.mem_of_getElem? (i := 0) rfl) rfl
theorem w_1441 : (Jvm.Cond.instanceMethod ({ cls := "EchoPantry", name := "type", desc := "(C)I" } : Jvm.MethodName)) ∈ TBL := tk_7 (List.mem_of_getElem? (i := 1) rfl) rfl
theorem w_1442 : (Jvm.Cond.selects "EchoPantry" ({ cls := "EchoPantry", name := "type", desc := "(C)I" } : Jvm.MethodName) ({ cls := "EchoPantry", name := "type", desc := "(C)I" } : Jvm.MethodName)) ∈ TBL := tk_7 (List.mem_of_getElem? (i := 2) rfl) rfl
theorem w_1443 : (Jvm.Cond.code ({ cls := "EchoPantry", name := "type", desc := "(C)I" } : Jvm.MethodName) prog_1_method_44_code (2 : Nat) (Option.some Jvm.ClassFile.FieldType.int)) ∈ TBL := tk_7 (List.mem_of_getElem? (i := 3) rfl) rfl
theorem w_1452 : (Jvm.Cond.codeWith ({ cls := "EchoPantryLaw", name := "executes", desc := "(LEchoPantry;)I" } : Jvm.MethodName) method_38_code (2 : Nat) (Option.some Jvm.ClassFile.FieldType.int) [((0 : Nat), (4 : Nat), (5 : Nat), (14 : Nat)), ((0 : Nat), (4 : Nat), (8 : Nat), (16 : Nat))]) ∈ TBL := tk_7 (List.mem_of_getElem? (i := 12) rfl) rfl
theorem w_1453 : (Jvm.Cond.methodLink "EchoPantryLaw" (135 : Nat) ({ cls := "EchoPantry", name := "execute", desc := "()I" } : Jvm.MethodName)) ∈ TBL := tk_7 (List.mem_of_getElem? (i := 13) rfl) rfl
theorem w_1454 : (Jvm.Cond.instanceMethod ({ cls := "EchoPantry", name := "execute", desc := "()I" } : Jvm.MethodName)) ∈ TBL := tk_7 (List.mem_of_getElem? (i := 14) rfl) rfl
theorem w_1455 : (Jvm.Cond.selects "EchoPantry" ({ cls := "EchoPantry", name := "execute", desc := "()I" } : Jvm.MethodName) ({ cls := "EchoPantry", name := "execute", desc := "()I" } : Jvm.MethodName)) ∈ TBL := tk_7 (List.mem_of_getElem? (i := 15) rfl) rfl
theorem w_1456 : (Jvm.Cond.code ({ cls := "EchoPantry", name := "execute", desc := "()I" } : Jvm.MethodName) prog_1_method_45_code (4 : Nat) (Option.some Jvm.ClassFile.FieldType.int)) ∈ TBL := tk_7 (List.mem_of_getElem? (i := 16) rfl) rfl
theorem w_1545 : (Jvm.Cond.codeWith ({ cls := "EchoPantryLaw", name := "undo", desc := "(LEchoPantry;)I" } : Jvm.MethodName) method_41_code (2 : Nat) (Option.some Jvm.ClassFile.FieldType.int) [((0 : Nat), (4 : Nat), (5 : Nat), (16 : Nat))]) ∈ TBL := tk_7 (List.mem_of_getElem? (i := 105) rfl) rfl
theorem w_1546 : (Jvm.Cond.methodLink "EchoPantryLaw" (145 : Nat) ({ cls := "EchoPantry", name := "undo", desc := "()I" } : Jvm.MethodName)) ∈ TBL := tk_7 (List.mem_of_getElem? (i := 106) rfl) rfl
theorem w_1547 : (Jvm.Cond.instanceMethod ({ cls := "EchoPantry", name := "undo", desc := "()I" } : Jvm.MethodName)) ∈ TBL := tk_7 (List.mem_of_getElem? (i := 107) rfl) rfl
theorem w_1548 : (Jvm.Cond.selects "EchoPantry" ({ cls := "EchoPantry", name := "undo", desc := "()I" } : Jvm.MethodName) ({ cls := "EchoPantry", name := "undo", desc := "()I" } : Jvm.MethodName)) ∈ TBL := tk_7 (List.mem_of_getElem? (i := 108) rfl) rfl
theorem w_1549 : (Jvm.Cond.code ({ cls := "EchoPantry", name := "undo", desc := "()I" } : Jvm.MethodName) prog_1_method_48_code (1 : Nat) (Option.some Jvm.ClassFile.FieldType.int)) ∈ TBL := tk_7 (List.mem_of_getElem? (i := 109) rfl) rfl
theorem gL_8 : yOk RL 8 2 mX8_addJar := ⟨w_370, w_373, w_1, ⟨by decide, by decide⟩, by decide +kernel⟩
theorem gL_18 : yOk RL 18 1 mX8_removeJar := ⟨w_1406, w_1409, w_1, ⟨by decide, by decide⟩, by decide +kernel⟩
theorem gL_24 : yOk RL 24 2 mX8_say := ⟨w_723, w_726, w_1, ⟨by decide, by decide⟩, by decide +kernel⟩
theorem gL_27 : yOk RL 27 1 mX8_jarAt := ⟨w_817, w_820, w_1, ⟨by decide, by decide⟩, by decide +kernel⟩
theorem gL_33 : yOk RL 33 1 mX8_wordOf := ⟨w_805, w_808, w_1, ⟨by decide, by decide⟩, by decide +kernel⟩
theorem gL_36 : yOk RL 36 3 mX8_addShelf := ⟨w_602, w_605, w_1, ⟨by decide, by decide⟩, by decide +kernel⟩
theorem gL_40 : yOk RL 40 2 mX8_setListening := ⟨w_785, w_788, w_1, ⟨by decide, by decide⟩, by decide +kernel⟩
theorem gL_44 : yOk RL 44 1 mX8_capacityOf := ⟨w_960, w_963, w_1, ⟨by decide, by decide⟩, by decide +kernel⟩
theorem gL_48 : yOk RL 48 1 mX8_lifetimeOf := ⟨w_905, w_908, w_1, ⟨by decide, by decide⟩, by decide +kernel⟩
theorem gL_51 : yOk RL 51 1 mX8_policyOf := ⟨w_978, w_981, w_1, ⟨by decide, by decide⟩, by decide +kernel⟩
theorem gL_54 : yOk RL 54 1 mX8_isListening := ⟨w_1022, w_1025, w_1, ⟨by decide, by decide⟩, by decide +kernel⟩
theorem gL_58 : yOk RL 58 1 mX8_echoCount := ⟨w_952, w_955, w_1, ⟨by decide, by decide⟩, by decide +kernel⟩
theorem gL_61 : yOk RL 61 2 mX8_echoAt := ⟨w_879, w_882, w_1, ⟨by decide, by decide⟩, by decide +kernel⟩
theorem gL_65 : yOk RL 65 2 mX8_hasEcho := ⟨w_837, w_840, w_1, ⟨by decide, by decide⟩, by decide +kernel⟩
theorem gL_69 : yOk RL 69 2 mX8_echoOf := ⟨w_845, w_848, w_1, ⟨by decide, by decide⟩, by decide +kernel⟩
theorem gL_73 : yOk RL 73 2 mX8_ageOf := ⟨w_857, w_860, w_1, ⟨by decide, by decide⟩, by decide +kernel⟩
theorem gL_76 : yOk RL 76 2 mX8_hitsOf := ⟨w_865, w_868, w_1, ⟨by decide, by decide⟩, by decide +kernel⟩
theorem gL_79 : yOk RL 79 2 mX8_isExpired := ⟨w_923, w_926, w_1, ⟨by decide, by decide⟩, by decide +kernel⟩
theorem gL_82 : yOk RL 82 2 mX8_isOpen := ⟨w_872, w_875, w_1, ⟨by decide, by decide⟩, by decide +kernel⟩
theorem gL_85 : yOk RL 85 2 mX8_isTrue := ⟨w_894, w_897, w_1, ⟨by decide, by decide⟩, by decide +kernel⟩
theorem gL_88 : yOk RL 88 2 mX8_isTrueBySteps := ⟨w_912, w_915, w_1, ⟨by decide, by decide⟩, by decide +kernel⟩
theorem gL_91 : yOk RL 91 1 mX8_victimOf := ⟨w_943, w_946, w_1, ⟨by decide, by decide⟩, by decide +kernel⟩
theorem gL_94 : yOk RL 94 1 mX8_victimByScan := ⟨w_967, w_970, w_1, ⟨by decide, by decide⟩, by decide +kernel⟩
theorem gL_97 : yOk RL 97 2 mX8_hear := ⟨w_647, w_650, w_1, ⟨by decide, by decide⟩, by decide +kernel⟩
theorem gL_100 : yOk RL 100 2 mX8_outcomeOf := ⟨w_935, w_938, w_1, ⟨by decide, by decide⟩, by decide +kernel⟩
theorem gL_104 : yOk RL 104 3 mX8_warm := ⟨w_742, w_745, w_1, ⟨by decide, by decide⟩, by decide +kernel⟩
theorem gL_108 : yOk RL 108 1 mX8_cancelWarming := ⟨w_1423, w_1426, w_1, ⟨by decide, by decide⟩, by decide +kernel⟩
theorem gL_111 : yOk RL 111 1 mX8_pass := ⟨w_770, w_773, w_1, ⟨by decide, by decide⟩, by decide +kernel⟩
theorem gL_114 : yOk RL 114 1 mX8_warmingMinute := ⟨w_1037, w_1040, w_1, ⟨by decide, by decide⟩, by decide +kernel⟩
theorem gL_117 : yOk RL 117 1 mX8_warmingJar := ⟨w_1053, w_1056, w_1, ⟨by decide, by decide⟩, by decide +kernel⟩
theorem gL_120 : yOk RL 120 1 mX8_misses := ⟨w_1064, w_1067, w_1, ⟨by decide, by decide⟩, by decide +kernel⟩
theorem gL_123 : yOk RL 123 1 mX8_shelfByHits := ⟨w_1072, w_1075, w_1, ⟨by decide, by decide⟩, by decide +kernel⟩
theorem gL_126 : yOk RL 126 1 mX8_writeShelf := ⟨w_1304, w_1307, w_1, ⟨by decide, by decide⟩, by decide +kernel⟩
theorem gL_129 : yOk RL 129 1 mX8_lineAt := ⟨w_1374, w_1377, w_1, ⟨by decide, by decide⟩, by decide +kernel⟩
theorem gL_132 : yOk RL 132 1 mX8_type := ⟨w_1440, w_1443, w_1, ⟨by decide, by decide⟩, by decide +kernel⟩
theorem gL_135 : yOk RL 135 0 mX8_execute := ⟨w_1453, w_1456, w_1, ⟨by decide, by decide⟩, by decide +kernel⟩
theorem gL_145 : yOk RL 145 0 mX8_undo := ⟨w_1546, w_1549, w_1, ⟨by decide, by decide⟩, by decide +kernel⟩
theorem ca_IAE : Cond.castable "java/lang/IllegalArgumentException" "java/lang/IllegalArgumentException" ∈ lw_tbl := List.mem_of_getElem? (i := 490) (by decide +kernel)
theorem ca_ISE : Cond.castable "java/lang/IllegalStateException" "java/lang/IllegalStateException" ∈ lw_tbl := List.mem_of_getElem? (i := 506) (by decide +kernel)
theorem ca_IOB : Cond.castable "java/lang/IndexOutOfBoundsException" "java/lang/IndexOutOfBoundsException" ∈ lw_tbl := List.mem_of_getElem? (i := 403) (by decide +kernel)
theorem ca_NSE : Cond.castable "java/util/NoSuchElementException" "java/util/NoSuchElementException" ∈ lw_tbl := List.mem_of_getElem? (i := 474) (by decide +kernel)
/-- a helper's end: the answer, or the number that stands for what was thrown -/
def HQ (f : Int32 → Int32) (K : RES → Mm → Prop) (es : List (String × Int32)) : RES → Mm → Prop := fun r t => match r with
  | .inl v => ∃ z : Int32, v = some (vI z) ∧ K (.inl (some (vI (f z)))) t
  | .inr E => ∃ (i : Nat) (c : Int32), es[i]? = some (E, c) ∧ K (.inl (some (vI c))) t
def zo (z : Int32) : Int32 := if z = 0 then 0 else 1
def idI (z : Int32) : Int32 := z
def mL_addJar : SIG := (yL_addJar, cL_addJar, 4, some .int)
def hL_addJar : List (Nat × Nat × Nat × Nat) := [(0, 6, 7, 14), (0, 6, 10, 16)]
def rL_addJar : Room := { frames := 8, cells := 1, slots := 6, locals := 129 }
def mL_removeJar : SIG := (yL_removeJar, cL_removeJar, 3, some .int)
def hL_removeJar : List (Nat × Nat × Nat × Nat) := [(0, 5, 6, 22)]
def rL_removeJar : Room := { frames := 8, cells := 1, slots := 6, locals := 128 }
def mL_say : SIG := (yL_say, cL_say, 4, some .int)
def hL_say : List (Nat × Nat × Nat × Nat) := [(0, 6, 7, 22), (0, 6, 10, 14)]
def rL_say : Room := { frames := 8, cells := 1, slots := 6, locals := 129 }
def mL_jarAt : SIG := (yL_jarAt, cL_jarAt, 3, some .int)
def hL_jarAt : List (Nat × Nat × Nat × Nat) := [(0, 5, 6, 31)]
def rL_jarAt : Room := { frames := 7, cells := 1, slots := 6, locals := 104 }
def mL_wordOf : SIG := (yL_wordOf, cL_wordOf, 3, some .int)
def hL_wordOf : List (Nat × Nat × Nat × Nat) := [(0, 5, 6, 22)]
def rL_wordOf : Room := { frames := 8, cells := 1, slots := 6, locals := 125 }
def mL_addShelf : SIG := (yL_addShelf, cL_addShelf, 5, some .int)
def hL_addShelf : List (Nat × Nat × Nat × Nat) := [(0, 7, 8, 14), (0, 7, 12, 16)]
def rL_addShelf : Room := { frames := 8, cells := 1, slots := 6, locals := 130 }
def mL_listen : SIG := (yL_listen, cL_listen, 4, some .int)
def hL_listen : List (Nat × Nat × Nat × Nat) := [(0, 14, 15, 31)]
def rL_listen : Room := { frames := 8, cells := 1, slots := 6, locals := 131 }
def mL_capacityOf : SIG := (yL_capacityOf, cL_capacityOf, 3, some .int)
def hL_capacityOf : List (Nat × Nat × Nat × Nat) := [(0, 5, 6, 31)]
def rL_capacityOf : Room := { frames := 8, cells := 1, slots := 6, locals := 125 }
def mL_lifetimeOf : SIG := (yL_lifetimeOf, cL_lifetimeOf, 3, some .int)
def hL_lifetimeOf : List (Nat × Nat × Nat × Nat) := [(0, 5, 6, 31)]
def rL_lifetimeOf : Room := { frames := 8, cells := 1, slots := 6, locals := 125 }
def mL_policyOf : SIG := (yL_policyOf, cL_policyOf, 3, some .int)
def hL_policyOf : List (Nat × Nat × Nat × Nat) := [(0, 5, 6, 31)]
def rL_policyOf : Room := { frames := 8, cells := 1, slots := 6, locals := 125 }
def mL_isListening : SIG := (yL_isListening, cL_isListening, 3, some .int)
def hL_isListening : List (Nat × Nat × Nat × Nat) := [(0, 13, 14, 31)]
def rL_isListening : Room := { frames := 8, cells := 1, slots := 6, locals := 125 }
def mL_echoCount : SIG := (yL_echoCount, cL_echoCount, 3, some .int)
def hL_echoCount : List (Nat × Nat × Nat × Nat) := [(0, 5, 6, 31)]
def rL_echoCount : Room := { frames := 8, cells := 1, slots := 6, locals := 125 }
def mL_echoAt : SIG := (yL_echoAt, cL_echoAt, 4, some .int)
def hL_echoAt : List (Nat × Nat × Nat × Nat) := [(0, 6, 7, 31), (0, 6, 11, 22)]
def rL_echoAt : Room := { frames := 8, cells := 2, slots := 12, locals := 127 }
def mL_hasEcho : SIG := (yL_hasEcho, cL_hasEcho, 4, some .int)
def hL_hasEcho : List (Nat × Nat × Nat × Nat) := [(0, 14, 15, 31)]
def rL_hasEcho : Room := { frames := 8, cells := 1, slots := 6, locals := 126 }
def mL_echoOf : SIG := (yL_echoOf, cL_echoOf, 4, some .int)
def hL_echoOf : List (Nat × Nat × Nat × Nat) := [(0, 6, 7, 31), (0, 6, 11, 22)]
def rL_echoOf : Room := { frames := 9, cells := 2, slots := 12, locals := 149 }
def mL_ageOf : SIG := (yL_ageOf, cL_ageOf, 4, some .int)
def hL_ageOf : List (Nat × Nat × Nat × Nat) := [(0, 6, 7, 31), (0, 6, 11, 22)]
def rL_ageOf : Room := { frames := 9, cells := 2, slots := 12, locals := 149 }
def mL_hitsOf : SIG := (yL_hitsOf, cL_hitsOf, 4, some .int)
def hL_hitsOf : List (Nat × Nat × Nat × Nat) := [(0, 6, 7, 31), (0, 6, 11, 22)]
def rL_hitsOf : Room := { frames := 9, cells := 2, slots := 12, locals := 149 }
def mL_isExpired : SIG := (yL_isExpired, cL_isExpired, 4, some .int)
def hL_isExpired : List (Nat × Nat × Nat × Nat) := [(0, 14, 15, 31), (0, 14, 19, 22)]
def rL_isExpired : Room := { frames := 9, cells := 3, slots := 18, locals := 150 }
def mL_isOpen : SIG := (yL_isOpen, cL_isOpen, 4, some .int)
def hL_isOpen : List (Nat × Nat × Nat × Nat) := [(0, 14, 15, 31), (0, 14, 19, 22)]
def rL_isOpen : Room := { frames := 9, cells := 2, slots := 12, locals := 149 }
def mL_isTrue : SIG := (yL_isTrue, cL_isTrue, 4, some .int)
def hL_isTrue : List (Nat × Nat × Nat × Nat) := [(0, 14, 15, 31), (0, 14, 19, 22)]
def rL_isTrue : Room := { frames := 9, cells := 2, slots := 12, locals := 149 }
def mL_bySteps : SIG := (yL_bySteps, cL_bySteps, 4, some .int)
def hL_bySteps : List (Nat × Nat × Nat × Nat) := [(0, 14, 15, 31), (0, 14, 19, 22)]
def rL_bySteps : Room := { frames := 9, cells := 2, slots := 12, locals := 149 }
def mL_victimOf : SIG := (yL_victimOf, cL_victimOf, 3, some .int)
def hL_victimOf : List (Nat × Nat × Nat × Nat) := [(0, 5, 6, 31), (0, 5, 10, 22)]
def rL_victimOf : Room := { frames := 8, cells := 2, slots := 12, locals := 126 }
def mL_byScan : SIG := (yL_byScan, cL_byScan, 3, some .int)
def hL_byScan : List (Nat × Nat × Nat × Nat) := [(0, 5, 6, 31), (0, 5, 10, 22)]
def rL_byScan : Room := { frames := 8, cells := 2, slots := 12, locals := 126 }
def mL_hear : SIG := (yL_hear, cL_hear, 4, some .int)
def hL_hear : List (Nat × Nat × Nat × Nat) := [(0, 6, 7, 31), (0, 6, 10, 22)]
def rL_hear : Room := { frames := 8, cells := 1, slots := 6, locals := 148 }
def mL_outcome : SIG := (yL_outcome, cL_outcome, 4, some .int)
def hL_outcome : List (Nat × Nat × Nat × Nat) := [(0, 6, 7, 31), (0, 6, 11, 22)]
def rL_outcome : Room := { frames := 8, cells := 2, slots := 12, locals := 126 }
def mL_warm : SIG := (yL_warm, cL_warm, 5, some .int)
def hL_warm : List (Nat × Nat × Nat × Nat) := [(0, 7, 8, 31), (0, 7, 12, 22), (0, 7, 17, 14), (0, 7, 22, 16)]
def rL_warm : Room := { frames := 8, cells := 1, slots := 6, locals := 134 }
def mL_cancel : SIG := (yL_cancel, cL_cancel, 3, some .int)
def hL_cancel : List (Nat × Nat × Nat × Nat) := [(0, 5, 6, 31)]
def rL_cancel : Room := { frames := 8, cells := 1, slots := 6, locals := 129 }
def mL_pass : SIG := (yL_pass, cL_pass, 3, some .int)
def hL_pass : List (Nat × Nat × Nat × Nat) := [(0, 5, 6, 14)]
def rL_pass : Room := { frames := 8, cells := 1, slots := 6, locals := 147 }
def mL_minuteAt : SIG := (yL_minuteAt, cL_minuteAt, 3, some .int)
def hL_minuteAt : List (Nat × Nat × Nat × Nat) := [(0, 5, 6, 31)]
def rL_minuteAt : Room := { frames := 8, cells := 1, slots := 6, locals := 125 }
def mL_warmedAt : SIG := (yL_warmedAt, cL_warmedAt, 3, some .int)
def hL_warmedAt : List (Nat × Nat × Nat × Nat) := [(0, 5, 6, 31)]
def rL_warmedAt : Room := { frames := 8, cells := 1, slots := 6, locals := 125 }
def mL_misses : SIG := (yL_misses, cL_misses, 3, some .int)
def hL_misses : List (Nat × Nat × Nat × Nat) := [(0, 5, 6, 14)]
def rL_misses : Room := { frames := 7, cells := 1, slots := 6, locals := 103 }
def mL_byHits : SIG := (yL_byHits, cL_byHits, 3, some .int)
def hL_byHits : List (Nat × Nat × Nat × Nat) := [(0, 5, 6, 22)]
def rL_byHits : Room := { frames := 7, cells := 1, slots := 6, locals := 104 }
def mL_writeShelf : SIG := (yL_writeShelf, cL_writeShelf, 3, some .int)
def hL_writeShelf : List (Nat × Nat × Nat × Nat) := [(0, 5, 6, 31)]
def rL_writeShelf : Room := { frames := 17, cells := 31, slots := 4206, locals := 767 }
def mL_lineAt : SIG := (yL_lineAt, cL_lineAt, 3, some .int)
def hL_lineAt : List (Nat × Nat × Nat × Nat) := [(0, 5, 6, 31)]
def rL_lineAt : Room := { frames := 16, cells := 1, slots := 6, locals := 742 }
def mL_type : SIG := (yL_type, cL_type, 3, some .int)
def hL_type : List (Nat × Nat × Nat × Nat) := [(0, 5, 6, 14), (0, 5, 10, 16)]
def rL_type : Room := { frames := 7, cells := 1, slots := 6, locals := 103 }
def mL_executes : SIG := (yL_executes, cL_executes, 2, some .int)
def hL_executes : List (Nat × Nat × Nat × Nat) := [(0, 4, 5, 14), (0, 4, 8, 16)]
def rL_executes : Room := { frames := 10, cells := 1, slots := 6, locals := 222 }
def mL_undo : SIG := (yL_undo, cL_undo, 2, some .int)
def hL_undo : List (Nat × Nat × Nat × Nat) := [(0, 4, 5, 16)]
def rL_undo : Room := { frames := 7, cells := 1, slots := 6, locals := 127 }
theorem kL_addJar : ∀ own idx, Cond.methodLink own idx mL_addJar.1 ∈ TBL → yOkH own idx 3 mL_addJar hL_addJar := fun own idx h => ⟨h, w_367, w_0, ⟨by decide, by decide⟩, by decide +kernel⟩
theorem kL_removeJar : ∀ own idx, Cond.methodLink own idx mL_removeJar.1 ∈ TBL → yOkH own idx 2 mL_removeJar hL_removeJar := fun own idx h => ⟨h, w_1405, w_0, ⟨by decide, by decide⟩, by decide +kernel⟩
theorem kL_say : ∀ own idx, Cond.methodLink own idx mL_say.1 ∈ TBL → yOkH own idx 3 mL_say hL_say := fun own idx h => ⟨h, w_722, w_0, ⟨by decide, by decide⟩, by decide +kernel⟩
theorem kL_jarAt : ∀ own idx, Cond.methodLink own idx mL_jarAt.1 ∈ TBL → yOkH own idx 2 mL_jarAt hL_jarAt := fun own idx h => ⟨h, w_816, w_0, ⟨by decide, by decide⟩, by decide +kernel⟩
theorem kL_wordOf : ∀ own idx, Cond.methodLink own idx mL_wordOf.1 ∈ TBL → yOkH own idx 2 mL_wordOf hL_wordOf := fun own idx h => ⟨h, w_804, w_0, ⟨by decide, by decide⟩, by decide +kernel⟩
theorem kL_addShelf : ∀ own idx, Cond.methodLink own idx mL_addShelf.1 ∈ TBL → yOkH own idx 4 mL_addShelf hL_addShelf := fun own idx h => ⟨h, w_601, w_0, ⟨by decide, by decide⟩, by decide +kernel⟩
theorem kL_listen : ∀ own idx, Cond.methodLink own idx mL_listen.1 ∈ TBL → yOkH own idx 3 mL_listen hL_listen := fun own idx h => ⟨h, w_784, w_0, ⟨by decide, by decide⟩, by decide +kernel⟩
theorem kL_capacityOf : ∀ own idx, Cond.methodLink own idx mL_capacityOf.1 ∈ TBL → yOkH own idx 2 mL_capacityOf hL_capacityOf := fun own idx h => ⟨h, w_959, w_0, ⟨by decide, by decide⟩, by decide +kernel⟩
theorem kL_lifetimeOf : ∀ own idx, Cond.methodLink own idx mL_lifetimeOf.1 ∈ TBL → yOkH own idx 2 mL_lifetimeOf hL_lifetimeOf := fun own idx h => ⟨h, w_904, w_0, ⟨by decide, by decide⟩, by decide +kernel⟩
theorem kL_policyOf : ∀ own idx, Cond.methodLink own idx mL_policyOf.1 ∈ TBL → yOkH own idx 2 mL_policyOf hL_policyOf := fun own idx h => ⟨h, w_977, w_0, ⟨by decide, by decide⟩, by decide +kernel⟩
theorem kL_isListening : ∀ own idx, Cond.methodLink own idx mL_isListening.1 ∈ TBL → yOkH own idx 2 mL_isListening hL_isListening := fun own idx h => ⟨h, w_1021, w_0, ⟨by decide, by decide⟩, by decide +kernel⟩
theorem kL_echoCount : ∀ own idx, Cond.methodLink own idx mL_echoCount.1 ∈ TBL → yOkH own idx 2 mL_echoCount hL_echoCount := fun own idx h => ⟨h, w_951, w_0, ⟨by decide, by decide⟩, by decide +kernel⟩
theorem kL_echoAt : ∀ own idx, Cond.methodLink own idx mL_echoAt.1 ∈ TBL → yOkH own idx 3 mL_echoAt hL_echoAt := fun own idx h => ⟨h, w_878, w_0, ⟨by decide, by decide⟩, by decide +kernel⟩
theorem kL_hasEcho : ∀ own idx, Cond.methodLink own idx mL_hasEcho.1 ∈ TBL → yOkH own idx 3 mL_hasEcho hL_hasEcho := fun own idx h => ⟨h, w_836, w_0, ⟨by decide, by decide⟩, by decide +kernel⟩
theorem kL_echoOf : ∀ own idx, Cond.methodLink own idx mL_echoOf.1 ∈ TBL → yOkH own idx 3 mL_echoOf hL_echoOf := fun own idx h => ⟨h, w_844, w_0, ⟨by decide, by decide⟩, by decide +kernel⟩
theorem kL_ageOf : ∀ own idx, Cond.methodLink own idx mL_ageOf.1 ∈ TBL → yOkH own idx 3 mL_ageOf hL_ageOf := fun own idx h => ⟨h, w_856, w_0, ⟨by decide, by decide⟩, by decide +kernel⟩
theorem kL_hitsOf : ∀ own idx, Cond.methodLink own idx mL_hitsOf.1 ∈ TBL → yOkH own idx 3 mL_hitsOf hL_hitsOf := fun own idx h => ⟨h, w_864, w_0, ⟨by decide, by decide⟩, by decide +kernel⟩
theorem kL_isExpired : ∀ own idx, Cond.methodLink own idx mL_isExpired.1 ∈ TBL → yOkH own idx 3 mL_isExpired hL_isExpired := fun own idx h => ⟨h, w_922, w_0, ⟨by decide, by decide⟩, by decide +kernel⟩
theorem kL_isOpen : ∀ own idx, Cond.methodLink own idx mL_isOpen.1 ∈ TBL → yOkH own idx 3 mL_isOpen hL_isOpen := fun own idx h => ⟨h, w_871, w_0, ⟨by decide, by decide⟩, by decide +kernel⟩
theorem kL_isTrue : ∀ own idx, Cond.methodLink own idx mL_isTrue.1 ∈ TBL → yOkH own idx 3 mL_isTrue hL_isTrue := fun own idx h => ⟨h, w_893, w_0, ⟨by decide, by decide⟩, by decide +kernel⟩
theorem kL_bySteps : ∀ own idx, Cond.methodLink own idx mL_bySteps.1 ∈ TBL → yOkH own idx 3 mL_bySteps hL_bySteps := fun own idx h => ⟨h, w_911, w_0, ⟨by decide, by decide⟩, by decide +kernel⟩
theorem kL_victimOf : ∀ own idx, Cond.methodLink own idx mL_victimOf.1 ∈ TBL → yOkH own idx 2 mL_victimOf hL_victimOf := fun own idx h => ⟨h, w_942, w_0, ⟨by decide, by decide⟩, by decide +kernel⟩
theorem kL_byScan : ∀ own idx, Cond.methodLink own idx mL_byScan.1 ∈ TBL → yOkH own idx 2 mL_byScan hL_byScan := fun own idx h => ⟨h, w_966, w_0, ⟨by decide, by decide⟩, by decide +kernel⟩
theorem kL_hear : ∀ own idx, Cond.methodLink own idx mL_hear.1 ∈ TBL → yOkH own idx 3 mL_hear hL_hear := fun own idx h => ⟨h, w_624, w_0, ⟨by decide, by decide⟩, by decide +kernel⟩
theorem kL_outcome : ∀ own idx, Cond.methodLink own idx mL_outcome.1 ∈ TBL → yOkH own idx 3 mL_outcome hL_outcome := fun own idx h => ⟨h, w_934, w_0, ⟨by decide, by decide⟩, by decide +kernel⟩
theorem kL_warm : ∀ own idx, Cond.methodLink own idx mL_warm.1 ∈ TBL → yOkH own idx 4 mL_warm hL_warm := fun own idx h => ⟨h, w_741, w_0, ⟨by decide, by decide⟩, by decide +kernel⟩
theorem kL_cancel : ∀ own idx, Cond.methodLink own idx mL_cancel.1 ∈ TBL → yOkH own idx 2 mL_cancel hL_cancel := fun own idx h => ⟨h, w_1422, w_0, ⟨by decide, by decide⟩, by decide +kernel⟩
theorem kL_pass : ∀ own idx, Cond.methodLink own idx mL_pass.1 ∈ TBL → yOkH own idx 2 mL_pass hL_pass := fun own idx h => ⟨h, w_769, w_0, ⟨by decide, by decide⟩, by decide +kernel⟩
theorem kL_minuteAt : ∀ own idx, Cond.methodLink own idx mL_minuteAt.1 ∈ TBL → yOkH own idx 2 mL_minuteAt hL_minuteAt := fun own idx h => ⟨h, w_1036, w_0, ⟨by decide, by decide⟩, by decide +kernel⟩
theorem kL_warmedAt : ∀ own idx, Cond.methodLink own idx mL_warmedAt.1 ∈ TBL → yOkH own idx 2 mL_warmedAt hL_warmedAt := fun own idx h => ⟨h, w_1052, w_0, ⟨by decide, by decide⟩, by decide +kernel⟩
theorem kL_misses : ∀ own idx, Cond.methodLink own idx mL_misses.1 ∈ TBL → yOkH own idx 2 mL_misses hL_misses := fun own idx h => ⟨h, w_1063, w_0, ⟨by decide, by decide⟩, by decide +kernel⟩
theorem kL_byHits : ∀ own idx, Cond.methodLink own idx mL_byHits.1 ∈ TBL → yOkH own idx 2 mL_byHits hL_byHits := fun own idx h => ⟨h, w_1071, w_0, ⟨by decide, by decide⟩, by decide +kernel⟩
theorem kL_writeShelf : ∀ own idx, Cond.methodLink own idx mL_writeShelf.1 ∈ TBL → yOkH own idx 2 mL_writeShelf hL_writeShelf := fun own idx h => ⟨h, w_1303, w_0, ⟨by decide, by decide⟩, by decide +kernel⟩
theorem kL_lineAt : ∀ own idx, Cond.methodLink own idx mL_lineAt.1 ∈ TBL → yOkH own idx 2 mL_lineAt hL_lineAt := fun own idx h => ⟨h, w_1373, w_0, ⟨by decide, by decide⟩, by decide +kernel⟩
theorem kL_type : ∀ own idx, Cond.methodLink own idx mL_type.1 ∈ TBL → yOkH own idx 2 mL_type hL_type := fun own idx h => ⟨h, w_1439, w_0, ⟨by decide, by decide⟩, by decide +kernel⟩
theorem kL_executes : ∀ own idx, Cond.methodLink own idx mL_executes.1 ∈ TBL → yOkH own idx 1 mL_executes hL_executes := fun own idx h => ⟨h, w_1452, w_0, ⟨by decide, by decide⟩, by decide +kernel⟩
theorem kL_undo : ∀ own idx, Cond.methodLink own idx mL_undo.1 ∈ TBL → yOkH own idx 1 mL_undo hL_undo := fun own idx h => ⟨h, w_1545, w_0, ⟨by decide, by decide⟩, by decide +kernel⟩
theorem dL_addJar_0 : decode mL_addJar.2.1 0 = .ok (.aload_n 0, 1) := by decide +kernel
theorem dL_addJar_1 : decode mL_addJar.2.1 1 = .ok (.iload_n 1, 1) := by decide +kernel
theorem dL_addJar_2 : decode mL_addJar.2.1 2 = .ok (.iload_n 2, 1) := by decide +kernel
theorem dL_addJar_3 : decode mL_addJar.2.1 3 = .ok (.invokevirtual 8, 3) := by decide +kernel
theorem dL_addJar_6 : decode mL_addJar.2.1 6 = .ok (.ireturn, 1) := by decide +kernel
theorem dL_addJar_7 : decode mL_addJar.2.1 7 = .ok (.astore_n 3, 1) := by decide +kernel
theorem dL_addJar_8 : decode mL_addJar.2.1 8 = .ok (.iconst (-1), 1) := by decide +kernel
theorem dL_addJar_9 : decode mL_addJar.2.1 9 = .ok (.ireturn, 1) := by decide +kernel
theorem dL_addJar_10 : decode mL_addJar.2.1 10 = .ok (.astore_n 3, 1) := by decide +kernel
theorem dL_addJar_11 : decode mL_addJar.2.1 11 = .ok (.bipush (-2), 2) := by decide +kernel
theorem dL_addJar_13 : decode mL_addJar.2.1 13 = .ok (.ireturn, 1) := by decide +kernel
theorem dL_removeJar_0 : decode mL_removeJar.2.1 0 = .ok (.aload_n 0, 1) := by decide +kernel
theorem dL_removeJar_1 : decode mL_removeJar.2.1 1 = .ok (.iload_n 1, 1) := by decide +kernel
theorem dL_removeJar_2 : decode mL_removeJar.2.1 2 = .ok (.invokevirtual 18, 3) := by decide +kernel
theorem dL_removeJar_5 : decode mL_removeJar.2.1 5 = .ok (.ireturn, 1) := by decide +kernel
theorem dL_removeJar_6 : decode mL_removeJar.2.1 6 = .ok (.astore_n 2, 1) := by decide +kernel
theorem dL_removeJar_7 : decode mL_removeJar.2.1 7 = .ok (.iconst (-1), 1) := by decide +kernel
theorem dL_removeJar_8 : decode mL_removeJar.2.1 8 = .ok (.ireturn, 1) := by decide +kernel
theorem dL_say_0 : decode mL_say.2.1 0 = .ok (.aload_n 0, 1) := by decide +kernel
theorem dL_say_1 : decode mL_say.2.1 1 = .ok (.iload_n 1, 1) := by decide +kernel
theorem dL_say_2 : decode mL_say.2.1 2 = .ok (.iload_n 2, 1) := by decide +kernel
theorem dL_say_3 : decode mL_say.2.1 3 = .ok (.invokevirtual 24, 3) := by decide +kernel
theorem dL_say_6 : decode mL_say.2.1 6 = .ok (.ireturn, 1) := by decide +kernel
theorem dL_say_7 : decode mL_say.2.1 7 = .ok (.astore_n 3, 1) := by decide +kernel
theorem dL_say_8 : decode mL_say.2.1 8 = .ok (.iconst (-1), 1) := by decide +kernel
theorem dL_say_9 : decode mL_say.2.1 9 = .ok (.ireturn, 1) := by decide +kernel
theorem dL_say_10 : decode mL_say.2.1 10 = .ok (.astore_n 3, 1) := by decide +kernel
theorem dL_say_11 : decode mL_say.2.1 11 = .ok (.bipush (-2), 2) := by decide +kernel
theorem dL_say_13 : decode mL_say.2.1 13 = .ok (.ireturn, 1) := by decide +kernel
theorem dL_jarAt_0 : decode mL_jarAt.2.1 0 = .ok (.aload_n 0, 1) := by decide +kernel
theorem dL_jarAt_1 : decode mL_jarAt.2.1 1 = .ok (.iload_n 1, 1) := by decide +kernel
theorem dL_jarAt_2 : decode mL_jarAt.2.1 2 = .ok (.invokevirtual 27, 3) := by decide +kernel
theorem dL_jarAt_5 : decode mL_jarAt.2.1 5 = .ok (.ireturn, 1) := by decide +kernel
theorem dL_jarAt_6 : decode mL_jarAt.2.1 6 = .ok (.astore_n 2, 1) := by decide +kernel
theorem dL_jarAt_7 : decode mL_jarAt.2.1 7 = .ok (.bipush (-11), 2) := by decide +kernel
theorem dL_jarAt_9 : decode mL_jarAt.2.1 9 = .ok (.ireturn, 1) := by decide +kernel
theorem dL_wordOf_0 : decode mL_wordOf.2.1 0 = .ok (.aload_n 0, 1) := by decide +kernel
theorem dL_wordOf_1 : decode mL_wordOf.2.1 1 = .ok (.iload_n 1, 1) := by decide +kernel
theorem dL_wordOf_2 : decode mL_wordOf.2.1 2 = .ok (.invokevirtual 33, 3) := by decide +kernel
theorem dL_wordOf_5 : decode mL_wordOf.2.1 5 = .ok (.ireturn, 1) := by decide +kernel
theorem dL_wordOf_6 : decode mL_wordOf.2.1 6 = .ok (.astore_n 2, 1) := by decide +kernel
theorem dL_wordOf_7 : decode mL_wordOf.2.1 7 = .ok (.bipush (-13), 2) := by decide +kernel
theorem dL_wordOf_9 : decode mL_wordOf.2.1 9 = .ok (.ireturn, 1) := by decide +kernel
theorem dL_addShelf_0 : decode mL_addShelf.2.1 0 = .ok (.aload_n 0, 1) := by decide +kernel
theorem dL_addShelf_1 : decode mL_addShelf.2.1 1 = .ok (.iload_n 1, 1) := by decide +kernel
theorem dL_addShelf_2 : decode mL_addShelf.2.1 2 = .ok (.iload_n 2, 1) := by decide +kernel
theorem dL_addShelf_3 : decode mL_addShelf.2.1 3 = .ok (.iload_n 3, 1) := by decide +kernel
theorem dL_addShelf_4 : decode mL_addShelf.2.1 4 = .ok (.invokevirtual 36, 3) := by decide +kernel
theorem dL_addShelf_7 : decode mL_addShelf.2.1 7 = .ok (.ireturn, 1) := by decide +kernel
theorem dL_addShelf_8 : decode mL_addShelf.2.1 8 = .ok (.astore 4, 2) := by decide +kernel
theorem dL_addShelf_10 : decode mL_addShelf.2.1 10 = .ok (.iconst (-1), 1) := by decide +kernel
theorem dL_addShelf_11 : decode mL_addShelf.2.1 11 = .ok (.ireturn, 1) := by decide +kernel
theorem dL_addShelf_12 : decode mL_addShelf.2.1 12 = .ok (.astore 4, 2) := by decide +kernel
theorem dL_addShelf_14 : decode mL_addShelf.2.1 14 = .ok (.bipush (-2), 2) := by decide +kernel
theorem dL_addShelf_16 : decode mL_addShelf.2.1 16 = .ok (.ireturn, 1) := by decide +kernel
theorem dL_listen_0 : decode mL_listen.2.1 0 = .ok (.aload_n 0, 1) := by decide +kernel
theorem dL_listen_1 : decode mL_listen.2.1 1 = .ok (.iload_n 1, 1) := by decide +kernel
theorem dL_listen_2 : decode mL_listen.2.1 2 = .ok (.iload_n 2, 1) := by decide +kernel
theorem dL_listen_3 : decode mL_listen.2.1 3 = .ok (.invokevirtual 40, 3) := by decide +kernel
theorem dL_listen_6 : decode mL_listen.2.1 6 = .ok (.ifCond .eq 7, 3) := by decide +kernel
theorem dL_listen_9 : decode mL_listen.2.1 9 = .ok (.iconst 1, 1) := by decide +kernel
theorem dL_listen_10 : decode mL_listen.2.1 10 = .ok (.goto 4, 3) := by decide +kernel
theorem dL_listen_13 : decode mL_listen.2.1 13 = .ok (.iconst 0, 1) := by decide +kernel
theorem dL_listen_14 : decode mL_listen.2.1 14 = .ok (.ireturn, 1) := by decide +kernel
theorem dL_listen_15 : decode mL_listen.2.1 15 = .ok (.astore_n 3, 1) := by decide +kernel
theorem dL_listen_16 : decode mL_listen.2.1 16 = .ok (.iconst (-1), 1) := by decide +kernel
theorem dL_listen_17 : decode mL_listen.2.1 17 = .ok (.ireturn, 1) := by decide +kernel
theorem dL_capacityOf_0 : decode mL_capacityOf.2.1 0 = .ok (.aload_n 0, 1) := by decide +kernel
theorem dL_capacityOf_1 : decode mL_capacityOf.2.1 1 = .ok (.iload_n 1, 1) := by decide +kernel
theorem dL_capacityOf_2 : decode mL_capacityOf.2.1 2 = .ok (.invokevirtual 44, 3) := by decide +kernel
theorem dL_capacityOf_5 : decode mL_capacityOf.2.1 5 = .ok (.ireturn, 1) := by decide +kernel
theorem dL_capacityOf_6 : decode mL_capacityOf.2.1 6 = .ok (.astore_n 2, 1) := by decide +kernel
theorem dL_capacityOf_7 : decode mL_capacityOf.2.1 7 = .ok (.bipush (-11), 2) := by decide +kernel
theorem dL_capacityOf_9 : decode mL_capacityOf.2.1 9 = .ok (.ireturn, 1) := by decide +kernel
theorem dL_lifetimeOf_0 : decode mL_lifetimeOf.2.1 0 = .ok (.aload_n 0, 1) := by decide +kernel
theorem dL_lifetimeOf_1 : decode mL_lifetimeOf.2.1 1 = .ok (.iload_n 1, 1) := by decide +kernel
theorem dL_lifetimeOf_2 : decode mL_lifetimeOf.2.1 2 = .ok (.invokevirtual 48, 3) := by decide +kernel
theorem dL_lifetimeOf_5 : decode mL_lifetimeOf.2.1 5 = .ok (.ireturn, 1) := by decide +kernel
theorem dL_lifetimeOf_6 : decode mL_lifetimeOf.2.1 6 = .ok (.astore_n 2, 1) := by decide +kernel
theorem dL_lifetimeOf_7 : decode mL_lifetimeOf.2.1 7 = .ok (.bipush (-11), 2) := by decide +kernel
theorem dL_lifetimeOf_9 : decode mL_lifetimeOf.2.1 9 = .ok (.ireturn, 1) := by decide +kernel
theorem dL_policyOf_0 : decode mL_policyOf.2.1 0 = .ok (.aload_n 0, 1) := by decide +kernel
theorem dL_policyOf_1 : decode mL_policyOf.2.1 1 = .ok (.iload_n 1, 1) := by decide +kernel
theorem dL_policyOf_2 : decode mL_policyOf.2.1 2 = .ok (.invokevirtual 51, 3) := by decide +kernel
theorem dL_policyOf_5 : decode mL_policyOf.2.1 5 = .ok (.ireturn, 1) := by decide +kernel
theorem dL_policyOf_6 : decode mL_policyOf.2.1 6 = .ok (.astore_n 2, 1) := by decide +kernel
theorem dL_policyOf_7 : decode mL_policyOf.2.1 7 = .ok (.bipush (-11), 2) := by decide +kernel
theorem dL_policyOf_9 : decode mL_policyOf.2.1 9 = .ok (.ireturn, 1) := by decide +kernel
theorem dL_isListening_0 : decode mL_isListening.2.1 0 = .ok (.aload_n 0, 1) := by decide +kernel
theorem dL_isListening_1 : decode mL_isListening.2.1 1 = .ok (.iload_n 1, 1) := by decide +kernel
theorem dL_isListening_2 : decode mL_isListening.2.1 2 = .ok (.invokevirtual 54, 3) := by decide +kernel
theorem dL_isListening_5 : decode mL_isListening.2.1 5 = .ok (.ifCond .eq 7, 3) := by decide +kernel
theorem dL_isListening_8 : decode mL_isListening.2.1 8 = .ok (.iconst 1, 1) := by decide +kernel
theorem dL_isListening_9 : decode mL_isListening.2.1 9 = .ok (.goto 4, 3) := by decide +kernel
theorem dL_isListening_12 : decode mL_isListening.2.1 12 = .ok (.iconst 0, 1) := by decide +kernel
theorem dL_isListening_13 : decode mL_isListening.2.1 13 = .ok (.ireturn, 1) := by decide +kernel
theorem dL_isListening_14 : decode mL_isListening.2.1 14 = .ok (.astore_n 2, 1) := by decide +kernel
theorem dL_isListening_15 : decode mL_isListening.2.1 15 = .ok (.bipush (-11), 2) := by decide +kernel
theorem dL_isListening_17 : decode mL_isListening.2.1 17 = .ok (.ireturn, 1) := by decide +kernel
theorem dL_echoCount_0 : decode mL_echoCount.2.1 0 = .ok (.aload_n 0, 1) := by decide +kernel
theorem dL_echoCount_1 : decode mL_echoCount.2.1 1 = .ok (.iload_n 1, 1) := by decide +kernel
theorem dL_echoCount_2 : decode mL_echoCount.2.1 2 = .ok (.invokevirtual 58, 3) := by decide +kernel
theorem dL_echoCount_5 : decode mL_echoCount.2.1 5 = .ok (.ireturn, 1) := by decide +kernel
theorem dL_echoCount_6 : decode mL_echoCount.2.1 6 = .ok (.astore_n 2, 1) := by decide +kernel
theorem dL_echoCount_7 : decode mL_echoCount.2.1 7 = .ok (.bipush (-11), 2) := by decide +kernel
theorem dL_echoCount_9 : decode mL_echoCount.2.1 9 = .ok (.ireturn, 1) := by decide +kernel
theorem dL_echoAt_0 : decode mL_echoAt.2.1 0 = .ok (.aload_n 0, 1) := by decide +kernel
theorem dL_echoAt_1 : decode mL_echoAt.2.1 1 = .ok (.iload_n 1, 1) := by decide +kernel
theorem dL_echoAt_2 : decode mL_echoAt.2.1 2 = .ok (.iload_n 2, 1) := by decide +kernel
theorem dL_echoAt_3 : decode mL_echoAt.2.1 3 = .ok (.invokevirtual 61, 3) := by decide +kernel
theorem dL_echoAt_6 : decode mL_echoAt.2.1 6 = .ok (.ireturn, 1) := by decide +kernel
theorem dL_echoAt_7 : decode mL_echoAt.2.1 7 = .ok (.astore_n 3, 1) := by decide +kernel
theorem dL_echoAt_8 : decode mL_echoAt.2.1 8 = .ok (.bipush (-11), 2) := by decide +kernel
theorem dL_echoAt_10 : decode mL_echoAt.2.1 10 = .ok (.ireturn, 1) := by decide +kernel
theorem dL_echoAt_11 : decode mL_echoAt.2.1 11 = .ok (.astore_n 3, 1) := by decide +kernel
theorem dL_echoAt_12 : decode mL_echoAt.2.1 12 = .ok (.bipush (-13), 2) := by decide +kernel
theorem dL_echoAt_14 : decode mL_echoAt.2.1 14 = .ok (.ireturn, 1) := by decide +kernel
theorem dL_hasEcho_0 : decode mL_hasEcho.2.1 0 = .ok (.aload_n 0, 1) := by decide +kernel
theorem dL_hasEcho_1 : decode mL_hasEcho.2.1 1 = .ok (.iload_n 1, 1) := by decide +kernel
theorem dL_hasEcho_2 : decode mL_hasEcho.2.1 2 = .ok (.iload_n 2, 1) := by decide +kernel
theorem dL_hasEcho_3 : decode mL_hasEcho.2.1 3 = .ok (.invokevirtual 65, 3) := by decide +kernel
theorem dL_hasEcho_6 : decode mL_hasEcho.2.1 6 = .ok (.ifCond .eq 7, 3) := by decide +kernel
theorem dL_hasEcho_9 : decode mL_hasEcho.2.1 9 = .ok (.iconst 1, 1) := by decide +kernel
theorem dL_hasEcho_10 : decode mL_hasEcho.2.1 10 = .ok (.goto 4, 3) := by decide +kernel
theorem dL_hasEcho_13 : decode mL_hasEcho.2.1 13 = .ok (.iconst 0, 1) := by decide +kernel
theorem dL_hasEcho_14 : decode mL_hasEcho.2.1 14 = .ok (.ireturn, 1) := by decide +kernel
theorem dL_hasEcho_15 : decode mL_hasEcho.2.1 15 = .ok (.astore_n 3, 1) := by decide +kernel
theorem dL_hasEcho_16 : decode mL_hasEcho.2.1 16 = .ok (.bipush (-11), 2) := by decide +kernel
theorem dL_hasEcho_18 : decode mL_hasEcho.2.1 18 = .ok (.ireturn, 1) := by decide +kernel
theorem dL_echoOf_0 : decode mL_echoOf.2.1 0 = .ok (.aload_n 0, 1) := by decide +kernel
theorem dL_echoOf_1 : decode mL_echoOf.2.1 1 = .ok (.iload_n 1, 1) := by decide +kernel
theorem dL_echoOf_2 : decode mL_echoOf.2.1 2 = .ok (.iload_n 2, 1) := by decide +kernel
theorem dL_echoOf_3 : decode mL_echoOf.2.1 3 = .ok (.invokevirtual 69, 3) := by decide +kernel
theorem dL_echoOf_6 : decode mL_echoOf.2.1 6 = .ok (.ireturn, 1) := by decide +kernel
theorem dL_echoOf_7 : decode mL_echoOf.2.1 7 = .ok (.astore_n 3, 1) := by decide +kernel
theorem dL_echoOf_8 : decode mL_echoOf.2.1 8 = .ok (.bipush (-11), 2) := by decide +kernel
theorem dL_echoOf_10 : decode mL_echoOf.2.1 10 = .ok (.ireturn, 1) := by decide +kernel
theorem dL_echoOf_11 : decode mL_echoOf.2.1 11 = .ok (.astore_n 3, 1) := by decide +kernel
theorem dL_echoOf_12 : decode mL_echoOf.2.1 12 = .ok (.bipush (-13), 2) := by decide +kernel
theorem dL_echoOf_14 : decode mL_echoOf.2.1 14 = .ok (.ireturn, 1) := by decide +kernel
theorem dL_ageOf_0 : decode mL_ageOf.2.1 0 = .ok (.aload_n 0, 1) := by decide +kernel
theorem dL_ageOf_1 : decode mL_ageOf.2.1 1 = .ok (.iload_n 1, 1) := by decide +kernel
theorem dL_ageOf_2 : decode mL_ageOf.2.1 2 = .ok (.iload_n 2, 1) := by decide +kernel
theorem dL_ageOf_3 : decode mL_ageOf.2.1 3 = .ok (.invokevirtual 73, 3) := by decide +kernel
theorem dL_ageOf_6 : decode mL_ageOf.2.1 6 = .ok (.ireturn, 1) := by decide +kernel
theorem dL_ageOf_7 : decode mL_ageOf.2.1 7 = .ok (.astore_n 3, 1) := by decide +kernel
theorem dL_ageOf_8 : decode mL_ageOf.2.1 8 = .ok (.bipush (-11), 2) := by decide +kernel
theorem dL_ageOf_10 : decode mL_ageOf.2.1 10 = .ok (.ireturn, 1) := by decide +kernel
theorem dL_ageOf_11 : decode mL_ageOf.2.1 11 = .ok (.astore_n 3, 1) := by decide +kernel
theorem dL_ageOf_12 : decode mL_ageOf.2.1 12 = .ok (.bipush (-13), 2) := by decide +kernel
theorem dL_ageOf_14 : decode mL_ageOf.2.1 14 = .ok (.ireturn, 1) := by decide +kernel
theorem dL_hitsOf_0 : decode mL_hitsOf.2.1 0 = .ok (.aload_n 0, 1) := by decide +kernel
theorem dL_hitsOf_1 : decode mL_hitsOf.2.1 1 = .ok (.iload_n 1, 1) := by decide +kernel
theorem dL_hitsOf_2 : decode mL_hitsOf.2.1 2 = .ok (.iload_n 2, 1) := by decide +kernel
theorem dL_hitsOf_3 : decode mL_hitsOf.2.1 3 = .ok (.invokevirtual 76, 3) := by decide +kernel
theorem dL_hitsOf_6 : decode mL_hitsOf.2.1 6 = .ok (.ireturn, 1) := by decide +kernel
theorem dL_hitsOf_7 : decode mL_hitsOf.2.1 7 = .ok (.astore_n 3, 1) := by decide +kernel
theorem dL_hitsOf_8 : decode mL_hitsOf.2.1 8 = .ok (.bipush (-11), 2) := by decide +kernel
theorem dL_hitsOf_10 : decode mL_hitsOf.2.1 10 = .ok (.ireturn, 1) := by decide +kernel
theorem dL_hitsOf_11 : decode mL_hitsOf.2.1 11 = .ok (.astore_n 3, 1) := by decide +kernel
theorem dL_hitsOf_12 : decode mL_hitsOf.2.1 12 = .ok (.bipush (-13), 2) := by decide +kernel
theorem dL_hitsOf_14 : decode mL_hitsOf.2.1 14 = .ok (.ireturn, 1) := by decide +kernel
theorem dL_isExpired_0 : decode mL_isExpired.2.1 0 = .ok (.aload_n 0, 1) := by decide +kernel
theorem dL_isExpired_1 : decode mL_isExpired.2.1 1 = .ok (.iload_n 1, 1) := by decide +kernel
theorem dL_isExpired_2 : decode mL_isExpired.2.1 2 = .ok (.iload_n 2, 1) := by decide +kernel
theorem dL_isExpired_3 : decode mL_isExpired.2.1 3 = .ok (.invokevirtual 79, 3) := by decide +kernel
theorem dL_isExpired_6 : decode mL_isExpired.2.1 6 = .ok (.ifCond .eq 7, 3) := by decide +kernel
theorem dL_isExpired_9 : decode mL_isExpired.2.1 9 = .ok (.iconst 1, 1) := by decide +kernel
theorem dL_isExpired_10 : decode mL_isExpired.2.1 10 = .ok (.goto 4, 3) := by decide +kernel
theorem dL_isExpired_13 : decode mL_isExpired.2.1 13 = .ok (.iconst 0, 1) := by decide +kernel
theorem dL_isExpired_14 : decode mL_isExpired.2.1 14 = .ok (.ireturn, 1) := by decide +kernel
theorem dL_isExpired_15 : decode mL_isExpired.2.1 15 = .ok (.astore_n 3, 1) := by decide +kernel
theorem dL_isExpired_16 : decode mL_isExpired.2.1 16 = .ok (.bipush (-11), 2) := by decide +kernel
theorem dL_isExpired_18 : decode mL_isExpired.2.1 18 = .ok (.ireturn, 1) := by decide +kernel
theorem dL_isExpired_19 : decode mL_isExpired.2.1 19 = .ok (.astore_n 3, 1) := by decide +kernel
theorem dL_isExpired_20 : decode mL_isExpired.2.1 20 = .ok (.bipush (-13), 2) := by decide +kernel
theorem dL_isExpired_22 : decode mL_isExpired.2.1 22 = .ok (.ireturn, 1) := by decide +kernel
theorem dL_isOpen_0 : decode mL_isOpen.2.1 0 = .ok (.aload_n 0, 1) := by decide +kernel
theorem dL_isOpen_1 : decode mL_isOpen.2.1 1 = .ok (.iload_n 1, 1) := by decide +kernel
theorem dL_isOpen_2 : decode mL_isOpen.2.1 2 = .ok (.iload_n 2, 1) := by decide +kernel
theorem dL_isOpen_3 : decode mL_isOpen.2.1 3 = .ok (.invokevirtual 82, 3) := by decide +kernel
theorem dL_isOpen_6 : decode mL_isOpen.2.1 6 = .ok (.ifCond .eq 7, 3) := by decide +kernel
theorem dL_isOpen_9 : decode mL_isOpen.2.1 9 = .ok (.iconst 1, 1) := by decide +kernel
theorem dL_isOpen_10 : decode mL_isOpen.2.1 10 = .ok (.goto 4, 3) := by decide +kernel
theorem dL_isOpen_13 : decode mL_isOpen.2.1 13 = .ok (.iconst 0, 1) := by decide +kernel
theorem dL_isOpen_14 : decode mL_isOpen.2.1 14 = .ok (.ireturn, 1) := by decide +kernel
theorem dL_isOpen_15 : decode mL_isOpen.2.1 15 = .ok (.astore_n 3, 1) := by decide +kernel
theorem dL_isOpen_16 : decode mL_isOpen.2.1 16 = .ok (.bipush (-11), 2) := by decide +kernel
theorem dL_isOpen_18 : decode mL_isOpen.2.1 18 = .ok (.ireturn, 1) := by decide +kernel
theorem dL_isOpen_19 : decode mL_isOpen.2.1 19 = .ok (.astore_n 3, 1) := by decide +kernel
theorem dL_isOpen_20 : decode mL_isOpen.2.1 20 = .ok (.bipush (-13), 2) := by decide +kernel
theorem dL_isOpen_22 : decode mL_isOpen.2.1 22 = .ok (.ireturn, 1) := by decide +kernel
theorem dL_isTrue_0 : decode mL_isTrue.2.1 0 = .ok (.aload_n 0, 1) := by decide +kernel
theorem dL_isTrue_1 : decode mL_isTrue.2.1 1 = .ok (.iload_n 1, 1) := by decide +kernel
theorem dL_isTrue_2 : decode mL_isTrue.2.1 2 = .ok (.iload_n 2, 1) := by decide +kernel
theorem dL_isTrue_3 : decode mL_isTrue.2.1 3 = .ok (.invokevirtual 85, 3) := by decide +kernel
theorem dL_isTrue_6 : decode mL_isTrue.2.1 6 = .ok (.ifCond .eq 7, 3) := by decide +kernel
theorem dL_isTrue_9 : decode mL_isTrue.2.1 9 = .ok (.iconst 1, 1) := by decide +kernel
theorem dL_isTrue_10 : decode mL_isTrue.2.1 10 = .ok (.goto 4, 3) := by decide +kernel
theorem dL_isTrue_13 : decode mL_isTrue.2.1 13 = .ok (.iconst 0, 1) := by decide +kernel
theorem dL_isTrue_14 : decode mL_isTrue.2.1 14 = .ok (.ireturn, 1) := by decide +kernel
theorem dL_isTrue_15 : decode mL_isTrue.2.1 15 = .ok (.astore_n 3, 1) := by decide +kernel
theorem dL_isTrue_16 : decode mL_isTrue.2.1 16 = .ok (.bipush (-11), 2) := by decide +kernel
theorem dL_isTrue_18 : decode mL_isTrue.2.1 18 = .ok (.ireturn, 1) := by decide +kernel
theorem dL_isTrue_19 : decode mL_isTrue.2.1 19 = .ok (.astore_n 3, 1) := by decide +kernel
theorem dL_isTrue_20 : decode mL_isTrue.2.1 20 = .ok (.bipush (-13), 2) := by decide +kernel
theorem dL_isTrue_22 : decode mL_isTrue.2.1 22 = .ok (.ireturn, 1) := by decide +kernel
theorem dL_bySteps_0 : decode mL_bySteps.2.1 0 = .ok (.aload_n 0, 1) := by decide +kernel
theorem dL_bySteps_1 : decode mL_bySteps.2.1 1 = .ok (.iload_n 1, 1) := by decide +kernel
theorem dL_bySteps_2 : decode mL_bySteps.2.1 2 = .ok (.iload_n 2, 1) := by decide +kernel
theorem dL_bySteps_3 : decode mL_bySteps.2.1 3 = .ok (.invokevirtual 88, 3) := by decide +kernel
theorem dL_bySteps_6 : decode mL_bySteps.2.1 6 = .ok (.ifCond .eq 7, 3) := by decide +kernel
theorem dL_bySteps_9 : decode mL_bySteps.2.1 9 = .ok (.iconst 1, 1) := by decide +kernel
theorem dL_bySteps_10 : decode mL_bySteps.2.1 10 = .ok (.goto 4, 3) := by decide +kernel
theorem dL_bySteps_13 : decode mL_bySteps.2.1 13 = .ok (.iconst 0, 1) := by decide +kernel
theorem dL_bySteps_14 : decode mL_bySteps.2.1 14 = .ok (.ireturn, 1) := by decide +kernel
theorem dL_bySteps_15 : decode mL_bySteps.2.1 15 = .ok (.astore_n 3, 1) := by decide +kernel
theorem dL_bySteps_16 : decode mL_bySteps.2.1 16 = .ok (.bipush (-11), 2) := by decide +kernel
theorem dL_bySteps_18 : decode mL_bySteps.2.1 18 = .ok (.ireturn, 1) := by decide +kernel
theorem dL_bySteps_19 : decode mL_bySteps.2.1 19 = .ok (.astore_n 3, 1) := by decide +kernel
theorem dL_bySteps_20 : decode mL_bySteps.2.1 20 = .ok (.bipush (-13), 2) := by decide +kernel
theorem dL_bySteps_22 : decode mL_bySteps.2.1 22 = .ok (.ireturn, 1) := by decide +kernel
theorem dL_victimOf_0 : decode mL_victimOf.2.1 0 = .ok (.aload_n 0, 1) := by decide +kernel
theorem dL_victimOf_1 : decode mL_victimOf.2.1 1 = .ok (.iload_n 1, 1) := by decide +kernel
theorem dL_victimOf_2 : decode mL_victimOf.2.1 2 = .ok (.invokevirtual 91, 3) := by decide +kernel
theorem dL_victimOf_5 : decode mL_victimOf.2.1 5 = .ok (.ireturn, 1) := by decide +kernel
theorem dL_victimOf_6 : decode mL_victimOf.2.1 6 = .ok (.astore_n 2, 1) := by decide +kernel
theorem dL_victimOf_7 : decode mL_victimOf.2.1 7 = .ok (.bipush (-11), 2) := by decide +kernel
theorem dL_victimOf_9 : decode mL_victimOf.2.1 9 = .ok (.ireturn, 1) := by decide +kernel
theorem dL_victimOf_10 : decode mL_victimOf.2.1 10 = .ok (.astore_n 2, 1) := by decide +kernel
theorem dL_victimOf_11 : decode mL_victimOf.2.1 11 = .ok (.bipush (-13), 2) := by decide +kernel
theorem dL_victimOf_13 : decode mL_victimOf.2.1 13 = .ok (.ireturn, 1) := by decide +kernel
theorem dL_byScan_0 : decode mL_byScan.2.1 0 = .ok (.aload_n 0, 1) := by decide +kernel
theorem dL_byScan_1 : decode mL_byScan.2.1 1 = .ok (.iload_n 1, 1) := by decide +kernel
theorem dL_byScan_2 : decode mL_byScan.2.1 2 = .ok (.invokevirtual 94, 3) := by decide +kernel
theorem dL_byScan_5 : decode mL_byScan.2.1 5 = .ok (.ireturn, 1) := by decide +kernel
theorem dL_byScan_6 : decode mL_byScan.2.1 6 = .ok (.astore_n 2, 1) := by decide +kernel
theorem dL_byScan_7 : decode mL_byScan.2.1 7 = .ok (.bipush (-11), 2) := by decide +kernel
theorem dL_byScan_9 : decode mL_byScan.2.1 9 = .ok (.ireturn, 1) := by decide +kernel
theorem dL_byScan_10 : decode mL_byScan.2.1 10 = .ok (.astore_n 2, 1) := by decide +kernel
theorem dL_byScan_11 : decode mL_byScan.2.1 11 = .ok (.bipush (-13), 2) := by decide +kernel
theorem dL_byScan_13 : decode mL_byScan.2.1 13 = .ok (.ireturn, 1) := by decide +kernel
theorem dL_hear_0 : decode mL_hear.2.1 0 = .ok (.aload_n 0, 1) := by decide +kernel
theorem dL_hear_1 : decode mL_hear.2.1 1 = .ok (.iload_n 1, 1) := by decide +kernel
theorem dL_hear_2 : decode mL_hear.2.1 2 = .ok (.iload_n 2, 1) := by decide +kernel
theorem dL_hear_3 : decode mL_hear.2.1 3 = .ok (.invokevirtual 97, 3) := by decide +kernel
theorem dL_hear_6 : decode mL_hear.2.1 6 = .ok (.ireturn, 1) := by decide +kernel
theorem dL_hear_7 : decode mL_hear.2.1 7 = .ok (.astore_n 3, 1) := by decide +kernel
theorem dL_hear_8 : decode mL_hear.2.1 8 = .ok (.iconst (-1), 1) := by decide +kernel
theorem dL_hear_9 : decode mL_hear.2.1 9 = .ok (.ireturn, 1) := by decide +kernel
theorem dL_hear_10 : decode mL_hear.2.1 10 = .ok (.astore_n 3, 1) := by decide +kernel
theorem dL_hear_11 : decode mL_hear.2.1 11 = .ok (.bipush (-2), 2) := by decide +kernel
theorem dL_hear_13 : decode mL_hear.2.1 13 = .ok (.ireturn, 1) := by decide +kernel
theorem dL_outcome_0 : decode mL_outcome.2.1 0 = .ok (.aload_n 0, 1) := by decide +kernel
theorem dL_outcome_1 : decode mL_outcome.2.1 1 = .ok (.iload_n 1, 1) := by decide +kernel
theorem dL_outcome_2 : decode mL_outcome.2.1 2 = .ok (.iload_n 2, 1) := by decide +kernel
theorem dL_outcome_3 : decode mL_outcome.2.1 3 = .ok (.invokevirtual 100, 3) := by decide +kernel
theorem dL_outcome_6 : decode mL_outcome.2.1 6 = .ok (.ireturn, 1) := by decide +kernel
theorem dL_outcome_7 : decode mL_outcome.2.1 7 = .ok (.astore_n 3, 1) := by decide +kernel
theorem dL_outcome_8 : decode mL_outcome.2.1 8 = .ok (.bipush (-11), 2) := by decide +kernel
theorem dL_outcome_10 : decode mL_outcome.2.1 10 = .ok (.ireturn, 1) := by decide +kernel
theorem dL_outcome_11 : decode mL_outcome.2.1 11 = .ok (.astore_n 3, 1) := by decide +kernel
theorem dL_outcome_12 : decode mL_outcome.2.1 12 = .ok (.bipush (-13), 2) := by decide +kernel
theorem dL_outcome_14 : decode mL_outcome.2.1 14 = .ok (.ireturn, 1) := by decide +kernel
theorem dL_warm_0 : decode mL_warm.2.1 0 = .ok (.aload_n 0, 1) := by decide +kernel
theorem dL_warm_1 : decode mL_warm.2.1 1 = .ok (.iload_n 1, 1) := by decide +kernel
theorem dL_warm_2 : decode mL_warm.2.1 2 = .ok (.iload_n 2, 1) := by decide +kernel
theorem dL_warm_3 : decode mL_warm.2.1 3 = .ok (.iload_n 3, 1) := by decide +kernel
theorem dL_warm_4 : decode mL_warm.2.1 4 = .ok (.invokevirtual 104, 3) := by decide +kernel
theorem dL_warm_7 : decode mL_warm.2.1 7 = .ok (.ireturn, 1) := by decide +kernel
theorem dL_warm_8 : decode mL_warm.2.1 8 = .ok (.astore 4, 2) := by decide +kernel
theorem dL_warm_10 : decode mL_warm.2.1 10 = .ok (.iconst (-1), 1) := by decide +kernel
theorem dL_warm_11 : decode mL_warm.2.1 11 = .ok (.ireturn, 1) := by decide +kernel
theorem dL_warm_12 : decode mL_warm.2.1 12 = .ok (.astore 4, 2) := by decide +kernel
theorem dL_warm_14 : decode mL_warm.2.1 14 = .ok (.bipush (-2), 2) := by decide +kernel
theorem dL_warm_16 : decode mL_warm.2.1 16 = .ok (.ireturn, 1) := by decide +kernel
theorem dL_warm_17 : decode mL_warm.2.1 17 = .ok (.astore 4, 2) := by decide +kernel
theorem dL_warm_19 : decode mL_warm.2.1 19 = .ok (.bipush (-3), 2) := by decide +kernel
theorem dL_warm_21 : decode mL_warm.2.1 21 = .ok (.ireturn, 1) := by decide +kernel
theorem dL_warm_22 : decode mL_warm.2.1 22 = .ok (.astore 4, 2) := by decide +kernel
theorem dL_warm_24 : decode mL_warm.2.1 24 = .ok (.bipush (-4), 2) := by decide +kernel
theorem dL_warm_26 : decode mL_warm.2.1 26 = .ok (.ireturn, 1) := by decide +kernel
theorem dL_cancel_0 : decode mL_cancel.2.1 0 = .ok (.aload_n 0, 1) := by decide +kernel
theorem dL_cancel_1 : decode mL_cancel.2.1 1 = .ok (.iload_n 1, 1) := by decide +kernel
theorem dL_cancel_2 : decode mL_cancel.2.1 2 = .ok (.invokevirtual 108, 3) := by decide +kernel
theorem dL_cancel_5 : decode mL_cancel.2.1 5 = .ok (.ireturn, 1) := by decide +kernel
theorem dL_cancel_6 : decode mL_cancel.2.1 6 = .ok (.astore_n 2, 1) := by decide +kernel
theorem dL_cancel_7 : decode mL_cancel.2.1 7 = .ok (.iconst (-1), 1) := by decide +kernel
theorem dL_cancel_8 : decode mL_cancel.2.1 8 = .ok (.ireturn, 1) := by decide +kernel
theorem dL_pass_0 : decode mL_pass.2.1 0 = .ok (.aload_n 0, 1) := by decide +kernel
theorem dL_pass_1 : decode mL_pass.2.1 1 = .ok (.iload_n 1, 1) := by decide +kernel
theorem dL_pass_2 : decode mL_pass.2.1 2 = .ok (.invokevirtual 111, 3) := by decide +kernel
theorem dL_pass_5 : decode mL_pass.2.1 5 = .ok (.ireturn, 1) := by decide +kernel
theorem dL_pass_6 : decode mL_pass.2.1 6 = .ok (.astore_n 2, 1) := by decide +kernel
theorem dL_pass_7 : decode mL_pass.2.1 7 = .ok (.iconst (-1), 1) := by decide +kernel
theorem dL_pass_8 : decode mL_pass.2.1 8 = .ok (.ireturn, 1) := by decide +kernel
theorem dL_minuteAt_0 : decode mL_minuteAt.2.1 0 = .ok (.aload_n 0, 1) := by decide +kernel
theorem dL_minuteAt_1 : decode mL_minuteAt.2.1 1 = .ok (.iload_n 1, 1) := by decide +kernel
theorem dL_minuteAt_2 : decode mL_minuteAt.2.1 2 = .ok (.invokevirtual 114, 3) := by decide +kernel
theorem dL_minuteAt_5 : decode mL_minuteAt.2.1 5 = .ok (.ireturn, 1) := by decide +kernel
theorem dL_minuteAt_6 : decode mL_minuteAt.2.1 6 = .ok (.astore_n 2, 1) := by decide +kernel
theorem dL_minuteAt_7 : decode mL_minuteAt.2.1 7 = .ok (.bipush (-11), 2) := by decide +kernel
theorem dL_minuteAt_9 : decode mL_minuteAt.2.1 9 = .ok (.ireturn, 1) := by decide +kernel
theorem dL_warmedAt_0 : decode mL_warmedAt.2.1 0 = .ok (.aload_n 0, 1) := by decide +kernel
theorem dL_warmedAt_1 : decode mL_warmedAt.2.1 1 = .ok (.iload_n 1, 1) := by decide +kernel
theorem dL_warmedAt_2 : decode mL_warmedAt.2.1 2 = .ok (.invokevirtual 117, 3) := by decide +kernel
theorem dL_warmedAt_5 : decode mL_warmedAt.2.1 5 = .ok (.ireturn, 1) := by decide +kernel
theorem dL_warmedAt_6 : decode mL_warmedAt.2.1 6 = .ok (.astore_n 2, 1) := by decide +kernel
theorem dL_warmedAt_7 : decode mL_warmedAt.2.1 7 = .ok (.bipush (-11), 2) := by decide +kernel
theorem dL_warmedAt_9 : decode mL_warmedAt.2.1 9 = .ok (.ireturn, 1) := by decide +kernel
theorem dL_misses_0 : decode mL_misses.2.1 0 = .ok (.aload_n 0, 1) := by decide +kernel
theorem dL_misses_1 : decode mL_misses.2.1 1 = .ok (.iload_n 1, 1) := by decide +kernel
theorem dL_misses_2 : decode mL_misses.2.1 2 = .ok (.invokevirtual 120, 3) := by decide +kernel
theorem dL_misses_5 : decode mL_misses.2.1 5 = .ok (.ireturn, 1) := by decide +kernel
theorem dL_misses_6 : decode mL_misses.2.1 6 = .ok (.astore_n 2, 1) := by decide +kernel
theorem dL_misses_7 : decode mL_misses.2.1 7 = .ok (.bipush (-12), 2) := by decide +kernel
theorem dL_misses_9 : decode mL_misses.2.1 9 = .ok (.ireturn, 1) := by decide +kernel
theorem dL_byHits_0 : decode mL_byHits.2.1 0 = .ok (.aload_n 0, 1) := by decide +kernel
theorem dL_byHits_1 : decode mL_byHits.2.1 1 = .ok (.iload_n 1, 1) := by decide +kernel
theorem dL_byHits_2 : decode mL_byHits.2.1 2 = .ok (.invokevirtual 123, 3) := by decide +kernel
theorem dL_byHits_5 : decode mL_byHits.2.1 5 = .ok (.ireturn, 1) := by decide +kernel
theorem dL_byHits_6 : decode mL_byHits.2.1 6 = .ok (.astore_n 2, 1) := by decide +kernel
theorem dL_byHits_7 : decode mL_byHits.2.1 7 = .ok (.bipush (-13), 2) := by decide +kernel
theorem dL_byHits_9 : decode mL_byHits.2.1 9 = .ok (.ireturn, 1) := by decide +kernel
theorem dL_writeShelf_0 : decode mL_writeShelf.2.1 0 = .ok (.aload_n 0, 1) := by decide +kernel
theorem dL_writeShelf_1 : decode mL_writeShelf.2.1 1 = .ok (.iload_n 1, 1) := by decide +kernel
theorem dL_writeShelf_2 : decode mL_writeShelf.2.1 2 = .ok (.invokevirtual 126, 3) := by decide +kernel
theorem dL_writeShelf_5 : decode mL_writeShelf.2.1 5 = .ok (.ireturn, 1) := by decide +kernel
theorem dL_writeShelf_6 : decode mL_writeShelf.2.1 6 = .ok (.astore_n 2, 1) := by decide +kernel
theorem dL_writeShelf_7 : decode mL_writeShelf.2.1 7 = .ok (.bipush (-11), 2) := by decide +kernel
theorem dL_writeShelf_9 : decode mL_writeShelf.2.1 9 = .ok (.ireturn, 1) := by decide +kernel
theorem dL_lineAt_0 : decode mL_lineAt.2.1 0 = .ok (.aload_n 0, 1) := by decide +kernel
theorem dL_lineAt_1 : decode mL_lineAt.2.1 1 = .ok (.iload_n 1, 1) := by decide +kernel
theorem dL_lineAt_2 : decode mL_lineAt.2.1 2 = .ok (.invokevirtual 129, 3) := by decide +kernel
theorem dL_lineAt_5 : decode mL_lineAt.2.1 5 = .ok (.ireturn, 1) := by decide +kernel
theorem dL_lineAt_6 : decode mL_lineAt.2.1 6 = .ok (.astore_n 2, 1) := by decide +kernel
theorem dL_lineAt_7 : decode mL_lineAt.2.1 7 = .ok (.bipush (-11), 2) := by decide +kernel
theorem dL_lineAt_9 : decode mL_lineAt.2.1 9 = .ok (.ireturn, 1) := by decide +kernel
theorem dL_type_0 : decode mL_type.2.1 0 = .ok (.aload_n 0, 1) := by decide +kernel
theorem dL_type_1 : decode mL_type.2.1 1 = .ok (.iload_n 1, 1) := by decide +kernel
theorem dL_type_2 : decode mL_type.2.1 2 = .ok (.invokevirtual 132, 3) := by decide +kernel
theorem dL_type_5 : decode mL_type.2.1 5 = .ok (.ireturn, 1) := by decide +kernel
theorem dL_type_6 : decode mL_type.2.1 6 = .ok (.astore_n 2, 1) := by decide +kernel
theorem dL_type_7 : decode mL_type.2.1 7 = .ok (.bipush (-12), 2) := by decide +kernel
theorem dL_type_9 : decode mL_type.2.1 9 = .ok (.ireturn, 1) := by decide +kernel
theorem dL_type_10 : decode mL_type.2.1 10 = .ok (.astore_n 2, 1) := by decide +kernel
theorem dL_type_11 : decode mL_type.2.1 11 = .ok (.bipush (-14), 2) := by decide +kernel
theorem dL_type_13 : decode mL_type.2.1 13 = .ok (.ireturn, 1) := by decide +kernel
theorem dL_executes_0 : decode mL_executes.2.1 0 = .ok (.aload_n 0, 1) := by decide +kernel
theorem dL_executes_1 : decode mL_executes.2.1 1 = .ok (.invokevirtual 135, 3) := by decide +kernel
theorem dL_executes_4 : decode mL_executes.2.1 4 = .ok (.ireturn, 1) := by decide +kernel
theorem dL_executes_5 : decode mL_executes.2.1 5 = .ok (.astore_n 1, 1) := by decide +kernel
theorem dL_executes_6 : decode mL_executes.2.1 6 = .ok (.iconst (-1), 1) := by decide +kernel
theorem dL_executes_7 : decode mL_executes.2.1 7 = .ok (.ireturn, 1) := by decide +kernel
theorem dL_executes_8 : decode mL_executes.2.1 8 = .ok (.astore_n 1, 1) := by decide +kernel
theorem dL_executes_9 : decode mL_executes.2.1 9 = .ok (.bipush (-2), 2) := by decide +kernel
theorem dL_executes_11 : decode mL_executes.2.1 11 = .ok (.ireturn, 1) := by decide +kernel
theorem dL_undo_0 : decode mL_undo.2.1 0 = .ok (.aload_n 0, 1) := by decide +kernel
theorem dL_undo_1 : decode mL_undo.2.1 1 = .ok (.invokevirtual 145, 3) := by decide +kernel
theorem dL_undo_4 : decode mL_undo.2.1 4 = .ok (.ireturn, 1) := by decide +kernel
theorem dL_undo_5 : decode mL_undo.2.1 5 = .ok (.astore_n 1, 1) := by decide +kernel
theorem dL_undo_6 : decode mL_undo.2.1 6 = .ok (.iconst (-1), 1) := by decide +kernel
theorem dL_undo_7 : decode mL_undo.2.1 7 = .ok (.ireturn, 1) := by decide +kernel
