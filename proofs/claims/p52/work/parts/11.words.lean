/-! ===== the words in use ===== -/
theorem tk_1 {w : Cond} (h : w ∈ tables_1_1) (g : goodWord w = true) : w ∈ TBL := List.mem_filter.mpr ⟨List.mem_append_right _ (show w ∈ tables_1 from (List.mem_append_left _ h)), g⟩
theorem tk_2 {w : Cond} (h : w ∈ tables_1_2) (g : goodWord w = true) : w ∈ TBL := List.mem_filter.mpr ⟨List.mem_append_right _ (show w ∈ tables_1 from (List.mem_append_right _ (List.mem_append_left _ h))), g⟩
theorem tk_3 {w : Cond} (h : w ∈ tables_1_3) (g : goodWord w = true) : w ∈ TBL := List.mem_filter.mpr ⟨List.mem_append_right _ (show w ∈ tables_1 from (List.mem_append_right _ (List.mem_append_right _ (List.mem_append_left _ h)))), g⟩
theorem tk_4 {w : Cond} (h : w ∈ tables_1_4) (g : goodWord w = true) : w ∈ TBL := List.mem_filter.mpr ⟨List.mem_append_right _ (show w ∈ tables_1 from (List.mem_append_right _ (List.mem_append_right _ (List.mem_append_right _ (List.mem_append_left _ h))))), g⟩
theorem tk_5 {w : Cond} (h : w ∈ tables_1_5) (g : goodWord w = true) : w ∈ TBL := List.mem_filter.mpr ⟨List.mem_append_right _ (show w ∈ tables_1 from (List.mem_append_right _ (List.mem_append_right _ (List.mem_append_right _ (List.mem_append_right _ (List.mem_append_left _ h)))))), g⟩
theorem tk_6 {w : Cond} (h : w ∈ tables_1_6) (g : goodWord w = true) : w ∈ TBL := List.mem_filter.mpr ⟨List.mem_append_right _ (show w ∈ tables_1 from (List.mem_append_right _ (List.mem_append_right _ (List.mem_append_right _ (List.mem_append_right _ (List.mem_append_right _ (List.mem_append_left _ h))))))), g⟩
theorem tk_7 {w : Cond} (h : w ∈ tables_1_7) (g : goodWord w = true) : w ∈ TBL := List.mem_filter.mpr ⟨List.mem_append_right _ (show w ∈ tables_1 from (List.mem_append_right _ (List.mem_append_right _ (List.mem_append_right _ (List.mem_append_right _ (List.mem_append_right _ (List.mem_append_right _ (h)))))))), g⟩
theorem w_1 : (Jvm.Cond.initialized "EchoPantry") ∈ TBL := tk_1 (List.mem_of_getElem? (i := 1) rfl) rfl
theorem w_2 : (Jvm.Cond.initialized "EchoPantry$State") ∈ TBL := tk_1 (List.mem_of_getElem? (i := 2) rfl) rfl
theorem w_3 : (Jvm.Cond.initialized "EchoPantry$Jar") ∈ TBL := tk_1 (List.mem_of_getElem? (i := 3) rfl) rfl
theorem w_4 : (Jvm.Cond.initialized "EchoPantry$Shelf") ∈ TBL := tk_1 (List.mem_of_getElem? (i := 4) rfl) rfl
theorem w_5 : (Jvm.Cond.initialized "EchoPantry$Echo") ∈ TBL := tk_1 (List.mem_of_getElem? (i := 5) rfl) rfl
theorem w_6 : (Jvm.Cond.initialized "EchoPantry$Warming") ∈ TBL := tk_1 (List.mem_of_getElem? (i := 6) rfl) rfl
theorem w_7 : (Jvm.Cond.initialized "EchoPantry$History") ∈ TBL := tk_1 (List.mem_of_getElem? (i := 7) rfl) rfl
theorem w_8 : (Jvm.Cond.initialized "EchoPantry$CommandText") ∈ TBL := tk_1 (List.mem_of_getElem? (i := 8) rfl) rfl
theorem w_9 : (Jvm.Cond.initialized "EchoPantry$Command") ∈ TBL := tk_1 (List.mem_of_getElem? (i := 9) rfl) rfl
theorem w_11 : (Jvm.Cond.initialized "java/lang/StringBuilder") ∈ TBL := tk_1 (List.mem_of_getElem? (i := 11) rfl) rfl
theorem w_12 : (Jvm.Cond.initialized "java/lang/String") ∈ TBL := tk_1 (List.mem_of_getElem? (i := 12) rfl) rfl
theorem w_17 : (Jvm.Cond.initialized "java/lang/IndexOutOfBoundsException") ∈ TBL := tk_1 (List.mem_of_getElem? (i := 17) rfl) rfl
theorem w_18 : (Jvm.Cond.initialized "java/util/NoSuchElementException") ∈ TBL := tk_1 (List.mem_of_getElem? (i := 18) rfl) rfl
theorem w_19 : (Jvm.Cond.initialized "java/lang/IllegalArgumentException") ∈ TBL := tk_1 (List.mem_of_getElem? (i := 19) rfl) rfl
theorem w_20 : (Jvm.Cond.initialized "java/lang/IllegalStateException") ∈ TBL := tk_1 (List.mem_of_getElem? (i := 20) rfl) rfl
theorem w_21 : (Jvm.Cond.initialized "java/lang/Math") ∈ TBL := tk_1 (List.mem_of_getElem? (i := 21) rfl) rfl
theorem w_25 : (Jvm.Cond.initialized "java/lang/ArithmeticException") ∈ TBL := tk_1 (List.mem_of_getElem? (i := 25) rfl) rfl
theorem w_39 : (Jvm.Cond.code ({ cls := "EchoPantry", name := "<init>", desc := "()V" } : Jvm.MethodName) prog_1_method_1_code (1 : Nat) (Option.none : Option Jvm.ClassFile.FieldType)) ∈ TBL := tk_1 (List.mem_of_getElem? (i := 39) rfl) rfl
theorem w_40 : (Jvm.Cond.methodLink "EchoPantry" (1 : Nat) ({ cls := "java/lang/Object", name := "<init>", desc := "()V" } : Jvm.MethodName)) ∈ TBL := tk_1 (List.mem_of_getElem? (i := 40) rfl) rfl
theorem w_43 : (Jvm.Cond.classLink "EchoPantry" (7 : Nat) "EchoPantry$State") ∈ TBL := tk_1 (List.mem_of_getElem? (i := 43) rfl) rfl
theorem w_44 : (Jvm.Cond.instantiable "EchoPantry$State" (9 : Nat)) ∈ TBL := tk_1 (List.mem_of_getElem? (i := 44) rfl) rfl
theorem w_45 : (Jvm.Cond.methodLink "EchoPantry" (9 : Nat) ({ cls := "EchoPantry$State", name := "<init>", desc := "()V" } : Jvm.MethodName)) ∈ TBL := tk_1 (List.mem_of_getElem? (i := 45) rfl) rfl
theorem w_46 : (Jvm.Cond.instanceMethod ({ cls := "EchoPantry$State", name := "<init>", desc := "()V" } : Jvm.MethodName)) ∈ TBL := tk_1 (List.mem_of_getElem? (i := 46) rfl) rfl
theorem w_47 : (Jvm.Cond.code ({ cls := "EchoPantry$State", name := "<init>", desc := "()V" } : Jvm.MethodName) prog_8_method_1_code (2 : Nat) (Option.none : Option Jvm.ClassFile.FieldType)) ∈ TBL := tk_1 (List.mem_of_getElem? (i := 47) rfl) rfl
theorem w_48 : (Jvm.Cond.methodLink "EchoPantry$State" (3 : Nat) ({ cls := "java/lang/Object", name := "<init>", desc := "()V" } : Jvm.MethodName)) ∈ TBL := tk_1 (List.mem_of_getElem? (i := 48) rfl) rfl
theorem w_49 : (Jvm.Cond.classLink "EchoPantry$State" (9 : Nat) "EchoPantry$Jar") ∈ TBL := tk_1 (List.mem_of_getElem? (i := 49) rfl) rfl
theorem w_51 : (Jvm.Cond.classLink "EchoPantry$State" (17 : Nat) "EchoPantry$Shelf") ∈ TBL := tk_1 (List.mem_of_getElem? (i := 51) rfl) rfl
theorem w_53 : (Jvm.Cond.classLink "EchoPantry$State" (23 : Nat) "EchoPantry$Warming") ∈ TBL := tk_1 (List.mem_of_getElem? (i := 53) rfl) rfl
theorem w_55 : (Jvm.Cond.instantiable "EchoPantry$Jar" (4 : Nat)) ∈ TBL := tk_1 (List.mem_of_getElem? (i := 55) rfl) rfl
theorem w_57 : (Jvm.Cond.instanceMethod ({ cls := "EchoPantry$Jar", name := "<init>", desc := "()V" } : Jvm.MethodName)) ∈ TBL := tk_1 (List.mem_of_getElem? (i := 57) rfl) rfl
theorem w_58 : (Jvm.Cond.code ({ cls := "EchoPantry$Jar", name := "<init>", desc := "()V" } : Jvm.MethodName) prog_6_method_1_code (1 : Nat) (Option.none : Option Jvm.ClassFile.FieldType)) ∈ TBL := tk_1 (List.mem_of_getElem? (i := 58) rfl) rfl
theorem w_59 : (Jvm.Cond.methodLink "EchoPantry$Jar" (1 : Nat) ({ cls := "java/lang/Object", name := "<init>", desc := "()V" } : Jvm.MethodName)) ∈ TBL := tk_1 (List.mem_of_getElem? (i := 59) rfl) rfl
theorem w_60 : (Jvm.Cond.fieldLink "EchoPantry$Jar" (7 : Nat) "EchoPantry$Jar" "isThere" "Z") ∈ TBL := tk_1 (List.mem_of_getElem? (i := 60) rfl) rfl
theorem w_61 : (Jvm.Cond.fieldLink "EchoPantry$State" (65 : Nat) "EchoPantry$Jar" "isThere" "Z") ∈ TBL := tk_1 (List.mem_of_getElem? (i := 61) rfl) rfl
theorem w_62 : (Jvm.Cond.fieldLink "EchoPantry$Jar" (13 : Nat) "EchoPantry$Jar" "word" "I") ∈ TBL := tk_1 (List.mem_of_getElem? (i := 62) rfl) rfl
theorem w_63 : (Jvm.Cond.fieldLink "EchoPantry$Echo" (41 : Nat) "EchoPantry$Jar" "word" "I") ∈ TBL := tk_1 (List.mem_of_getElem? (i := 63) rfl) rfl
theorem w_64 : (Jvm.Cond.fieldLink "EchoPantry" (98 : Nat) "EchoPantry$Jar" "word" "I") ∈ TBL := tk_1 (List.mem_of_getElem? (i := 64) rfl) rfl
theorem w_65 : (Jvm.Cond.fieldLink "EchoPantry$State" (144 : Nat) "EchoPantry$Jar" "word" "I") ∈ TBL := tk_1 (List.mem_of_getElem? (i := 65) rfl) rfl
theorem w_66 : (Jvm.Cond.fieldLink "EchoPantry$Jar" (17 : Nat) "EchoPantry$Jar" "timesSpoken" "I") ∈ TBL := tk_1 (List.mem_of_getElem? (i := 66) rfl) rfl
theorem w_67 : (Jvm.Cond.fieldLink "EchoPantry$Echo" (44 : Nat) "EchoPantry$Jar" "timesSpoken" "I") ∈ TBL := tk_1 (List.mem_of_getElem? (i := 67) rfl) rfl
theorem w_68 : (Jvm.Cond.fieldLink "EchoPantry$State" (96 : Nat) "EchoPantry$Jar" "timesSpoken" "I") ∈ TBL := tk_1 (List.mem_of_getElem? (i := 68) rfl) rfl
theorem w_69 : (Jvm.Cond.fieldLink "EchoPantry$Jar" (20 : Nat) "EchoPantry$Jar" "lastStep" "I") ∈ TBL := tk_1 (List.mem_of_getElem? (i := 69) rfl) rfl
theorem w_70 : (Jvm.Cond.fieldLink "EchoPantry$State" (135 : Nat) "EchoPantry$Jar" "lastStep" "I") ∈ TBL := tk_1 (List.mem_of_getElem? (i := 70) rfl) rfl
theorem w_80 : (Jvm.Cond.instantiable "EchoPantry$Shelf" (7 : Nat)) ∈ TBL := tk_1 (List.mem_of_getElem? (i := 80) rfl) rfl
theorem w_81 : (Jvm.Cond.methodLink "EchoPantry$State" (49 : Nat) ({ cls := "EchoPantry$Shelf", name := "<init>", desc := "()V" } : Jvm.MethodName)) ∈ TBL := tk_1 (List.mem_of_getElem? (i := 81) rfl) rfl
theorem w_82 : (Jvm.Cond.instanceMethod ({ cls := "EchoPantry$Shelf", name := "<init>", desc := "()V" } : Jvm.MethodName)) ∈ TBL := tk_1 (List.mem_of_getElem? (i := 82) rfl) rfl
theorem w_83 : (Jvm.Cond.code ({ cls := "EchoPantry$Shelf", name := "<init>", desc := "()V" } : Jvm.MethodName) prog_7_method_1_code (2 : Nat) (Option.none : Option Jvm.ClassFile.FieldType)) ∈ TBL := tk_1 (List.mem_of_getElem? (i := 83) rfl) rfl
theorem w_84 : (Jvm.Cond.methodLink "EchoPantry$Shelf" (3 : Nat) ({ cls := "java/lang/Object", name := "<init>", desc := "()V" } : Jvm.MethodName)) ∈ TBL := tk_1 (List.mem_of_getElem? (i := 84) rfl) rfl
theorem w_85 : (Jvm.Cond.classLink "EchoPantry$Shelf" (32 : Nat) "EchoPantry$Echo") ∈ TBL := tk_1 (List.mem_of_getElem? (i := 85) rfl) rfl
theorem w_87 : (Jvm.Cond.instantiable "EchoPantry$Echo" (9 : Nat)) ∈ TBL := tk_1 (List.mem_of_getElem? (i := 87) rfl) rfl
theorem w_89 : (Jvm.Cond.instanceMethod ({ cls := "EchoPantry$Echo", name := "<init>", desc := "()V" } : Jvm.MethodName)) ∈ TBL := tk_1 (List.mem_of_getElem? (i := 89) rfl) rfl
theorem w_90 : (Jvm.Cond.code ({ cls := "EchoPantry$Echo", name := "<init>", desc := "()V" } : Jvm.MethodName) prog_4_method_1_code (1 : Nat) (Option.none : Option Jvm.ClassFile.FieldType)) ∈ TBL := tk_1 (List.mem_of_getElem? (i := 90) rfl) rfl
theorem w_91 : (Jvm.Cond.methodLink "EchoPantry$Echo" (3 : Nat) ({ cls := "java/lang/Object", name := "<init>", desc := "()V" } : Jvm.MethodName)) ∈ TBL := tk_1 (List.mem_of_getElem? (i := 91) rfl) rfl
theorem w_92 : (Jvm.Cond.fieldLink "EchoPantry$Echo" (9 : Nat) "EchoPantry$Echo" "isThere" "Z") ∈ TBL := tk_1 (List.mem_of_getElem? (i := 92) rfl) rfl
theorem w_93 : (Jvm.Cond.fieldLink "EchoPantry$Shelf" (43 : Nat) "EchoPantry$Echo" "isThere" "Z") ∈ TBL := tk_1 (List.mem_of_getElem? (i := 93) rfl) rfl
theorem w_94 : (Jvm.Cond.fieldLink "EchoPantry" (287 : Nat) "EchoPantry$Echo" "isThere" "Z") ∈ TBL := tk_1 (List.mem_of_getElem? (i := 94) rfl) rfl
theorem w_95 : (Jvm.Cond.fieldLink "EchoPantry$Echo" (15 : Nat) "EchoPantry$Echo" "letter" "C") ∈ TBL := tk_1 (List.mem_of_getElem? (i := 95) rfl) rfl
theorem w_96 : (Jvm.Cond.fieldLink "EchoPantry$Shelf" (44 : Nat) "EchoPantry$Echo" "letter" "C") ∈ TBL := tk_1 (List.mem_of_getElem? (i := 96) rfl) rfl
theorem w_97 : (Jvm.Cond.fieldLink "EchoPantry$State" (125 : Nat) "EchoPantry$Echo" "letter" "C") ∈ TBL := tk_1 (List.mem_of_getElem? (i := 97) rfl) rfl
theorem w_98 : (Jvm.Cond.fieldLink "EchoPantry" (184 : Nat) "EchoPantry$Echo" "letter" "C") ∈ TBL := tk_1 (List.mem_of_getElem? (i := 98) rfl) rfl
theorem w_99 : (Jvm.Cond.fieldLink "EchoPantry$Echo" (19 : Nat) "EchoPantry$Echo" "word" "I") ∈ TBL := tk_1 (List.mem_of_getElem? (i := 99) rfl) rfl
theorem w_100 : (Jvm.Cond.fieldLink "EchoPantry$Shelf" (88 : Nat) "EchoPantry$Echo" "word" "I") ∈ TBL := tk_1 (List.mem_of_getElem? (i := 100) rfl) rfl
theorem w_101 : (Jvm.Cond.fieldLink "EchoPantry" (151 : Nat) "EchoPantry$Echo" "word" "I") ∈ TBL := tk_1 (List.mem_of_getElem? (i := 101) rfl) rfl
theorem w_102 : (Jvm.Cond.fieldLink "EchoPantry$State" (147 : Nat) "EchoPantry$Echo" "word" "I") ∈ TBL := tk_1 (List.mem_of_getElem? (i := 102) rfl) rfl
theorem w_103 : (Jvm.Cond.fieldLink "EchoPantry$Echo" (23 : Nat) "EchoPantry$Echo" "fetchMinute" "I") ∈ TBL := tk_1 (List.mem_of_getElem? (i := 103) rfl) rfl
theorem w_104 : (Jvm.Cond.fieldLink "EchoPantry$Echo" (26 : Nat) "EchoPantry$Echo" "fetchStep" "I") ∈ TBL := tk_1 (List.mem_of_getElem? (i := 104) rfl) rfl
theorem w_105 : (Jvm.Cond.fieldLink "EchoPantry$Shelf" (70 : Nat) "EchoPantry$Echo" "fetchStep" "I") ∈ TBL := tk_1 (List.mem_of_getElem? (i := 105) rfl) rfl
theorem w_106 : (Jvm.Cond.fieldLink "EchoPantry$State" (132 : Nat) "EchoPantry$Echo" "fetchStep" "I") ∈ TBL := tk_1 (List.mem_of_getElem? (i := 106) rfl) rfl
theorem w_107 : (Jvm.Cond.fieldLink "EchoPantry$Echo" (29 : Nat) "EchoPantry$Echo" "heardStep" "I") ∈ TBL := tk_1 (List.mem_of_getElem? (i := 107) rfl) rfl
theorem w_108 : (Jvm.Cond.fieldLink "EchoPantry$Shelf" (66 : Nat) "EchoPantry$Echo" "heardStep" "I") ∈ TBL := tk_1 (List.mem_of_getElem? (i := 108) rfl) rfl
theorem w_109 : (Jvm.Cond.fieldLink "EchoPantry$Echo" (32 : Nat) "EchoPantry$Echo" "hitCount" "I") ∈ TBL := tk_1 (List.mem_of_getElem? (i := 109) rfl) rfl
theorem w_110 : (Jvm.Cond.fieldLink "EchoPantry$Shelf" (69 : Nat) "EchoPantry$Echo" "hitCount" "I") ∈ TBL := tk_1 (List.mem_of_getElem? (i := 110) rfl) rfl
theorem w_111 : (Jvm.Cond.fieldLink "EchoPantry" (161 : Nat) "EchoPantry$Echo" "hitCount" "I") ∈ TBL := tk_1 (List.mem_of_getElem? (i := 111) rfl) rfl
theorem w_112 : (Jvm.Cond.fieldLink "EchoPantry$Echo" (35 : Nat) "EchoPantry$Echo" "timesSpoken" "I") ∈ TBL := tk_1 (List.mem_of_getElem? (i := 112) rfl) rfl
theorem w_113 : (Jvm.Cond.fieldLink "EchoPantry$State" (131 : Nat) "EchoPantry$Echo" "timesSpoken" "I") ∈ TBL := tk_1 (List.mem_of_getElem? (i := 113) rfl) rfl
theorem w_114 : (Jvm.Cond.fieldLink "EchoPantry$Echo" (38 : Nat) "EchoPantry$Echo" "hasOpenLid" "Z") ∈ TBL := tk_1 (List.mem_of_getElem? (i := 114) rfl) rfl
theorem w_115 : (Jvm.Cond.fieldLink "EchoPantry$Shelf" (59 : Nat) "EchoPantry$Echo" "hasOpenLid" "Z") ∈ TBL := tk_1 (List.mem_of_getElem? (i := 115) rfl) rfl
theorem w_116 : (Jvm.Cond.fieldLink "EchoPantry" (168 : Nat) "EchoPantry$Echo" "hasOpenLid" "Z") ∈ TBL := tk_1 (List.mem_of_getElem? (i := 116) rfl) rfl
theorem w_136 : (Jvm.Cond.fieldLink "EchoPantry$Shelf" (9 : Nat) "EchoPantry$Shelf" "isThere" "Z") ∈ TBL := tk_1 (List.mem_of_getElem? (i := 136) rfl) rfl
theorem w_137 : (Jvm.Cond.fieldLink "EchoPantry$State" (69 : Nat) "EchoPantry$Shelf" "isThere" "Z") ∈ TBL := tk_1 (List.mem_of_getElem? (i := 137) rfl) rfl
theorem w_138 : (Jvm.Cond.fieldLink "EchoPantry$Shelf" (15 : Nat) "EchoPantry$Shelf" "capacity" "I") ∈ TBL := tk_1 (List.mem_of_getElem? (i := 138) rfl) rfl
theorem w_139 : (Jvm.Cond.fieldLink "EchoPantry" (122 : Nat) "EchoPantry$Shelf" "capacity" "I") ∈ TBL := tk_1 (List.mem_of_getElem? (i := 139) rfl) rfl
theorem w_140 : (Jvm.Cond.fieldLink "EchoPantry$Shelf" (19 : Nat) "EchoPantry$Shelf" "lifetime" "I") ∈ TBL := tk_1 (List.mem_of_getElem? (i := 140) rfl) rfl
theorem w_141 : (Jvm.Cond.fieldLink "EchoPantry" (125 : Nat) "EchoPantry$Shelf" "lifetime" "I") ∈ TBL := tk_1 (List.mem_of_getElem? (i := 141) rfl) rfl
theorem w_142 : (Jvm.Cond.fieldLink "EchoPantry$Shelf" (22 : Nat) "EchoPantry$Shelf" "policy" "C") ∈ TBL := tk_1 (List.mem_of_getElem? (i := 142) rfl) rfl
theorem w_143 : (Jvm.Cond.fieldLink "EchoPantry" (128 : Nat) "EchoPantry$Shelf" "policy" "C") ∈ TBL := tk_1 (List.mem_of_getElem? (i := 143) rfl) rfl
theorem w_144 : (Jvm.Cond.fieldLink "EchoPantry$Shelf" (26 : Nat) "EchoPantry$Shelf" "listens" "Z") ∈ TBL := tk_1 (List.mem_of_getElem? (i := 144) rfl) rfl
theorem w_145 : (Jvm.Cond.fieldLink "EchoPantry" (114 : Nat) "EchoPantry$Shelf" "listens" "Z") ∈ TBL := tk_1 (List.mem_of_getElem? (i := 145) rfl) rfl
theorem w_146 : (Jvm.Cond.fieldLink "EchoPantry$State" (111 : Nat) "EchoPantry$Shelf" "listens" "Z") ∈ TBL := tk_1 (List.mem_of_getElem? (i := 146) rfl) rfl
theorem w_147 : (Jvm.Cond.fieldLink "EchoPantry$Shelf" (29 : Nat) "EchoPantry$Shelf" "hitCount" "I") ∈ TBL := tk_1 (List.mem_of_getElem? (i := 147) rfl) rfl
theorem w_148 : (Jvm.Cond.fieldLink "EchoPantry$State" (122 : Nat) "EchoPantry$Shelf" "hitCount" "I") ∈ TBL := tk_1 (List.mem_of_getElem? (i := 148) rfl) rfl
theorem w_149 : (Jvm.Cond.fieldLink "EchoPantry$Shelf" (34 : Nat) "EchoPantry$Shelf" "order" "[LEchoPantry$Echo;") ∈ TBL := tk_1 (List.mem_of_getElem? (i := 149) rfl) rfl
theorem w_150 : (Jvm.Cond.fieldLink "EchoPantry" (283 : Nat) "EchoPantry$Shelf" "order" "[LEchoPantry$Echo;") ∈ TBL := tk_1 (List.mem_of_getElem? (i := 150) rfl) rfl
theorem w_166 : (Jvm.Cond.instantiable "EchoPantry$Warming" (4 : Nat)) ∈ TBL := tk_1 (List.mem_of_getElem? (i := 166) rfl) rfl
theorem w_168 : (Jvm.Cond.instanceMethod ({ cls := "EchoPantry$Warming", name := "<init>", desc := "()V" } : Jvm.MethodName)) ∈ TBL := tk_1 (List.mem_of_getElem? (i := 168) rfl) rfl
theorem w_169 : (Jvm.Cond.code ({ cls := "EchoPantry$Warming", name := "<init>", desc := "()V" } : Jvm.MethodName) prog_9_method_1_code (1 : Nat) (Option.none : Option Jvm.ClassFile.FieldType)) ∈ TBL := tk_1 (List.mem_of_getElem? (i := 169) rfl) rfl
theorem w_170 : (Jvm.Cond.methodLink "EchoPantry$Warming" (3 : Nat) ({ cls := "java/lang/Object", name := "<init>", desc := "()V" } : Jvm.MethodName)) ∈ TBL := tk_1 (List.mem_of_getElem? (i := 170) rfl) rfl
theorem w_171 : (Jvm.Cond.fieldLink "EchoPantry$Warming" (9 : Nat) "EchoPantry$Warming" "isThere" "Z") ∈ TBL := tk_1 (List.mem_of_getElem? (i := 171) rfl) rfl
theorem w_172 : (Jvm.Cond.fieldLink "EchoPantry$State" (70 : Nat) "EchoPantry$Warming" "isThere" "Z") ∈ TBL := tk_1 (List.mem_of_getElem? (i := 172) rfl) rfl
theorem w_173 : (Jvm.Cond.fieldLink "EchoPantry$Warming" (15 : Nat) "EchoPantry$Warming" "minute" "I") ∈ TBL := tk_1 (List.mem_of_getElem? (i := 173) rfl) rfl
theorem w_174 : (Jvm.Cond.fieldLink "EchoPantry$State" (167 : Nat) "EchoPantry$Warming" "minute" "I") ∈ TBL := tk_1 (List.mem_of_getElem? (i := 174) rfl) rfl
theorem w_175 : (Jvm.Cond.fieldLink "EchoPantry" (225 : Nat) "EchoPantry$Warming" "minute" "I") ∈ TBL := tk_1 (List.mem_of_getElem? (i := 175) rfl) rfl
theorem w_176 : (Jvm.Cond.fieldLink "EchoPantry$Warming" (19 : Nat) "EchoPantry$Warming" "shelf" "I") ∈ TBL := tk_1 (List.mem_of_getElem? (i := 176) rfl) rfl
theorem w_177 : (Jvm.Cond.fieldLink "EchoPantry$State" (168 : Nat) "EchoPantry$Warming" "shelf" "I") ∈ TBL := tk_1 (List.mem_of_getElem? (i := 177) rfl) rfl
theorem w_178 : (Jvm.Cond.fieldLink "EchoPantry$Warming" (22 : Nat) "EchoPantry$Warming" "letter" "C") ∈ TBL := tk_1 (List.mem_of_getElem? (i := 178) rfl) rfl
theorem w_179 : (Jvm.Cond.fieldLink "EchoPantry$State" (171 : Nat) "EchoPantry$Warming" "letter" "C") ∈ TBL := tk_1 (List.mem_of_getElem? (i := 179) rfl) rfl
theorem w_180 : (Jvm.Cond.fieldLink "EchoPantry" (228 : Nat) "EchoPantry$Warming" "letter" "C") ∈ TBL := tk_1 (List.mem_of_getElem? (i := 180) rfl) rfl
theorem w_190 : (Jvm.Cond.fieldLink "EchoPantry$State" (11 : Nat) "EchoPantry$State" "jars" "[LEchoPantry$Jar;") ∈ TBL := tk_1 (List.mem_of_getElem? (i := 190) rfl) rfl
theorem w_191 : (Jvm.Cond.fieldLink "EchoPantry$State" (19 : Nat) "EchoPantry$State" "shelves" "[LEchoPantry$Shelf;") ∈ TBL := tk_1 (List.mem_of_getElem? (i := 191) rfl) rfl
theorem w_192 : (Jvm.Cond.fieldLink "EchoPantry" (251 : Nat) "EchoPantry$State" "shelves" "[LEchoPantry$Shelf;") ∈ TBL := tk_1 (List.mem_of_getElem? (i := 192) rfl) rfl
theorem w_193 : (Jvm.Cond.fieldLink "EchoPantry$State" (25 : Nat) "EchoPantry$State" "warmings" "[LEchoPantry$Warming;") ∈ TBL := tk_1 (List.mem_of_getElem? (i := 193) rfl) rfl
theorem w_194 : (Jvm.Cond.fieldLink "EchoPantry$State" (29 : Nat) "EchoPantry$State" "minute" "I") ∈ TBL := tk_1 (List.mem_of_getElem? (i := 194) rfl) rfl
theorem w_195 : (Jvm.Cond.fieldLink "EchoPantry" (154 : Nat) "EchoPantry$State" "minute" "I") ∈ TBL := tk_1 (List.mem_of_getElem? (i := 195) rfl) rfl
theorem w_196 : (Jvm.Cond.fieldLink "EchoPantry$State" (33 : Nat) "EchoPantry$State" "nextStep" "I") ∈ TBL := tk_1 (List.mem_of_getElem? (i := 196) rfl) rfl
theorem w_197 : (Jvm.Cond.fieldLink "EchoPantry$State" (36 : Nat) "EchoPantry$State" "hitTotal" "I") ∈ TBL := tk_1 (List.mem_of_getElem? (i := 197) rfl) rfl
theorem w_198 : (Jvm.Cond.fieldLink "EchoPantry" (229 : Nat) "EchoPantry$State" "hitTotal" "I") ∈ TBL := tk_1 (List.mem_of_getElem? (i := 198) rfl) rfl
theorem w_199 : (Jvm.Cond.fieldLink "EchoPantry$State" (39 : Nat) "EchoPantry$State" "coldTotal" "I") ∈ TBL := tk_1 (List.mem_of_getElem? (i := 199) rfl) rfl
theorem w_200 : (Jvm.Cond.fieldLink "EchoPantry" (232 : Nat) "EchoPantry$State" "coldTotal" "I") ∈ TBL := tk_1 (List.mem_of_getElem? (i := 200) rfl) rfl
theorem w_201 : (Jvm.Cond.fieldLink "EchoPantry$State" (42 : Nat) "EchoPantry$State" "expiredTotal" "I") ∈ TBL := tk_1 (List.mem_of_getElem? (i := 201) rfl) rfl
theorem w_202 : (Jvm.Cond.fieldLink "EchoPantry" (235 : Nat) "EchoPantry$State" "expiredTotal" "I") ∈ TBL := tk_1 (List.mem_of_getElem? (i := 202) rfl) rfl
theorem w_203 : (Jvm.Cond.fieldLink "EchoPantry$State" (45 : Nat) "EchoPantry$State" "openTotal" "I") ∈ TBL := tk_1 (List.mem_of_getElem? (i := 203) rfl) rfl
theorem w_204 : (Jvm.Cond.fieldLink "EchoPantry" (238 : Nat) "EchoPantry$State" "openTotal" "I") ∈ TBL := tk_1 (List.mem_of_getElem? (i := 204) rfl) rfl
theorem w_224 : (Jvm.Cond.classLink "EchoPantry" (16 : Nat) "EchoPantry$History") ∈ TBL := tk_1 (List.mem_of_getElem? (i := 224) rfl) rfl
theorem w_225 : (Jvm.Cond.instantiable "EchoPantry$History" (3 : Nat)) ∈ TBL := tk_1 (List.mem_of_getElem? (i := 225) rfl) rfl
theorem w_226 : (Jvm.Cond.methodLink "EchoPantry" (18 : Nat) ({ cls := "EchoPantry$History", name := "<init>", desc := "()V" } : Jvm.MethodName)) ∈ TBL := tk_1 (List.mem_of_getElem? (i := 226) rfl) rfl
theorem w_227 : (Jvm.Cond.instanceMethod ({ cls := "EchoPantry$History", name := "<init>", desc := "()V" } : Jvm.MethodName)) ∈ TBL := tk_1 (List.mem_of_getElem? (i := 227) rfl) rfl
theorem w_228 : (Jvm.Cond.code ({ cls := "EchoPantry$History", name := "<init>", desc := "()V" } : Jvm.MethodName) prog_5_method_1_code (2 : Nat) (Option.none : Option Jvm.ClassFile.FieldType)) ∈ TBL := tk_1 (List.mem_of_getElem? (i := 228) rfl) rfl
theorem w_229 : (Jvm.Cond.methodLink "EchoPantry$History" (3 : Nat) ({ cls := "java/lang/Object", name := "<init>", desc := "()V" } : Jvm.MethodName)) ∈ TBL := tk_1 (List.mem_of_getElem? (i := 229) rfl) rfl
theorem w_230 : (Jvm.Cond.classLink "EchoPantry$History" (9 : Nat) "EchoPantry$State") ∈ TBL := tk_1 (List.mem_of_getElem? (i := 230) rfl) rfl
theorem w_232 : (Jvm.Cond.methodLink "EchoPantry$History" (24 : Nat) ({ cls := "EchoPantry$State", name := "<init>", desc := "()V" } : Jvm.MethodName)) ∈ TBL := tk_1 (List.mem_of_getElem? (i := 232) rfl) rfl
theorem w_233 : (Jvm.Cond.fieldLink "EchoPantry$History" (11 : Nat) "EchoPantry$History" "rows" "[LEchoPantry$State;") ∈ TBL := tk_1 (List.mem_of_getElem? (i := 233) rfl) rfl
theorem w_234 : (Jvm.Cond.fieldLink "EchoPantry$History" (17 : Nat) "EchoPantry$History" "first" "I") ∈ TBL := tk_1 (List.mem_of_getElem? (i := 234) rfl) rfl
theorem w_235 : (Jvm.Cond.fieldLink "EchoPantry$History" (21 : Nat) "EchoPantry$History" "count" "I") ∈ TBL := tk_1 (List.mem_of_getElem? (i := 235) rfl) rfl
theorem w_236 : (Jvm.Cond.fieldLink "EchoPantry" (344 : Nat) "EchoPantry$History" "count" "I") ∈ TBL := tk_1 (List.mem_of_getElem? (i := 236) rfl) rfl
theorem w_244 : (Jvm.Cond.classLink "EchoPantry" (30 : Nat) "EchoPantry$CommandText") ∈ TBL := tk_2 (List.mem_of_getElem? (i := 4) rfl) rfl
theorem w_245 : (Jvm.Cond.instantiable "EchoPantry$CommandText" (5 : Nat)) ∈ TBL := tk_2 (List.mem_of_getElem? (i := 5) rfl) rfl
theorem w_246 : (Jvm.Cond.methodLink "EchoPantry" (32 : Nat) ({ cls := "EchoPantry$CommandText", name := "<init>", desc := "()V" } : Jvm.MethodName)) ∈ TBL := tk_2 (List.mem_of_getElem? (i := 6) rfl) rfl
theorem w_247 : (Jvm.Cond.instanceMethod ({ cls := "EchoPantry$CommandText", name := "<init>", desc := "()V" } : Jvm.MethodName)) ∈ TBL := tk_2 (List.mem_of_getElem? (i := 7) rfl) rfl
theorem w_248 : (Jvm.Cond.code ({ cls := "EchoPantry$CommandText", name := "<init>", desc := "()V" } : Jvm.MethodName) prog_3_method_1_code (2 : Nat) (Option.none : Option Jvm.ClassFile.FieldType)) ∈ TBL := tk_2 (List.mem_of_getElem? (i := 8) rfl) rfl
theorem w_249 : (Jvm.Cond.methodLink "EchoPantry$CommandText" (3 : Nat) ({ cls := "java/lang/Object", name := "<init>", desc := "()V" } : Jvm.MethodName)) ∈ TBL := tk_2 (List.mem_of_getElem? (i := 9) rfl) rfl
theorem w_250 : (Jvm.Cond.classLink "EchoPantry$CommandText" (22 : Nat) "EchoPantry$Command") ∈ TBL := tk_2 (List.mem_of_getElem? (i := 10) rfl) rfl
theorem w_252 : (Jvm.Cond.instantiable "EchoPantry$Command" (5 : Nat)) ∈ TBL := tk_2 (List.mem_of_getElem? (i := 12) rfl) rfl
theorem w_254 : (Jvm.Cond.instanceMethod ({ cls := "EchoPantry$Command", name := "<init>", desc := "()V" } : Jvm.MethodName)) ∈ TBL := tk_2 (List.mem_of_getElem? (i := 14) rfl) rfl
theorem w_255 : (Jvm.Cond.code ({ cls := "EchoPantry$Command", name := "<init>", desc := "()V" } : Jvm.MethodName) prog_2_method_1_code (1 : Nat) (Option.none : Option Jvm.ClassFile.FieldType)) ∈ TBL := tk_2 (List.mem_of_getElem? (i := 15) rfl) rfl
theorem w_256 : (Jvm.Cond.methodLink "EchoPantry$Command" (3 : Nat) ({ cls := "java/lang/Object", name := "<init>", desc := "()V" } : Jvm.MethodName)) ∈ TBL := tk_2 (List.mem_of_getElem? (i := 16) rfl) rfl
theorem w_257 : (Jvm.Cond.fieldLink "EchoPantry$Command" (9 : Nat) "EchoPantry$Command" "kind" "I") ∈ TBL := tk_2 (List.mem_of_getElem? (i := 17) rfl) rfl
theorem w_258 : (Jvm.Cond.fieldLink "EchoPantry$CommandText" (44 : Nat) "EchoPantry$Command" "kind" "I") ∈ TBL := tk_2 (List.mem_of_getElem? (i := 18) rfl) rfl
theorem w_259 : (Jvm.Cond.fieldLink "EchoPantry" (381 : Nat) "EchoPantry$Command" "kind" "I") ∈ TBL := tk_2 (List.mem_of_getElem? (i := 19) rfl) rfl
theorem w_260 : (Jvm.Cond.fieldLink "EchoPantry$Command" (15 : Nat) "EchoPantry$Command" "letter" "C") ∈ TBL := tk_2 (List.mem_of_getElem? (i := 20) rfl) rfl
theorem w_261 : (Jvm.Cond.fieldLink "EchoPantry$CommandText" (103 : Nat) "EchoPantry$Command" "letter" "C") ∈ TBL := tk_2 (List.mem_of_getElem? (i := 21) rfl) rfl
theorem w_262 : (Jvm.Cond.fieldLink "EchoPantry" (386 : Nat) "EchoPantry$Command" "letter" "C") ∈ TBL := tk_2 (List.mem_of_getElem? (i := 22) rfl) rfl
theorem w_263 : (Jvm.Cond.fieldLink "EchoPantry$Command" (19 : Nat) "EchoPantry$Command" "digit" "I") ∈ TBL := tk_2 (List.mem_of_getElem? (i := 23) rfl) rfl
theorem w_264 : (Jvm.Cond.fieldLink "EchoPantry$CommandText" (113 : Nat) "EchoPantry$Command" "digit" "I") ∈ TBL := tk_2 (List.mem_of_getElem? (i := 24) rfl) rfl
theorem w_265 : (Jvm.Cond.fieldLink "EchoPantry" (390 : Nat) "EchoPantry$Command" "digit" "I") ∈ TBL := tk_2 (List.mem_of_getElem? (i := 25) rfl) rfl
theorem w_266 : (Jvm.Cond.fieldLink "EchoPantry$Command" (22 : Nat) "EchoPantry$Command" "number" "I") ∈ TBL := tk_2 (List.mem_of_getElem? (i := 26) rfl) rfl
theorem w_267 : (Jvm.Cond.fieldLink "EchoPantry$CommandText" (116 : Nat) "EchoPantry$Command" "number" "I") ∈ TBL := tk_2 (List.mem_of_getElem? (i := 27) rfl) rfl
theorem w_268 : (Jvm.Cond.fieldLink "EchoPantry" (387 : Nat) "EchoPantry$Command" "number" "I") ∈ TBL := tk_2 (List.mem_of_getElem? (i := 28) rfl) rfl
theorem w_269 : (Jvm.Cond.fieldLink "EchoPantry$Command" (25 : Nat) "EchoPantry$Command" "policy" "C") ∈ TBL := tk_2 (List.mem_of_getElem? (i := 29) rfl) rfl
theorem w_270 : (Jvm.Cond.fieldLink "EchoPantry$CommandText" (107 : Nat) "EchoPantry$Command" "policy" "C") ∈ TBL := tk_2 (List.mem_of_getElem? (i := 30) rfl) rfl
theorem w_271 : (Jvm.Cond.fieldLink "EchoPantry" (393 : Nat) "EchoPantry$Command" "policy" "C") ∈ TBL := tk_2 (List.mem_of_getElem? (i := 31) rfl) rfl
theorem w_283 : (Jvm.Cond.arrayClass Jvm.ClassFile.FieldType.char) ∈ TBL := tk_2 (List.mem_of_getElem? (i := 43) rfl) rfl
theorem w_284 : (Jvm.Cond.fieldLink "EchoPantry$CommandText" (9 : Nat) "EchoPantry$CommandText" "characters" "[C") ∈ TBL := tk_2 (List.mem_of_getElem? (i := 44) rfl) rfl
theorem w_285 : (Jvm.Cond.fieldLink "EchoPantry$CommandText" (15 : Nat) "EchoPantry$CommandText" "length" "I") ∈ TBL := tk_2 (List.mem_of_getElem? (i := 45) rfl) rfl
theorem w_286 : (Jvm.Cond.fieldLink "EchoPantry" (295 : Nat) "EchoPantry$CommandText" "length" "I") ∈ TBL := tk_2 (List.mem_of_getElem? (i := 46) rfl) rfl
theorem w_287 : (Jvm.Cond.fieldLink "EchoPantry$CommandText" (19 : Nat) "EchoPantry$CommandText" "at" "I") ∈ TBL := tk_2 (List.mem_of_getElem? (i := 47) rfl) rfl
theorem w_288 : (Jvm.Cond.fieldLink "EchoPantry" (309 : Nat) "EchoPantry$CommandText" "at" "I") ∈ TBL := tk_2 (List.mem_of_getElem? (i := 48) rfl) rfl
theorem w_289 : (Jvm.Cond.fieldLink "EchoPantry$CommandText" (24 : Nat) "EchoPantry$CommandText" "commands" "[LEchoPantry$Command;") ∈ TBL := tk_2 (List.mem_of_getElem? (i := 49) rfl) rfl
theorem w_290 : (Jvm.Cond.fieldLink "EchoPantry$CommandText" (28 : Nat) "EchoPantry$CommandText" "commandCount" "I") ∈ TBL := tk_2 (List.mem_of_getElem? (i := 50) rfl) rfl
theorem w_291 : (Jvm.Cond.fieldLink "EchoPantry" (317 : Nat) "EchoPantry$CommandText" "commandCount" "I") ∈ TBL := tk_2 (List.mem_of_getElem? (i := 51) rfl) rfl
theorem w_303 : (Jvm.Cond.classLink "EchoPantry" (44 : Nat) "java/lang/StringBuilder") ∈ TBL := tk_2 (List.mem_of_getElem? (i := 63) rfl) rfl
theorem w_304 : (Jvm.Cond.instantiable "java/lang/StringBuilder" (4 : Nat)) ∈ TBL := tk_2 (List.mem_of_getElem? (i := 64) rfl) rfl
theorem w_305 : (Jvm.Cond.methodLink "EchoPantry" (46 : Nat) ({ cls := "java/lang/StringBuilder", name := "<init>", desc := "()V" } : Jvm.MethodName)) ∈ TBL := tk_2 (List.mem_of_getElem? (i := 65) rfl) rfl
theorem w_306 : (Jvm.Cond.instanceMethod ({ cls := "java/lang/StringBuilder", name := "<init>", desc := "()V" } : Jvm.MethodName)) ∈ TBL := tk_2 (List.mem_of_getElem? (i := 66) rfl) rfl
theorem w_307 : (Jvm.Cond.code ({ cls := "java/lang/StringBuilder", name := "<init>", desc := "()V" } : Jvm.MethodName) prog_29_method_1_code (1 : Nat) (Option.none : Option Jvm.ClassFile.FieldType)) ∈ TBL := tk_2 (List.mem_of_getElem? (i := 67) rfl) rfl
theorem w_336 : (Jvm.Cond.fieldLink "EchoPantry" (10 : Nat) "EchoPantry" "state" "LEchoPantry$State;") ∈ TBL := tk_2 (List.mem_of_getElem? (i := 96) rfl) rfl
theorem w_337 : (Jvm.Cond.fieldLink "EchoPantry" (19 : Nat) "EchoPantry" "history" "LEchoPantry$History;") ∈ TBL := tk_2 (List.mem_of_getElem? (i := 97) rfl) rfl
theorem w_338 : (Jvm.Cond.fieldLink "EchoPantry" (23 : Nat) "EchoPantry" "snapshot" "LEchoPantry$State;") ∈ TBL := tk_2 (List.mem_of_getElem? (i := 98) rfl) rfl
theorem w_339 : (Jvm.Cond.fieldLink "EchoPantry" (26 : Nat) "EchoPantry" "hasSnapshot" "Z") ∈ TBL := tk_2 (List.mem_of_getElem? (i := 99) rfl) rfl
theorem w_340 : (Jvm.Cond.fieldLink "EchoPantry" (33 : Nat) "EchoPantry" "text" "LEchoPantry$CommandText;") ∈ TBL := tk_2 (List.mem_of_getElem? (i := 100) rfl) rfl
theorem w_341 : (Jvm.Cond.fieldLink "EchoPantry" (37 : Nat) "EchoPantry" "malformedAt" "I") ∈ TBL := tk_2 (List.mem_of_getElem? (i := 101) rfl) rfl
theorem w_342 : (Jvm.Cond.fieldLink "EchoPantry" (41 : Nat) "EchoPantry" "failedAt" "I") ∈ TBL := tk_2 (List.mem_of_getElem? (i := 102) rfl) rfl
theorem w_343 : (Jvm.Cond.fieldLink "EchoPantry" (47 : Nat) "EchoPantry" "line" "Ljava/lang/StringBuilder;") ∈ TBL := tk_2 (List.mem_of_getElem? (i := 103) rfl) rfl
theorem w_374 : (Jvm.Cond.methodLink "EchoPantry" (51 : Nat) ({ cls := "EchoPantry$State", name := "newJarFault", desc := "(CI)I" } : Jvm.MethodName)) ∈ TBL := tk_2 (List.mem_of_getElem? (i := 134) rfl) rfl
theorem w_375 : (Jvm.Cond.instanceMethod ({ cls := "EchoPantry$State", name := "newJarFault", desc := "(CI)I" } : Jvm.MethodName)) ∈ TBL := tk_2 (List.mem_of_getElem? (i := 135) rfl) rfl
theorem w_376 : (Jvm.Cond.selects "EchoPantry$State" ({ cls := "EchoPantry$State", name := "newJarFault", desc := "(CI)I" } : Jvm.MethodName) ({ cls := "EchoPantry$State", name := "newJarFault", desc := "(CI)I" } : Jvm.MethodName)) ∈ TBL := tk_2 (List.mem_of_getElem? (i := 136) rfl) rfl
theorem w_377 : (Jvm.Cond.code ({ cls := "EchoPantry$State", name := "newJarFault", desc := "(CI)I" } : Jvm.MethodName) prog_8_method_7_code (3 : Nat) (Option.some Jvm.ClassFile.FieldType.int)) ∈ TBL := tk_2 (List.mem_of_getElem? (i := 137) rfl) rfl
theorem w_378 : (Jvm.Cond.methodLink "EchoPantry$State" (71 : Nat) ({ cls := "EchoPantry$State", name := "countJars", desc := "()I" } : Jvm.MethodName)) ∈ TBL := tk_2 (List.mem_of_getElem? (i := 138) rfl) rfl
theorem w_379 : (Jvm.Cond.instanceMethod ({ cls := "EchoPantry$State", name := "countJars", desc := "()I" } : Jvm.MethodName)) ∈ TBL := tk_2 (List.mem_of_getElem? (i := 139) rfl) rfl
theorem w_380 : (Jvm.Cond.selects "EchoPantry$State" ({ cls := "EchoPantry$State", name := "countJars", desc := "()I" } : Jvm.MethodName) ({ cls := "EchoPantry$State", name := "countJars", desc := "()I" } : Jvm.MethodName)) ∈ TBL := tk_2 (List.mem_of_getElem? (i := 140) rfl) rfl
theorem w_381 : (Jvm.Cond.code ({ cls := "EchoPantry$State", name := "countJars", desc := "()I" } : Jvm.MethodName) prog_8_method_15_code (6 : Nat) (Option.some Jvm.ClassFile.FieldType.int)) ∈ TBL := tk_2 (List.mem_of_getElem? (i := 141) rfl) rfl
theorem w_382 : (Jvm.Cond.methodLink "EchoPantry$State" (75 : Nat) ({ cls := "EchoPantry$State", name := "findJar", desc := "(C)LEchoPantry$Jar;" } : Jvm.MethodName)) ∈ TBL := tk_2 (List.mem_of_getElem? (i := 142) rfl) rfl
theorem w_383 : (Jvm.Cond.instanceMethod ({ cls := "EchoPantry$State", name := "findJar", desc := "(C)LEchoPantry$Jar;" } : Jvm.MethodName)) ∈ TBL := tk_2 (List.mem_of_getElem? (i := 143) rfl) rfl
theorem w_384 : (Jvm.Cond.selects "EchoPantry$State" ({ cls := "EchoPantry$State", name := "findJar", desc := "(C)LEchoPantry$Jar;" } : Jvm.MethodName) ({ cls := "EchoPantry$State", name := "findJar", desc := "(C)LEchoPantry$Jar;" } : Jvm.MethodName)) ∈ TBL := tk_2 (List.mem_of_getElem? (i := 144) rfl) rfl
theorem w_385 : (Jvm.Cond.code ({ cls := "EchoPantry$State", name := "findJar", desc := "(C)LEchoPantry$Jar;" } : Jvm.MethodName) prog_8_method_4_code (3 : Nat) (Option.some (Jvm.ClassFile.FieldType.object "EchoPantry$Jar"))) ∈ TBL := tk_2 (List.mem_of_getElem? (i := 145) rfl) rfl
theorem w_386 : (Jvm.Cond.methodLink "EchoPantry$State" (61 : Nat) ({ cls := "EchoPantry$State", name := "jarRow", desc := "(C)LEchoPantry$Jar;" } : Jvm.MethodName)) ∈ TBL := tk_2 (List.mem_of_getElem? (i := 146) rfl) rfl
theorem w_387 : (Jvm.Cond.instanceMethod ({ cls := "EchoPantry$State", name := "jarRow", desc := "(C)LEchoPantry$Jar;" } : Jvm.MethodName)) ∈ TBL := tk_2 (List.mem_of_getElem? (i := 147) rfl) rfl
theorem w_388 : (Jvm.Cond.selects "EchoPantry$State" ({ cls := "EchoPantry$State", name := "jarRow", desc := "(C)LEchoPantry$Jar;" } : Jvm.MethodName) ({ cls := "EchoPantry$State", name := "jarRow", desc := "(C)LEchoPantry$Jar;" } : Jvm.MethodName)) ∈ TBL := tk_2 (List.mem_of_getElem? (i := 148) rfl) rfl
theorem w_389 : (Jvm.Cond.code ({ cls := "EchoPantry$State", name := "jarRow", desc := "(C)LEchoPantry$Jar;" } : Jvm.MethodName) prog_8_method_3_code (3 : Nat) (Option.some (Jvm.ClassFile.FieldType.object "EchoPantry$Jar"))) ∈ TBL := tk_2 (List.mem_of_getElem? (i := 149) rfl) rfl
theorem w_390 : (Jvm.Cond.methodLink "EchoPantry" (55 : Nat) ({ cls := "EchoPantry", name := "refuse", desc := "(I)V" } : Jvm.MethodName)) ∈ TBL := tk_2 (List.mem_of_getElem? (i := 150) rfl) rfl
theorem w_391 : (Jvm.Cond.static ({ cls := "EchoPantry", name := "refuse", desc := "(I)V" } : Jvm.MethodName)) ∈ TBL := tk_2 (List.mem_of_getElem? (i := 151) rfl) rfl
theorem w_392 : (Jvm.Cond.code ({ cls := "EchoPantry", name := "refuse", desc := "(I)V" } : Jvm.MethodName) prog_1_method_55_code (1 : Nat) (Option.none : Option Jvm.ClassFile.FieldType)) ∈ TBL := tk_2 (List.mem_of_getElem? (i := 152) rfl) rfl
theorem w_393 : (Jvm.Cond.classLink "EchoPantry" (87 : Nat) "java/lang/IndexOutOfBoundsException") ∈ TBL := tk_2 (List.mem_of_getElem? (i := 153) rfl) rfl
theorem w_464 : (Jvm.Cond.classLink "EchoPantry" (138 : Nat) "java/util/NoSuchElementException") ∈ TBL := tk_2 (List.mem_of_getElem? (i := 224) rfl) rfl
theorem w_480 : (Jvm.Cond.classLink "EchoPantry" (241 : Nat) "java/lang/IllegalArgumentException") ∈ TBL := tk_3 (List.mem_of_getElem? (i := 0) rfl) rfl
theorem w_496 : (Jvm.Cond.classLink "EchoPantry" (297 : Nat) "java/lang/IllegalStateException") ∈ TBL := tk_3 (List.mem_of_getElem? (i := 16) rfl) rfl
theorem w_512 : (Jvm.Cond.methodLink "EchoPantry" (59 : Nat) ({ cls := "EchoPantry$History", name := "note", desc := "(LEchoPantry$State;)V" } : Jvm.MethodName)) ∈ TBL := tk_3 (List.mem_of_getElem? (i := 32) rfl) rfl
theorem w_513 : (Jvm.Cond.instanceMethod ({ cls := "EchoPantry$History", name := "note", desc := "(LEchoPantry$State;)V" } : Jvm.MethodName)) ∈ TBL := tk_3 (List.mem_of_getElem? (i := 33) rfl) rfl
theorem w_514 : (Jvm.Cond.selects "EchoPantry$History" ({ cls := "EchoPantry$History", name := "note", desc := "(LEchoPantry$State;)V" } : Jvm.MethodName) ({ cls := "EchoPantry$History", name := "note", desc := "(LEchoPantry$State;)V" } : Jvm.MethodName)) ∈ TBL := tk_3 (List.mem_of_getElem? (i := 34) rfl) rfl
theorem w_515 : (Jvm.Cond.code ({ cls := "EchoPantry$History", name := "note", desc := "(LEchoPantry$State;)V" } : Jvm.MethodName) prog_5_method_3_code (2 : Nat) (Option.none : Option Jvm.ClassFile.FieldType)) ∈ TBL := tk_3 (List.mem_of_getElem? (i := 35) rfl) rfl
theorem w_516 : (Jvm.Cond.methodLink "EchoPantry$History" (31 : Nat) ({ cls := "EchoPantry$History", name := "keep", desc := "(LEchoPantry$State;)V" } : Jvm.MethodName)) ∈ TBL := tk_3 (List.mem_of_getElem? (i := 36) rfl) rfl
theorem w_517 : (Jvm.Cond.instanceMethod ({ cls := "EchoPantry$History", name := "keep", desc := "(LEchoPantry$State;)V" } : Jvm.MethodName)) ∈ TBL := tk_3 (List.mem_of_getElem? (i := 37) rfl) rfl
theorem w_518 : (Jvm.Cond.selects "EchoPantry$History" ({ cls := "EchoPantry$History", name := "keep", desc := "(LEchoPantry$State;)V" } : Jvm.MethodName) ({ cls := "EchoPantry$History", name := "keep", desc := "(LEchoPantry$State;)V" } : Jvm.MethodName)) ∈ TBL := tk_3 (List.mem_of_getElem? (i := 38) rfl) rfl
theorem w_519 : (Jvm.Cond.code ({ cls := "EchoPantry$History", name := "keep", desc := "(LEchoPantry$State;)V" } : Jvm.MethodName) prog_5_method_4_code (2 : Nat) (Option.none : Option Jvm.ClassFile.FieldType)) ∈ TBL := tk_3 (List.mem_of_getElem? (i := 39) rfl) rfl
theorem w_520 : (Jvm.Cond.methodLink "EchoPantry$History" (38 : Nat) ({ cls := "EchoPantry$History", name := "row", desc := "(I)LEchoPantry$State;" } : Jvm.MethodName)) ∈ TBL := tk_3 (List.mem_of_getElem? (i := 40) rfl) rfl
theorem w_521 : (Jvm.Cond.instanceMethod ({ cls := "EchoPantry$History", name := "row", desc := "(I)LEchoPantry$State;" } : Jvm.MethodName)) ∈ TBL := tk_3 (List.mem_of_getElem? (i := 41) rfl) rfl
theorem w_522 : (Jvm.Cond.selects "EchoPantry$History" ({ cls := "EchoPantry$History", name := "row", desc := "(I)LEchoPantry$State;" } : Jvm.MethodName) ({ cls := "EchoPantry$History", name := "row", desc := "(I)LEchoPantry$State;" } : Jvm.MethodName)) ∈ TBL := tk_3 (List.mem_of_getElem? (i := 42) rfl) rfl
theorem w_523 : (Jvm.Cond.code ({ cls := "EchoPantry$History", name := "row", desc := "(I)LEchoPantry$State;" } : Jvm.MethodName) prog_5_method_2_code (2 : Nat) (Option.some (Jvm.ClassFile.FieldType.object "EchoPantry$State"))) ∈ TBL := tk_3 (List.mem_of_getElem? (i := 43) rfl) rfl
theorem w_524 : (Jvm.Cond.methodLink "EchoPantry$History" (25 : Nat) ({ cls := "java/lang/Math", name := "floorMod", desc := "(II)I" } : Jvm.MethodName)) ∈ TBL := tk_3 (List.mem_of_getElem? (i := 44) rfl) rfl
theorem w_525 : (Jvm.Cond.static ({ cls := "java/lang/Math", name := "floorMod", desc := "(II)I" } : Jvm.MethodName)) ∈ TBL := tk_3 (List.mem_of_getElem? (i := 45) rfl) rfl
theorem w_526 : (Jvm.Cond.code ({ cls := "java/lang/Math", name := "floorMod", desc := "(II)I" } : Jvm.MethodName) prog_25_method_50_code (3 : Nat) (Option.some Jvm.ClassFile.FieldType.int)) ∈ TBL := tk_3 (List.mem_of_getElem? (i := 46) rfl) rfl
theorem w_527 : (Jvm.Cond.methodLink "EchoPantry$History" (42 : Nat) ({ cls := "EchoPantry$State", name := "copyFrom", desc := "(LEchoPantry$State;)V" } : Jvm.MethodName)) ∈ TBL := tk_3 (List.mem_of_getElem? (i := 47) rfl) rfl
theorem w_528 : (Jvm.Cond.instanceMethod ({ cls := "EchoPantry$State", name := "copyFrom", desc := "(LEchoPantry$State;)V" } : Jvm.MethodName)) ∈ TBL := tk_3 (List.mem_of_getElem? (i := 48) rfl) rfl
theorem w_529 : (Jvm.Cond.selects "EchoPantry$State" ({ cls := "EchoPantry$State", name := "copyFrom", desc := "(LEchoPantry$State;)V" } : Jvm.MethodName) ({ cls := "EchoPantry$State", name := "copyFrom", desc := "(LEchoPantry$State;)V" } : Jvm.MethodName)) ∈ TBL := tk_3 (List.mem_of_getElem? (i := 49) rfl) rfl
theorem w_530 : (Jvm.Cond.code ({ cls := "EchoPantry$State", name := "copyFrom", desc := "(LEchoPantry$State;)V" } : Jvm.MethodName) prog_8_method_2_code (3 : Nat) (Option.none : Option Jvm.ClassFile.FieldType)) ∈ TBL := tk_3 (List.mem_of_getElem? (i := 50) rfl) rfl
theorem w_531 : (Jvm.Cond.methodLink "EchoPantry$State" (51 : Nat) ({ cls := "EchoPantry$Jar", name := "copyFrom", desc := "(LEchoPantry$Jar;)V" } : Jvm.MethodName)) ∈ TBL := tk_3 (List.mem_of_getElem? (i := 51) rfl) rfl
theorem w_532 : (Jvm.Cond.instanceMethod ({ cls := "EchoPantry$Jar", name := "copyFrom", desc := "(LEchoPantry$Jar;)V" } : Jvm.MethodName)) ∈ TBL := tk_3 (List.mem_of_getElem? (i := 52) rfl) rfl
theorem w_533 : (Jvm.Cond.selects "EchoPantry$Jar" ({ cls := "EchoPantry$Jar", name := "copyFrom", desc := "(LEchoPantry$Jar;)V" } : Jvm.MethodName) ({ cls := "EchoPantry$Jar", name := "copyFrom", desc := "(LEchoPantry$Jar;)V" } : Jvm.MethodName)) ∈ TBL := tk_3 (List.mem_of_getElem? (i := 53) rfl) rfl
theorem w_534 : (Jvm.Cond.code ({ cls := "EchoPantry$Jar", name := "copyFrom", desc := "(LEchoPantry$Jar;)V" } : Jvm.MethodName) prog_6_method_2_code (2 : Nat) (Option.none : Option Jvm.ClassFile.FieldType)) ∈ TBL := tk_3 (List.mem_of_getElem? (i := 54) rfl) rfl
theorem w_535 : (Jvm.Cond.methodLink "EchoPantry$State" (55 : Nat) ({ cls := "EchoPantry$Shelf", name := "copyFrom", desc := "(LEchoPantry$Shelf;)V" } : Jvm.MethodName)) ∈ TBL := tk_3 (List.mem_of_getElem? (i := 55) rfl) rfl
theorem w_536 : (Jvm.Cond.instanceMethod ({ cls := "EchoPantry$Shelf", name := "copyFrom", desc := "(LEchoPantry$Shelf;)V" } : Jvm.MethodName)) ∈ TBL := tk_3 (List.mem_of_getElem? (i := 56) rfl) rfl
theorem w_537 : (Jvm.Cond.selects "EchoPantry$Shelf" ({ cls := "EchoPantry$Shelf", name := "copyFrom", desc := "(LEchoPantry$Shelf;)V" } : Jvm.MethodName) ({ cls := "EchoPantry$Shelf", name := "copyFrom", desc := "(LEchoPantry$Shelf;)V" } : Jvm.MethodName)) ∈ TBL := tk_3 (List.mem_of_getElem? (i := 57) rfl) rfl
theorem w_538 : (Jvm.Cond.code ({ cls := "EchoPantry$Shelf", name := "copyFrom", desc := "(LEchoPantry$Shelf;)V" } : Jvm.MethodName) prog_7_method_2_code (3 : Nat) (Option.none : Option Jvm.ClassFile.FieldType)) ∈ TBL := tk_3 (List.mem_of_getElem? (i := 58) rfl) rfl
theorem w_539 : (Jvm.Cond.methodLink "EchoPantry$Shelf" (39 : Nat) ({ cls := "EchoPantry$Echo", name := "copyFrom", desc := "(LEchoPantry$Echo;)V" } : Jvm.MethodName)) ∈ TBL := tk_3 (List.mem_of_getElem? (i := 59) rfl) rfl
theorem w_540 : (Jvm.Cond.instanceMethod ({ cls := "EchoPantry$Echo", name := "copyFrom", desc := "(LEchoPantry$Echo;)V" } : Jvm.MethodName)) ∈ TBL := tk_3 (List.mem_of_getElem? (i := 60) rfl) rfl
theorem w_541 : (Jvm.Cond.selects "EchoPantry$Echo" ({ cls := "EchoPantry$Echo", name := "copyFrom", desc := "(LEchoPantry$Echo;)V" } : Jvm.MethodName) ({ cls := "EchoPantry$Echo", name := "copyFrom", desc := "(LEchoPantry$Echo;)V" } : Jvm.MethodName)) ∈ TBL := tk_3 (List.mem_of_getElem? (i := 61) rfl) rfl
theorem w_542 : (Jvm.Cond.code ({ cls := "EchoPantry$Echo", name := "copyFrom", desc := "(LEchoPantry$Echo;)V" } : Jvm.MethodName) prog_4_method_2_code (2 : Nat) (Option.none : Option Jvm.ClassFile.FieldType)) ∈ TBL := tk_3 (List.mem_of_getElem? (i := 62) rfl) rfl
theorem w_543 : (Jvm.Cond.methodLink "EchoPantry$State" (58 : Nat) ({ cls := "EchoPantry$Warming", name := "copyFrom", desc := "(LEchoPantry$Warming;)V" } : Jvm.MethodName)) ∈ TBL := tk_3 (List.mem_of_getElem? (i := 63) rfl) rfl
theorem w_544 : (Jvm.Cond.instanceMethod ({ cls := "EchoPantry$Warming", name := "copyFrom", desc := "(LEchoPantry$Warming;)V" } : Jvm.MethodName)) ∈ TBL := tk_3 (List.mem_of_getElem? (i := 64) rfl) rfl
theorem w_545 : (Jvm.Cond.selects "EchoPantry$Warming" ({ cls := "EchoPantry$Warming", name := "copyFrom", desc := "(LEchoPantry$Warming;)V" } : Jvm.MethodName) ({ cls := "EchoPantry$Warming", name := "copyFrom", desc := "(LEchoPantry$Warming;)V" } : Jvm.MethodName)) ∈ TBL := tk_3 (List.mem_of_getElem? (i := 65) rfl) rfl
theorem w_546 : (Jvm.Cond.code ({ cls := "EchoPantry$Warming", name := "copyFrom", desc := "(LEchoPantry$Warming;)V" } : Jvm.MethodName) prog_9_method_2_code (2 : Nat) (Option.none : Option Jvm.ClassFile.FieldType)) ∈ TBL := tk_3 (List.mem_of_getElem? (i := 66) rfl) rfl
theorem w_547 : (Jvm.Cond.methodLink "EchoPantry$History" (35 : Nat) ({ cls := "EchoPantry$History", name := "confirm", desc := "()V" } : Jvm.MethodName)) ∈ TBL := tk_3 (List.mem_of_getElem? (i := 67) rfl) rfl
theorem w_548 : (Jvm.Cond.instanceMethod ({ cls := "EchoPantry$History", name := "confirm", desc := "()V" } : Jvm.MethodName)) ∈ TBL := tk_3 (List.mem_of_getElem? (i := 68) rfl) rfl
theorem w_549 : (Jvm.Cond.selects "EchoPantry$History" ({ cls := "EchoPantry$History", name := "confirm", desc := "()V" } : Jvm.MethodName) ({ cls := "EchoPantry$History", name := "confirm", desc := "()V" } : Jvm.MethodName)) ∈ TBL := tk_3 (List.mem_of_getElem? (i := 69) rfl) rfl
theorem w_550 : (Jvm.Cond.code ({ cls := "EchoPantry$History", name := "confirm", desc := "()V" } : Jvm.MethodName) prog_5_method_6_code (1 : Nat) (Option.none : Option Jvm.ClassFile.FieldType)) ∈ TBL := tk_3 (List.mem_of_getElem? (i := 70) rfl) rfl
theorem w_551 : (Jvm.Cond.methodLink "EchoPantry" (63 : Nat) ({ cls := "EchoPantry$State", name := "putJar", desc := "(CI)I" } : Jvm.MethodName)) ∈ TBL := tk_3 (List.mem_of_getElem? (i := 71) rfl) rfl
theorem w_552 : (Jvm.Cond.instanceMethod ({ cls := "EchoPantry$State", name := "putJar", desc := "(CI)I" } : Jvm.MethodName)) ∈ TBL := tk_3 (List.mem_of_getElem? (i := 72) rfl) rfl
theorem w_553 : (Jvm.Cond.selects "EchoPantry$State" ({ cls := "EchoPantry$State", name := "putJar", desc := "(CI)I" } : Jvm.MethodName) ({ cls := "EchoPantry$State", name := "putJar", desc := "(CI)I" } : Jvm.MethodName)) ∈ TBL := tk_3 (List.mem_of_getElem? (i := 73) rfl) rfl
theorem w_554 : (Jvm.Cond.code ({ cls := "EchoPantry$State", name := "putJar", desc := "(CI)I" } : Jvm.MethodName) prog_8_method_17_code (4 : Nat) (Option.some Jvm.ClassFile.FieldType.int)) ∈ TBL := tk_3 (List.mem_of_getElem? (i := 74) rfl) rfl
theorem w_555 : (Jvm.Cond.methodLink "EchoPantry$State" (99 : Nat) ({ cls := "EchoPantry$Jar", name := "speak", desc := "(II)V" } : Jvm.MethodName)) ∈ TBL := tk_3 (List.mem_of_getElem? (i := 75) rfl) rfl
theorem w_556 : (Jvm.Cond.instanceMethod ({ cls := "EchoPantry$Jar", name := "speak", desc := "(II)V" } : Jvm.MethodName)) ∈ TBL := tk_3 (List.mem_of_getElem? (i := 76) rfl) rfl
theorem w_557 : (Jvm.Cond.selects "EchoPantry$Jar" ({ cls := "EchoPantry$Jar", name := "speak", desc := "(II)V" } : Jvm.MethodName) ({ cls := "EchoPantry$Jar", name := "speak", desc := "(II)V" } : Jvm.MethodName)) ∈ TBL := tk_3 (List.mem_of_getElem? (i := 77) rfl) rfl
theorem w_558 : (Jvm.Cond.code ({ cls := "EchoPantry$Jar", name := "speak", desc := "(II)V" } : Jvm.MethodName) prog_6_method_3_code (3 : Nat) (Option.none : Option Jvm.ClassFile.FieldType)) ∈ TBL := tk_3 (List.mem_of_getElem? (i := 78) rfl) rfl
theorem w_561 : (Jvm.Cond.instanceMethod ({ cls := "java/lang/String", name := "charAt", desc := "(I)C" } : Jvm.MethodName)) ∈ TBL := tk_3 (List.mem_of_getElem? (i := 81) rfl) rfl
theorem w_562 : (Jvm.Cond.selects "java/lang/String" ({ cls := "java/lang/String", name := "charAt", desc := "(I)C" } : Jvm.MethodName) ({ cls := "java/lang/String", name := "charAt", desc := "(I)C" } : Jvm.MethodName)) ∈ TBL := tk_3 (List.mem_of_getElem? (i := 82) rfl) rfl
theorem w_563 : (Jvm.Cond.code ({ cls := "java/lang/String", name := "charAt", desc := "(I)C" } : Jvm.MethodName) prog_28_method_56_code (2 : Nat) (Option.some Jvm.ClassFile.FieldType.char)) ∈ TBL := tk_3 (List.mem_of_getElem? (i := 83) rfl) rfl
theorem w_606 : (Jvm.Cond.methodLink "EchoPantry" (103 : Nat) ({ cls := "EchoPantry$State", name := "newShelfFault", desc := "(IIC)I" } : Jvm.MethodName)) ∈ TBL := tk_3 (List.mem_of_getElem? (i := 126) rfl) rfl
theorem w_607 : (Jvm.Cond.instanceMethod ({ cls := "EchoPantry$State", name := "newShelfFault", desc := "(IIC)I" } : Jvm.MethodName)) ∈ TBL := tk_3 (List.mem_of_getElem? (i := 127) rfl) rfl
theorem w_608 : (Jvm.Cond.selects "EchoPantry$State" ({ cls := "EchoPantry$State", name := "newShelfFault", desc := "(IIC)I" } : Jvm.MethodName) ({ cls := "EchoPantry$State", name := "newShelfFault", desc := "(IIC)I" } : Jvm.MethodName)) ∈ TBL := tk_3 (List.mem_of_getElem? (i := 128) rfl) rfl
theorem w_609 : (Jvm.Cond.code ({ cls := "EchoPantry$State", name := "newShelfFault", desc := "(IIC)I" } : Jvm.MethodName) prog_8_method_10_code (4 : Nat) (Option.some Jvm.ClassFile.FieldType.int)) ∈ TBL := tk_3 (List.mem_of_getElem? (i := 129) rfl) rfl
theorem w_610 : (Jvm.Cond.methodLink "EchoPantry$State" (78 : Nat) ({ cls := "EchoPantry$State", name := "countShelves", desc := "()I" } : Jvm.MethodName)) ∈ TBL := tk_3 (List.mem_of_getElem? (i := 130) rfl) rfl
theorem w_611 : (Jvm.Cond.instanceMethod ({ cls := "EchoPantry$State", name := "countShelves", desc := "()I" } : Jvm.MethodName)) ∈ TBL := tk_3 (List.mem_of_getElem? (i := 131) rfl) rfl
theorem w_612 : (Jvm.Cond.selects "EchoPantry$State" ({ cls := "EchoPantry$State", name := "countShelves", desc := "()I" } : Jvm.MethodName) ({ cls := "EchoPantry$State", name := "countShelves", desc := "()I" } : Jvm.MethodName)) ∈ TBL := tk_3 (List.mem_of_getElem? (i := 132) rfl) rfl
theorem w_613 : (Jvm.Cond.code ({ cls := "EchoPantry$State", name := "countShelves", desc := "()I" } : Jvm.MethodName) prog_8_method_20_code (6 : Nat) (Option.some Jvm.ClassFile.FieldType.int)) ∈ TBL := tk_3 (List.mem_of_getElem? (i := 133) rfl) rfl
theorem w_614 : (Jvm.Cond.methodLink "EchoPantry" (107 : Nat) ({ cls := "EchoPantry$State", name := "putShelf", desc := "(IIC)I" } : Jvm.MethodName)) ∈ TBL := tk_3 (List.mem_of_getElem? (i := 134) rfl) rfl
theorem w_615 : (Jvm.Cond.instanceMethod ({ cls := "EchoPantry$State", name := "putShelf", desc := "(IIC)I" } : Jvm.MethodName)) ∈ TBL := tk_3 (List.mem_of_getElem? (i := 135) rfl) rfl
theorem w_616 : (Jvm.Cond.selects "EchoPantry$State" ({ cls := "EchoPantry$State", name := "putShelf", desc := "(IIC)I" } : Jvm.MethodName) ({ cls := "EchoPantry$State", name := "putShelf", desc := "(IIC)I" } : Jvm.MethodName)) ∈ TBL := tk_3 (List.mem_of_getElem? (i := 136) rfl) rfl
theorem w_617 : (Jvm.Cond.code ({ cls := "EchoPantry$State", name := "putShelf", desc := "(IIC)I" } : Jvm.MethodName) prog_8_method_21_code (5 : Nat) (Option.some Jvm.ClassFile.FieldType.int)) ∈ TBL := tk_3 (List.mem_of_getElem? (i := 137) rfl) rfl
theorem w_618 : (Jvm.Cond.methodLink "EchoPantry$State" (118 : Nat) ({ cls := "EchoPantry$Shelf", name := "fill", desc := "(IIC)V" } : Jvm.MethodName)) ∈ TBL := tk_3 (List.mem_of_getElem? (i := 138) rfl) rfl
theorem w_619 : (Jvm.Cond.instanceMethod ({ cls := "EchoPantry$Shelf", name := "fill", desc := "(IIC)V" } : Jvm.MethodName)) ∈ TBL := tk_3 (List.mem_of_getElem? (i := 139) rfl) rfl
theorem w_620 : (Jvm.Cond.selects "EchoPantry$Shelf" ({ cls := "EchoPantry$Shelf", name := "fill", desc := "(IIC)V" } : Jvm.MethodName) ({ cls := "EchoPantry$Shelf", name := "fill", desc := "(IIC)V" } : Jvm.MethodName)) ∈ TBL := tk_3 (List.mem_of_getElem? (i := 140) rfl) rfl
theorem w_621 : (Jvm.Cond.code ({ cls := "EchoPantry$Shelf", name := "fill", desc := "(IIC)V" } : Jvm.MethodName) prog_7_method_3_code (4 : Nat) (Option.none : Option Jvm.ClassFile.FieldType)) ∈ TBL := tk_3 (List.mem_of_getElem? (i := 141) rfl) rfl
theorem w_651 : (Jvm.Cond.methodLink "EchoPantry" (190 : Nat) ({ cls := "EchoPantry$State", name := "hearFault", desc := "(IC)I" } : Jvm.MethodName)) ∈ TBL := tk_3 (List.mem_of_getElem? (i := 171) rfl) rfl
theorem w_652 : (Jvm.Cond.instanceMethod ({ cls := "EchoPantry$State", name := "hearFault", desc := "(IC)I" } : Jvm.MethodName)) ∈ TBL := tk_3 (List.mem_of_getElem? (i := 172) rfl) rfl
theorem w_653 : (Jvm.Cond.selects "EchoPantry$State" ({ cls := "EchoPantry$State", name := "hearFault", desc := "(IC)I" } : Jvm.MethodName) ({ cls := "EchoPantry$State", name := "hearFault", desc := "(IC)I" } : Jvm.MethodName)) ∈ TBL := tk_3 (List.mem_of_getElem? (i := 173) rfl) rfl
theorem w_654 : (Jvm.Cond.code ({ cls := "EchoPantry$State", name := "hearFault", desc := "(IC)I" } : Jvm.MethodName) prog_8_method_12_code (3 : Nat) (Option.some Jvm.ClassFile.FieldType.int)) ∈ TBL := tk_3 (List.mem_of_getElem? (i := 174) rfl) rfl
theorem w_655 : (Jvm.Cond.methodLink "EchoPantry$State" (81 : Nat) ({ cls := "EchoPantry$State", name := "findShelf", desc := "(I)LEchoPantry$Shelf;" } : Jvm.MethodName)) ∈ TBL := tk_3 (List.mem_of_getElem? (i := 175) rfl) rfl
theorem w_656 : (Jvm.Cond.instanceMethod ({ cls := "EchoPantry$State", name := "findShelf", desc := "(I)LEchoPantry$Shelf;" } : Jvm.MethodName)) ∈ TBL := tk_3 (List.mem_of_getElem? (i := 176) rfl) rfl
theorem w_657 : (Jvm.Cond.selects "EchoPantry$State" ({ cls := "EchoPantry$State", name := "findShelf", desc := "(I)LEchoPantry$Shelf;" } : Jvm.MethodName) ({ cls := "EchoPantry$State", name := "findShelf", desc := "(I)LEchoPantry$Shelf;" } : Jvm.MethodName)) ∈ TBL := tk_3 (List.mem_of_getElem? (i := 177) rfl) rfl
theorem w_658 : (Jvm.Cond.code ({ cls := "EchoPantry$State", name := "findShelf", desc := "(I)LEchoPantry$Shelf;" } : Jvm.MethodName) prog_8_method_5_code (3 : Nat) (Option.some (Jvm.ClassFile.FieldType.object "EchoPantry$Shelf"))) ∈ TBL := tk_3 (List.mem_of_getElem? (i := 178) rfl) rfl
theorem w_659 : (Jvm.Cond.methodLink "EchoPantry$State" (85 : Nat) ({ cls := "EchoPantry$State", name := "jarFault", desc := "(C)I" } : Jvm.MethodName)) ∈ TBL := tk_3 (List.mem_of_getElem? (i := 179) rfl) rfl
theorem w_660 : (Jvm.Cond.instanceMethod ({ cls := "EchoPantry$State", name := "jarFault", desc := "(C)I" } : Jvm.MethodName)) ∈ TBL := tk_3 (List.mem_of_getElem? (i := 180) rfl) rfl
theorem w_661 : (Jvm.Cond.selects "EchoPantry$State" ({ cls := "EchoPantry$State", name := "jarFault", desc := "(C)I" } : Jvm.MethodName) ({ cls := "EchoPantry$State", name := "jarFault", desc := "(C)I" } : Jvm.MethodName)) ∈ TBL := tk_3 (List.mem_of_getElem? (i := 181) rfl) rfl
theorem w_662 : (Jvm.Cond.code ({ cls := "EchoPantry$State", name := "jarFault", desc := "(C)I" } : Jvm.MethodName) prog_8_method_8_code (2 : Nat) (Option.some Jvm.ClassFile.FieldType.int)) ∈ TBL := tk_3 (List.mem_of_getElem? (i := 182) rfl) rfl
theorem w_663 : (Jvm.Cond.methodLink "EchoPantry" (194 : Nat) ({ cls := "EchoPantry$State", name := "listenTo", desc := "(IC)I" } : Jvm.MethodName)) ∈ TBL := tk_3 (List.mem_of_getElem? (i := 183) rfl) rfl
theorem w_664 : (Jvm.Cond.instanceMethod ({ cls := "EchoPantry$State", name := "listenTo", desc := "(IC)I" } : Jvm.MethodName)) ∈ TBL := tk_3 (List.mem_of_getElem? (i := 184) rfl) rfl
theorem w_665 : (Jvm.Cond.selects "EchoPantry$State" ({ cls := "EchoPantry$State", name := "listenTo", desc := "(IC)I" } : Jvm.MethodName) ({ cls := "EchoPantry$State", name := "listenTo", desc := "(IC)I" } : Jvm.MethodName)) ∈ TBL := tk_3 (List.mem_of_getElem? (i := 185) rfl) rfl
theorem w_666 : (Jvm.Cond.code ({ cls := "EchoPantry$State", name := "listenTo", desc := "(IC)I" } : Jvm.MethodName) prog_8_method_27_code (8 : Nat) (Option.some Jvm.ClassFile.FieldType.int)) ∈ TBL := tk_3 (List.mem_of_getElem? (i := 186) rfl) rfl
theorem w_667 : (Jvm.Cond.methodLink "EchoPantry$State" (103 : Nat) ({ cls := "EchoPantry$Shelf", name := "find", desc := "(C)LEchoPantry$Echo;" } : Jvm.MethodName)) ∈ TBL := tk_3 (List.mem_of_getElem? (i := 187) rfl) rfl
theorem w_668 : (Jvm.Cond.instanceMethod ({ cls := "EchoPantry$Shelf", name := "find", desc := "(C)LEchoPantry$Echo;" } : Jvm.MethodName)) ∈ TBL := tk_3 (List.mem_of_getElem? (i := 188) rfl) rfl
theorem w_669 : (Jvm.Cond.selects "EchoPantry$Shelf" ({ cls := "EchoPantry$Shelf", name := "find", desc := "(C)LEchoPantry$Echo;" } : Jvm.MethodName) ({ cls := "EchoPantry$Shelf", name := "find", desc := "(C)LEchoPantry$Echo;" } : Jvm.MethodName)) ∈ TBL := tk_3 (List.mem_of_getElem? (i := 189) rfl) rfl
theorem w_670 : (Jvm.Cond.code ({ cls := "EchoPantry$Shelf", name := "find", desc := "(C)LEchoPantry$Echo;" } : Jvm.MethodName) prog_7_method_5_code (6 : Nat) (Option.some (Jvm.ClassFile.FieldType.object "EchoPantry$Echo"))) ∈ TBL := tk_3 (List.mem_of_getElem? (i := 190) rfl) rfl
theorem w_671 : (Jvm.Cond.methodLink "EchoPantry$State" (148 : Nat) ({ cls := "EchoPantry$Shelf", name := "outcome", desc := "(CI)C" } : Jvm.MethodName)) ∈ TBL := tk_3 (List.mem_of_getElem? (i := 191) rfl) rfl
theorem w_672 : (Jvm.Cond.instanceMethod ({ cls := "EchoPantry$Shelf", name := "outcome", desc := "(CI)C" } : Jvm.MethodName)) ∈ TBL := tk_3 (List.mem_of_getElem? (i := 192) rfl) rfl
theorem w_673 : (Jvm.Cond.selects "EchoPantry$Shelf" ({ cls := "EchoPantry$Shelf", name := "outcome", desc := "(CI)C" } : Jvm.MethodName) ({ cls := "EchoPantry$Shelf", name := "outcome", desc := "(CI)C" } : Jvm.MethodName)) ∈ TBL := tk_3 (List.mem_of_getElem? (i := 193) rfl) rfl
theorem w_674 : (Jvm.Cond.code ({ cls := "EchoPantry$Shelf", name := "outcome", desc := "(CI)C" } : Jvm.MethodName) prog_7_method_9_code (4 : Nat) (Option.some Jvm.ClassFile.FieldType.char)) ∈ TBL := tk_3 (List.mem_of_getElem? (i := 194) rfl) rfl
theorem w_675 : (Jvm.Cond.methodLink "EchoPantry$Shelf" (47 : Nat) ({ cls := "EchoPantry$Shelf", name := "find", desc := "(C)LEchoPantry$Echo;" } : Jvm.MethodName)) ∈ TBL := tk_3 (List.mem_of_getElem? (i := 195) rfl) rfl
theorem w_676 : (Jvm.Cond.methodLink "EchoPantry$Shelf" (55 : Nat) ({ cls := "EchoPantry$Shelf", name := "hasOutlived", desc := "(LEchoPantry$Echo;I)Z" } : Jvm.MethodName)) ∈ TBL := tk_3 (List.mem_of_getElem? (i := 196) rfl) rfl
theorem w_677 : (Jvm.Cond.instanceMethod ({ cls := "EchoPantry$Shelf", name := "hasOutlived", desc := "(LEchoPantry$Echo;I)Z" } : Jvm.MethodName)) ∈ TBL := tk_3 (List.mem_of_getElem? (i := 197) rfl) rfl
theorem w_678 : (Jvm.Cond.selects "EchoPantry$Shelf" ({ cls := "EchoPantry$Shelf", name := "hasOutlived", desc := "(LEchoPantry$Echo;I)Z" } : Jvm.MethodName) ({ cls := "EchoPantry$Shelf", name := "hasOutlived", desc := "(LEchoPantry$Echo;I)Z" } : Jvm.MethodName)) ∈ TBL := tk_3 (List.mem_of_getElem? (i := 198) rfl) rfl
theorem w_679 : (Jvm.Cond.code ({ cls := "EchoPantry$Shelf", name := "hasOutlived", desc := "(LEchoPantry$Echo;I)Z" } : Jvm.MethodName) prog_7_method_8_code (3 : Nat) (Option.some Jvm.ClassFile.FieldType.boolean)) ∈ TBL := tk_3 (List.mem_of_getElem? (i := 199) rfl) rfl
theorem w_680 : (Jvm.Cond.methodLink "EchoPantry$Shelf" (51 : Nat) ({ cls := "EchoPantry$Echo", name := "age", desc := "(I)I" } : Jvm.MethodName)) ∈ TBL := tk_3 (List.mem_of_getElem? (i := 200) rfl) rfl
theorem w_681 : (Jvm.Cond.instanceMethod ({ cls := "EchoPantry$Echo", name := "age", desc := "(I)I" } : Jvm.MethodName)) ∈ TBL := tk_3 (List.mem_of_getElem? (i := 201) rfl) rfl
theorem w_682 : (Jvm.Cond.selects "EchoPantry$Echo" ({ cls := "EchoPantry$Echo", name := "age", desc := "(I)I" } : Jvm.MethodName) ({ cls := "EchoPantry$Echo", name := "age", desc := "(I)I" } : Jvm.MethodName)) ∈ TBL := tk_3 (List.mem_of_getElem? (i := 202) rfl) rfl
theorem w_683 : (Jvm.Cond.code ({ cls := "EchoPantry$Echo", name := "age", desc := "(I)I" } : Jvm.MethodName) prog_4_method_4_code (2 : Nat) (Option.some Jvm.ClassFile.FieldType.int)) ∈ TBL := tk_3 (List.mem_of_getElem? (i := 203) rfl) rfl
theorem w_684 : (Jvm.Cond.methodLink "EchoPantry$State" (152 : Nat) ({ cls := "EchoPantry$State", name := "countOutcome", desc := "(C)V" } : Jvm.MethodName)) ∈ TBL := tk_3 (List.mem_of_getElem? (i := 204) rfl) rfl
theorem w_685 : (Jvm.Cond.instanceMethod ({ cls := "EchoPantry$State", name := "countOutcome", desc := "(C)V" } : Jvm.MethodName)) ∈ TBL := tk_3 (List.mem_of_getElem? (i := 205) rfl) rfl
theorem w_686 : (Jvm.Cond.selects "EchoPantry$State" ({ cls := "EchoPantry$State", name := "countOutcome", desc := "(C)V" } : Jvm.MethodName) ({ cls := "EchoPantry$State", name := "countOutcome", desc := "(C)V" } : Jvm.MethodName)) ∈ TBL := tk_3 (List.mem_of_getElem? (i := 206) rfl) rfl
theorem w_687 : (Jvm.Cond.code ({ cls := "EchoPantry$State", name := "countOutcome", desc := "(C)V" } : Jvm.MethodName) prog_8_method_28_code (2 : Nat) (Option.none : Option Jvm.ClassFile.FieldType)) ∈ TBL := tk_3 (List.mem_of_getElem? (i := 207) rfl) rfl
theorem w_688 : (Jvm.Cond.methodLink "EchoPantry$State" (156 : Nat) ({ cls := "EchoPantry$Shelf", name := "hit", desc := "(LEchoPantry$Echo;I)I" } : Jvm.MethodName)) ∈ TBL := tk_3 (List.mem_of_getElem? (i := 208) rfl) rfl
theorem w_689 : (Jvm.Cond.instanceMethod ({ cls := "EchoPantry$Shelf", name := "hit", desc := "(LEchoPantry$Echo;I)I" } : Jvm.MethodName)) ∈ TBL := tk_3 (List.mem_of_getElem? (i := 209) rfl) rfl
theorem w_690 : (Jvm.Cond.selects "EchoPantry$Shelf" ({ cls := "EchoPantry$Shelf", name := "hit", desc := "(LEchoPantry$Echo;I)I" } : Jvm.MethodName) ({ cls := "EchoPantry$Shelf", name := "hit", desc := "(LEchoPantry$Echo;I)I" } : Jvm.MethodName)) ∈ TBL := tk_3 (List.mem_of_getElem? (i := 210) rfl) rfl
theorem w_691 : (Jvm.Cond.code ({ cls := "EchoPantry$Shelf", name := "hit", desc := "(LEchoPantry$Echo;I)I" } : Jvm.MethodName) prog_7_method_16_code (3 : Nat) (Option.some Jvm.ClassFile.FieldType.int)) ∈ TBL := tk_3 (List.mem_of_getElem? (i := 211) rfl) rfl
theorem w_692 : (Jvm.Cond.methodLink "EchoPantry$Shelf" (73 : Nat) ({ cls := "EchoPantry$Shelf", name := "sort", desc := "()V" } : Jvm.MethodName)) ∈ TBL := tk_3 (List.mem_of_getElem? (i := 212) rfl) rfl
theorem w_693 : (Jvm.Cond.instanceMethod ({ cls := "EchoPantry$Shelf", name := "sort", desc := "()V" } : Jvm.MethodName)) ∈ TBL := tk_3 (List.mem_of_getElem? (i := 213) rfl) rfl
theorem w_694 : (Jvm.Cond.selects "EchoPantry$Shelf" ({ cls := "EchoPantry$Shelf", name := "sort", desc := "()V" } : Jvm.MethodName) ({ cls := "EchoPantry$Shelf", name := "sort", desc := "()V" } : Jvm.MethodName)) ∈ TBL := tk_3 (List.mem_of_getElem? (i := 214) rfl) rfl
theorem w_695 : (Jvm.Cond.code ({ cls := "EchoPantry$Shelf", name := "sort", desc := "()V" } : Jvm.MethodName) prog_7_method_13_code (5 : Nat) (Option.none : Option Jvm.ClassFile.FieldType)) ∈ TBL := tk_3 (List.mem_of_getElem? (i := 215) rfl) rfl
theorem w_696 : (Jvm.Cond.methodLink "EchoPantry$Shelf" (62 : Nat) ({ cls := "EchoPantry$Shelf", name := "isBefore", desc := "(LEchoPantry$Echo;LEchoPantry$Echo;)Z" } : Jvm.MethodName)) ∈ TBL := tk_3 (List.mem_of_getElem? (i := 216) rfl) rfl
theorem w_697 : (Jvm.Cond.instanceMethod ({ cls := "EchoPantry$Shelf", name := "isBefore", desc := "(LEchoPantry$Echo;LEchoPantry$Echo;)Z" } : Jvm.MethodName)) ∈ TBL := tk_3 (List.mem_of_getElem? (i := 217) rfl) rfl
theorem w_698 : (Jvm.Cond.selects "EchoPantry$Shelf" ({ cls := "EchoPantry$Shelf", name := "isBefore", desc := "(LEchoPantry$Echo;LEchoPantry$Echo;)Z" } : Jvm.MethodName) ({ cls := "EchoPantry$Shelf", name := "isBefore", desc := "(LEchoPantry$Echo;LEchoPantry$Echo;)Z" } : Jvm.MethodName)) ∈ TBL := tk_3 (List.mem_of_getElem? (i := 218) rfl) rfl
theorem w_699 : (Jvm.Cond.code ({ cls := "EchoPantry$Shelf", name := "isBefore", desc := "(LEchoPantry$Echo;LEchoPantry$Echo;)Z" } : Jvm.MethodName) prog_7_method_12_code (3 : Nat) (Option.some Jvm.ClassFile.FieldType.boolean)) ∈ TBL := tk_3 (List.mem_of_getElem? (i := 219) rfl) rfl
theorem w_700 : (Jvm.Cond.methodLink "EchoPantry$State" (160 : Nat) ({ cls := "EchoPantry$State", name := "fetch", desc := "(IC)Z" } : Jvm.MethodName)) ∈ TBL := tk_3 (List.mem_of_getElem? (i := 220) rfl) rfl
theorem w_701 : (Jvm.Cond.instanceMethod ({ cls := "EchoPantry$State", name := "fetch", desc := "(IC)Z" } : Jvm.MethodName)) ∈ TBL := tk_3 (List.mem_of_getElem? (i := 221) rfl) rfl
theorem w_702 : (Jvm.Cond.selects "EchoPantry$State" ({ cls := "EchoPantry$State", name := "fetch", desc := "(IC)Z" } : Jvm.MethodName) ({ cls := "EchoPantry$State", name := "fetch", desc := "(IC)Z" } : Jvm.MethodName)) ∈ TBL := tk_3 (List.mem_of_getElem? (i := 222) rfl) rfl
theorem w_703 : (Jvm.Cond.code ({ cls := "EchoPantry$State", name := "fetch", desc := "(IC)Z" } : Jvm.MethodName) prog_8_method_29_code (5 : Nat) (Option.some Jvm.ClassFile.FieldType.boolean)) ∈ TBL := tk_3 (List.mem_of_getElem? (i := 223) rfl) rfl
theorem w_704 : (Jvm.Cond.methodLink "EchoPantry$State" (164 : Nat) ({ cls := "EchoPantry$Shelf", name := "fetch", desc := "(CLEchoPantry$Jar;II)V" } : Jvm.MethodName)) ∈ TBL := tk_3 (List.mem_of_getElem? (i := 224) rfl) rfl
theorem w_705 : (Jvm.Cond.instanceMethod ({ cls := "EchoPantry$Shelf", name := "fetch", desc := "(CLEchoPantry$Jar;II)V" } : Jvm.MethodName)) ∈ TBL := tk_3 (List.mem_of_getElem? (i := 225) rfl) rfl
theorem w_706 : (Jvm.Cond.selects "EchoPantry$Shelf" ({ cls := "EchoPantry$Shelf", name := "fetch", desc := "(CLEchoPantry$Jar;II)V" } : Jvm.MethodName) ({ cls := "EchoPantry$Shelf", name := "fetch", desc := "(CLEchoPantry$Jar;II)V" } : Jvm.MethodName)) ∈ TBL := tk_3 (List.mem_of_getElem? (i := 226) rfl) rfl
theorem w_707 : (Jvm.Cond.code ({ cls := "EchoPantry$Shelf", name := "fetch", desc := "(CLEchoPantry$Jar;II)V" } : Jvm.MethodName) prog_7_method_15_code (10 : Nat) (Option.none : Option Jvm.ClassFile.FieldType)) ∈ TBL := tk_3 (List.mem_of_getElem? (i := 227) rfl) rfl
theorem w_708 : (Jvm.Cond.methodLink "EchoPantry$Shelf" (76 : Nat) ({ cls := "EchoPantry$Shelf", name := "countEchoes", desc := "()I" } : Jvm.MethodName)) ∈ TBL := tk_3 (List.mem_of_getElem? (i := 228) rfl) rfl
theorem w_709 : (Jvm.Cond.instanceMethod ({ cls := "EchoPantry$Shelf", name := "countEchoes", desc := "()I" } : Jvm.MethodName)) ∈ TBL := tk_3 (List.mem_of_getElem? (i := 229) rfl) rfl
theorem w_710 : (Jvm.Cond.selects "EchoPantry$Shelf" ({ cls := "EchoPantry$Shelf", name := "countEchoes", desc := "()I" } : Jvm.MethodName) ({ cls := "EchoPantry$Shelf", name := "countEchoes", desc := "()I" } : Jvm.MethodName)) ∈ TBL := tk_3 (List.mem_of_getElem? (i := 230) rfl) rfl
theorem w_711 : (Jvm.Cond.code ({ cls := "EchoPantry$Shelf", name := "countEchoes", desc := "()I" } : Jvm.MethodName) prog_7_method_4_code (6 : Nat) (Option.some Jvm.ClassFile.FieldType.int)) ∈ TBL := tk_3 (List.mem_of_getElem? (i := 231) rfl) rfl
theorem w_712 : (Jvm.Cond.methodLink "EchoPantry$Shelf" (80 : Nat) ({ cls := "EchoPantry$Shelf", name := "firstInOrder", desc := "()LEchoPantry$Echo;" } : Jvm.MethodName)) ∈ TBL := tk_3 (List.mem_of_getElem? (i := 232) rfl) rfl
theorem w_713 : (Jvm.Cond.instanceMethod ({ cls := "EchoPantry$Shelf", name := "firstInOrder", desc := "()LEchoPantry$Echo;" } : Jvm.MethodName)) ∈ TBL := tk_3 (List.mem_of_getElem? (i := 233) rfl) rfl
theorem w_714 : (Jvm.Cond.selects "EchoPantry$Shelf" ({ cls := "EchoPantry$Shelf", name := "firstInOrder", desc := "()LEchoPantry$Echo;" } : Jvm.MethodName) ({ cls := "EchoPantry$Shelf", name := "firstInOrder", desc := "()LEchoPantry$Echo;" } : Jvm.MethodName)) ∈ TBL := tk_3 (List.mem_of_getElem? (i := 234) rfl) rfl
theorem w_715 : (Jvm.Cond.code ({ cls := "EchoPantry$Shelf", name := "firstInOrder", desc := "()LEchoPantry$Echo;" } : Jvm.MethodName) prog_7_method_10_code (2 : Nat) (Option.some (Jvm.ClassFile.FieldType.object "EchoPantry$Echo"))) ∈ TBL := tk_3 (List.mem_of_getElem? (i := 235) rfl) rfl
theorem w_716 : (Jvm.Cond.methodLink "EchoPantry$Shelf" (84 : Nat) ({ cls := "EchoPantry$Echo", name := "fill", desc := "(CLEchoPantry$Jar;II)V" } : Jvm.MethodName)) ∈ TBL := tk_3 (List.mem_of_getElem? (i := 236) rfl) rfl
theorem w_717 : (Jvm.Cond.instanceMethod ({ cls := "EchoPantry$Echo", name := "fill", desc := "(CLEchoPantry$Jar;II)V" } : Jvm.MethodName)) ∈ TBL := tk_3 (List.mem_of_getElem? (i := 237) rfl) rfl
theorem w_718 : (Jvm.Cond.selects "EchoPantry$Echo" ({ cls := "EchoPantry$Echo", name := "fill", desc := "(CLEchoPantry$Jar;II)V" } : Jvm.MethodName) ({ cls := "EchoPantry$Echo", name := "fill", desc := "(CLEchoPantry$Jar;II)V" } : Jvm.MethodName)) ∈ TBL := tk_3 (List.mem_of_getElem? (i := 238) rfl) rfl
theorem w_719 : (Jvm.Cond.code ({ cls := "EchoPantry$Echo", name := "fill", desc := "(CLEchoPantry$Jar;II)V" } : Jvm.MethodName) prog_4_method_3_code (5 : Nat) (Option.none : Option Jvm.ClassFile.FieldType)) ∈ TBL := tk_3 (List.mem_of_getElem? (i := 239) rfl) rfl
theorem w_727 : (Jvm.Cond.methodLink "EchoPantry" (73 : Nat) ({ cls := "EchoPantry$State", name := "wordFault", desc := "(CI)I" } : Jvm.MethodName)) ∈ TBL := tk_4 (List.mem_of_getElem? (i := 7) rfl) rfl
theorem w_728 : (Jvm.Cond.instanceMethod ({ cls := "EchoPantry$State", name := "wordFault", desc := "(CI)I" } : Jvm.MethodName)) ∈ TBL := tk_4 (List.mem_of_getElem? (i := 8) rfl) rfl
theorem w_729 : (Jvm.Cond.selects "EchoPantry$State" ({ cls := "EchoPantry$State", name := "wordFault", desc := "(CI)I" } : Jvm.MethodName) ({ cls := "EchoPantry$State", name := "wordFault", desc := "(CI)I" } : Jvm.MethodName)) ∈ TBL := tk_4 (List.mem_of_getElem? (i := 9) rfl) rfl
theorem w_730 : (Jvm.Cond.code ({ cls := "EchoPantry$State", name := "wordFault", desc := "(CI)I" } : Jvm.MethodName) prog_8_method_9_code (3 : Nat) (Option.some Jvm.ClassFile.FieldType.int)) ∈ TBL := tk_4 (List.mem_of_getElem? (i := 10) rfl) rfl
theorem w_731 : (Jvm.Cond.methodLink "EchoPantry" (76 : Nat) ({ cls := "EchoPantry$State", name := "speak", desc := "(CI)I" } : Jvm.MethodName)) ∈ TBL := tk_4 (List.mem_of_getElem? (i := 11) rfl) rfl
theorem w_732 : (Jvm.Cond.instanceMethod ({ cls := "EchoPantry$State", name := "speak", desc := "(CI)I" } : Jvm.MethodName)) ∈ TBL := tk_4 (List.mem_of_getElem? (i := 12) rfl) rfl
theorem w_733 : (Jvm.Cond.selects "EchoPantry$State" ({ cls := "EchoPantry$State", name := "speak", desc := "(CI)I" } : Jvm.MethodName) ({ cls := "EchoPantry$State", name := "speak", desc := "(CI)I" } : Jvm.MethodName)) ∈ TBL := tk_4 (List.mem_of_getElem? (i := 13) rfl) rfl
theorem w_734 : (Jvm.Cond.code ({ cls := "EchoPantry$State", name := "speak", desc := "(CI)I" } : Jvm.MethodName) prog_8_method_19_code (9 : Nat) (Option.some Jvm.ClassFile.FieldType.int)) ∈ TBL := tk_4 (List.mem_of_getElem? (i := 14) rfl) rfl
theorem w_735 : (Jvm.Cond.methodLink "EchoPantry$State" (114 : Nat) ({ cls := "EchoPantry$Shelf", name := "openLid", desc := "(C)Z" } : Jvm.MethodName)) ∈ TBL := tk_4 (List.mem_of_getElem? (i := 15) rfl) rfl
theorem w_736 : (Jvm.Cond.instanceMethod ({ cls := "EchoPantry$Shelf", name := "openLid", desc := "(C)Z" } : Jvm.MethodName)) ∈ TBL := tk_4 (List.mem_of_getElem? (i := 16) rfl) rfl
theorem w_737 : (Jvm.Cond.selects "EchoPantry$Shelf" ({ cls := "EchoPantry$Shelf", name := "openLid", desc := "(C)Z" } : Jvm.MethodName) ({ cls := "EchoPantry$Shelf", name := "openLid", desc := "(C)Z" } : Jvm.MethodName)) ∈ TBL := tk_4 (List.mem_of_getElem? (i := 17) rfl) rfl
theorem w_738 : (Jvm.Cond.code ({ cls := "EchoPantry$Shelf", name := "openLid", desc := "(C)Z" } : Jvm.MethodName) prog_7_method_17_code (3 : Nat) (Option.some Jvm.ClassFile.FieldType.boolean)) ∈ TBL := tk_4 (List.mem_of_getElem? (i := 18) rfl) rfl
theorem w_746 : (Jvm.Cond.methodLink "EchoPantry" (201 : Nat) ({ cls := "EchoPantry$State", name := "warmFault", desc := "(ICI)I" } : Jvm.MethodName)) ∈ TBL := tk_4 (List.mem_of_getElem? (i := 26) rfl) rfl
theorem w_747 : (Jvm.Cond.instanceMethod ({ cls := "EchoPantry$State", name := "warmFault", desc := "(ICI)I" } : Jvm.MethodName)) ∈ TBL := tk_4 (List.mem_of_getElem? (i := 27) rfl) rfl
theorem w_748 : (Jvm.Cond.selects "EchoPantry$State" ({ cls := "EchoPantry$State", name := "warmFault", desc := "(ICI)I" } : Jvm.MethodName) ({ cls := "EchoPantry$State", name := "warmFault", desc := "(ICI)I" } : Jvm.MethodName)) ∈ TBL := tk_4 (List.mem_of_getElem? (i := 28) rfl) rfl
theorem w_749 : (Jvm.Cond.code ({ cls := "EchoPantry$State", name := "warmFault", desc := "(ICI)I" } : Jvm.MethodName) prog_8_method_13_code (5 : Nat) (Option.some Jvm.ClassFile.FieldType.int)) ∈ TBL := tk_4 (List.mem_of_getElem? (i := 29) rfl) rfl
theorem w_750 : (Jvm.Cond.methodLink "EchoPantry$State" (89 : Nat) ({ cls := "EchoPantry$State", name := "hearFault", desc := "(IC)I" } : Jvm.MethodName)) ∈ TBL := tk_4 (List.mem_of_getElem? (i := 30) rfl) rfl
theorem w_751 : (Jvm.Cond.methodLink "EchoPantry$State" (93 : Nat) ({ cls := "EchoPantry$State", name := "countWarmings", desc := "()I" } : Jvm.MethodName)) ∈ TBL := tk_4 (List.mem_of_getElem? (i := 31) rfl) rfl
theorem w_752 : (Jvm.Cond.instanceMethod ({ cls := "EchoPantry$State", name := "countWarmings", desc := "()I" } : Jvm.MethodName)) ∈ TBL := tk_4 (List.mem_of_getElem? (i := 32) rfl) rfl
theorem w_753 : (Jvm.Cond.selects "EchoPantry$State" ({ cls := "EchoPantry$State", name := "countWarmings", desc := "()I" } : Jvm.MethodName) ({ cls := "EchoPantry$State", name := "countWarmings", desc := "()I" } : Jvm.MethodName)) ∈ TBL := tk_4 (List.mem_of_getElem? (i := 33) rfl) rfl
theorem w_754 : (Jvm.Cond.code ({ cls := "EchoPantry$State", name := "countWarmings", desc := "()I" } : Jvm.MethodName) prog_8_method_30_code (6 : Nat) (Option.some Jvm.ClassFile.FieldType.int)) ∈ TBL := tk_4 (List.mem_of_getElem? (i := 34) rfl) rfl
theorem w_755 : (Jvm.Cond.methodLink "EchoPantry" (205 : Nat) ({ cls := "EchoPantry$State", name := "planWarming", desc := "(ICI)I" } : Jvm.MethodName)) ∈ TBL := tk_4 (List.mem_of_getElem? (i := 35) rfl) rfl
theorem w_756 : (Jvm.Cond.instanceMethod ({ cls := "EchoPantry$State", name := "planWarming", desc := "(ICI)I" } : Jvm.MethodName)) ∈ TBL := tk_4 (List.mem_of_getElem? (i := 36) rfl) rfl
theorem w_757 : (Jvm.Cond.selects "EchoPantry$State" ({ cls := "EchoPantry$State", name := "planWarming", desc := "(ICI)I" } : Jvm.MethodName) ({ cls := "EchoPantry$State", name := "planWarming", desc := "(ICI)I" } : Jvm.MethodName)) ∈ TBL := tk_4 (List.mem_of_getElem? (i := 37) rfl) rfl
theorem w_758 : (Jvm.Cond.code ({ cls := "EchoPantry$State", name := "planWarming", desc := "(ICI)I" } : Jvm.MethodName) prog_8_method_31_code (10 : Nat) (Option.some Jvm.ClassFile.FieldType.int)) ∈ TBL := tk_4 (List.mem_of_getElem? (i := 38) rfl) rfl
theorem w_759 : (Jvm.Cond.methodLink "EchoPantry$State" (172 : Nat) ({ cls := "EchoPantry$State", name := "sortWarmings", desc := "()V" } : Jvm.MethodName)) ∈ TBL := tk_4 (List.mem_of_getElem? (i := 39) rfl) rfl
theorem w_760 : (Jvm.Cond.instanceMethod ({ cls := "EchoPantry$State", name := "sortWarmings", desc := "()V" } : Jvm.MethodName)) ∈ TBL := tk_4 (List.mem_of_getElem? (i := 40) rfl) rfl
theorem w_761 : (Jvm.Cond.selects "EchoPantry$State" ({ cls := "EchoPantry$State", name := "sortWarmings", desc := "()V" } : Jvm.MethodName) ({ cls := "EchoPantry$State", name := "sortWarmings", desc := "()V" } : Jvm.MethodName)) ∈ TBL := tk_4 (List.mem_of_getElem? (i := 41) rfl) rfl
theorem w_762 : (Jvm.Cond.code ({ cls := "EchoPantry$State", name := "sortWarmings", desc := "()V" } : Jvm.MethodName) prog_8_method_33_code (5 : Nat) (Option.none : Option Jvm.ClassFile.FieldType)) ∈ TBL := tk_4 (List.mem_of_getElem? (i := 42) rfl) rfl
theorem w_763 : (Jvm.Cond.methodLink "EchoPantry$State" (175 : Nat) ({ cls := "EchoPantry$Warming", name := "isBefore", desc := "(LEchoPantry$Warming;)Z" } : Jvm.MethodName)) ∈ TBL := tk_4 (List.mem_of_getElem? (i := 43) rfl) rfl
theorem w_764 : (Jvm.Cond.instanceMethod ({ cls := "EchoPantry$Warming", name := "isBefore", desc := "(LEchoPantry$Warming;)Z" } : Jvm.MethodName)) ∈ TBL := tk_4 (List.mem_of_getElem? (i := 44) rfl) rfl
theorem w_765 : (Jvm.Cond.selects "EchoPantry$Warming" ({ cls := "EchoPantry$Warming", name := "isBefore", desc := "(LEchoPantry$Warming;)Z" } : Jvm.MethodName) ({ cls := "EchoPantry$Warming", name := "isBefore", desc := "(LEchoPantry$Warming;)Z" } : Jvm.MethodName)) ∈ TBL := tk_4 (List.mem_of_getElem? (i := 45) rfl) rfl
theorem w_766 : (Jvm.Cond.code ({ cls := "EchoPantry$Warming", name := "isBefore", desc := "(LEchoPantry$Warming;)Z" } : Jvm.MethodName) prog_9_method_3_code (2 : Nat) (Option.some Jvm.ClassFile.FieldType.boolean)) ∈ TBL := tk_4 (List.mem_of_getElem? (i := 46) rfl) rfl
theorem w_774 : (Jvm.Cond.methodLink "EchoPantry" (219 : Nat) ({ cls := "EchoPantry$State", name := "passFault", desc := "(I)I" } : Jvm.MethodName)) ∈ TBL := tk_4 (List.mem_of_getElem? (i := 54) rfl) rfl
theorem w_775 : (Jvm.Cond.instanceMethod ({ cls := "EchoPantry$State", name := "passFault", desc := "(I)I" } : Jvm.MethodName)) ∈ TBL := tk_4 (List.mem_of_getElem? (i := 55) rfl) rfl
theorem w_776 : (Jvm.Cond.selects "EchoPantry$State" ({ cls := "EchoPantry$State", name := "passFault", desc := "(I)I" } : Jvm.MethodName) ({ cls := "EchoPantry$State", name := "passFault", desc := "(I)I" } : Jvm.MethodName)) ∈ TBL := tk_4 (List.mem_of_getElem? (i := 56) rfl) rfl
theorem w_777 : (Jvm.Cond.code ({ cls := "EchoPantry$State", name := "passFault", desc := "(I)I" } : Jvm.MethodName) prog_8_method_14_code (2 : Nat) (Option.some Jvm.ClassFile.FieldType.int)) ∈ TBL := tk_4 (List.mem_of_getElem? (i := 57) rfl) rfl
theorem w_778 : (Jvm.Cond.methodLink "EchoPantry" (222 : Nat) ({ cls := "EchoPantry$State", name := "letPass", desc := "(I)I" } : Jvm.MethodName)) ∈ TBL := tk_4 (List.mem_of_getElem? (i := 58) rfl) rfl
theorem w_779 : (Jvm.Cond.instanceMethod ({ cls := "EchoPantry$State", name := "letPass", desc := "(I)I" } : Jvm.MethodName)) ∈ TBL := tk_4 (List.mem_of_getElem? (i := 59) rfl) rfl
theorem w_780 : (Jvm.Cond.selects "EchoPantry$State" ({ cls := "EchoPantry$State", name := "letPass", desc := "(I)I" } : Jvm.MethodName) ({ cls := "EchoPantry$State", name := "letPass", desc := "(I)I" } : Jvm.MethodName)) ∈ TBL := tk_4 (List.mem_of_getElem? (i := 60) rfl) rfl
theorem w_781 : (Jvm.Cond.code ({ cls := "EchoPantry$State", name := "letPass", desc := "(I)I" } : Jvm.MethodName) prog_8_method_34_code (8 : Nat) (Option.some Jvm.ClassFile.FieldType.int)) ∈ TBL := tk_4 (List.mem_of_getElem? (i := 61) rfl) rfl
theorem w_789 : (Jvm.Cond.methodLink "EchoPantry" (110 : Nat) ({ cls := "EchoPantry", name := "wantShelf", desc := "(I)LEchoPantry$Shelf;" } : Jvm.MethodName)) ∈ TBL := tk_4 (List.mem_of_getElem? (i := 69) rfl) rfl
theorem w_791 : (Jvm.Cond.instanceMethod ({ cls := "EchoPantry", name := "wantShelf", desc := "(I)LEchoPantry$Shelf;" } : Jvm.MethodName)) ∈ TBL := tk_4 (List.mem_of_getElem? (i := 71) rfl) rfl
theorem w_792 : (Jvm.Cond.code ({ cls := "EchoPantry", name := "wantShelf", desc := "(I)LEchoPantry$Shelf;" } : Jvm.MethodName) prog_1_method_52_code (3 : Nat) (Option.some (Jvm.ClassFile.FieldType.object "EchoPantry$Shelf"))) ∈ TBL := tk_4 (List.mem_of_getElem? (i := 72) rfl) rfl
theorem w_793 : (Jvm.Cond.methodLink "EchoPantry" (260 : Nat) ({ cls := "EchoPantry$State", name := "findShelf", desc := "(I)LEchoPantry$Shelf;" } : Jvm.MethodName)) ∈ TBL := tk_4 (List.mem_of_getElem? (i := 73) rfl) rfl
theorem w_801 : (Jvm.Cond.methodLink "EchoPantry" (79 : Nat) ({ cls := "EchoPantry$State", name := "countJars", desc := "()I" } : Jvm.MethodName)) ∈ TBL := tk_4 (List.mem_of_getElem? (i := 81) rfl) rfl
theorem w_809 : (Jvm.Cond.methodLink "EchoPantry" (94 : Nat) ({ cls := "EchoPantry", name := "wantJar", desc := "(C)LEchoPantry$Jar;" } : Jvm.MethodName)) ∈ TBL := tk_4 (List.mem_of_getElem? (i := 89) rfl) rfl
theorem w_811 : (Jvm.Cond.instanceMethod ({ cls := "EchoPantry", name := "wantJar", desc := "(C)LEchoPantry$Jar;" } : Jvm.MethodName)) ∈ TBL := tk_4 (List.mem_of_getElem? (i := 91) rfl) rfl
theorem w_812 : (Jvm.Cond.code ({ cls := "EchoPantry", name := "wantJar", desc := "(C)LEchoPantry$Jar;" } : Jvm.MethodName) prog_1_method_51_code (3 : Nat) (Option.some (Jvm.ClassFile.FieldType.object "EchoPantry$Jar"))) ∈ TBL := tk_4 (List.mem_of_getElem? (i := 92) rfl) rfl
theorem w_813 : (Jvm.Cond.methodLink "EchoPantry" (357 : Nat) ({ cls := "EchoPantry$State", name := "findJar", desc := "(C)LEchoPantry$Jar;" } : Jvm.MethodName)) ∈ TBL := tk_4 (List.mem_of_getElem? (i := 93) rfl) rfl
theorem w_821 : (Jvm.Cond.methodLink "EchoPantry" (83 : Nat) ({ cls := "EchoPantry$State", name := "jarLetter", desc := "(I)C" } : Jvm.MethodName)) ∈ TBL := tk_4 (List.mem_of_getElem? (i := 101) rfl) rfl
theorem w_822 : (Jvm.Cond.instanceMethod ({ cls := "EchoPantry$State", name := "jarLetter", desc := "(I)C" } : Jvm.MethodName)) ∈ TBL := tk_4 (List.mem_of_getElem? (i := 102) rfl) rfl
theorem w_823 : (Jvm.Cond.selects "EchoPantry$State" ({ cls := "EchoPantry$State", name := "jarLetter", desc := "(I)C" } : Jvm.MethodName) ({ cls := "EchoPantry$State", name := "jarLetter", desc := "(I)C" } : Jvm.MethodName)) ∈ TBL := tk_4 (List.mem_of_getElem? (i := 103) rfl) rfl
theorem w_824 : (Jvm.Cond.code ({ cls := "EchoPantry$State", name := "jarLetter", desc := "(I)C" } : Jvm.MethodName) prog_8_method_16_code (4 : Nat) (Option.some Jvm.ClassFile.FieldType.char)) ∈ TBL := tk_4 (List.mem_of_getElem? (i := 104) rfl) rfl
theorem w_833 : (Jvm.Cond.methodLink "EchoPantry" (119 : Nat) ({ cls := "EchoPantry$State", name := "countShelves", desc := "()I" } : Jvm.MethodName)) ∈ TBL := tk_4 (List.mem_of_getElem? (i := 113) rfl) rfl
theorem w_841 : (Jvm.Cond.methodLink "EchoPantry" (143 : Nat) ({ cls := "EchoPantry$Shelf", name := "find", desc := "(C)LEchoPantry$Echo;" } : Jvm.MethodName)) ∈ TBL := tk_4 (List.mem_of_getElem? (i := 121) rfl) rfl
theorem w_849 : (Jvm.Cond.methodLink "EchoPantry" (147 : Nat) ({ cls := "EchoPantry", name := "wantEcho", desc := "(IC)LEchoPantry$Echo;" } : Jvm.MethodName)) ∈ TBL := tk_4 (List.mem_of_getElem? (i := 129) rfl) rfl
theorem w_851 : (Jvm.Cond.instanceMethod ({ cls := "EchoPantry", name := "wantEcho", desc := "(IC)LEchoPantry$Echo;" } : Jvm.MethodName)) ∈ TBL := tk_4 (List.mem_of_getElem? (i := 131) rfl) rfl
theorem w_852 : (Jvm.Cond.code ({ cls := "EchoPantry", name := "wantEcho", desc := "(IC)LEchoPantry$Echo;" } : Jvm.MethodName) prog_1_method_53_code (4 : Nat) (Option.some (Jvm.ClassFile.FieldType.object "EchoPantry$Echo"))) ∈ TBL := tk_4 (List.mem_of_getElem? (i := 132) rfl) rfl
theorem w_861 : (Jvm.Cond.methodLink "EchoPantry" (157 : Nat) ({ cls := "EchoPantry$Echo", name := "age", desc := "(I)I" } : Jvm.MethodName)) ∈ TBL := tk_4 (List.mem_of_getElem? (i := 141) rfl) rfl
theorem w_883 : (Jvm.Cond.methodLink "EchoPantry" (135 : Nat) ({ cls := "EchoPantry$Shelf", name := "letterAt", desc := "(I)C" } : Jvm.MethodName)) ∈ TBL := tk_4 (List.mem_of_getElem? (i := 163) rfl) rfl
theorem w_884 : (Jvm.Cond.instanceMethod ({ cls := "EchoPantry$Shelf", name := "letterAt", desc := "(I)C" } : Jvm.MethodName)) ∈ TBL := tk_4 (List.mem_of_getElem? (i := 164) rfl) rfl
theorem w_885 : (Jvm.Cond.selects "EchoPantry$Shelf" ({ cls := "EchoPantry$Shelf", name := "letterAt", desc := "(I)C" } : Jvm.MethodName) ({ cls := "EchoPantry$Shelf", name := "letterAt", desc := "(I)C" } : Jvm.MethodName)) ∈ TBL := tk_4 (List.mem_of_getElem? (i := 165) rfl) rfl
theorem w_886 : (Jvm.Cond.code ({ cls := "EchoPantry$Shelf", name := "letterAt", desc := "(I)C" } : Jvm.MethodName) prog_7_method_6_code (4 : Nat) (Option.some Jvm.ClassFile.FieldType.char)) ∈ TBL := tk_4 (List.mem_of_getElem? (i := 166) rfl) rfl
theorem w_898 : (Jvm.Cond.methodLink "EchoPantry" (171 : Nat) ({ cls := "EchoPantry$State", name := "isTrueByCount", desc := "(LEchoPantry$Echo;)Z" } : Jvm.MethodName)) ∈ TBL := tk_4 (List.mem_of_getElem? (i := 178) rfl) rfl
theorem w_899 : (Jvm.Cond.instanceMethod ({ cls := "EchoPantry$State", name := "isTrueByCount", desc := "(LEchoPantry$Echo;)Z" } : Jvm.MethodName)) ∈ TBL := tk_4 (List.mem_of_getElem? (i := 179) rfl) rfl
theorem w_900 : (Jvm.Cond.selects "EchoPantry$State" ({ cls := "EchoPantry$State", name := "isTrueByCount", desc := "(LEchoPantry$Echo;)Z" } : Jvm.MethodName) ({ cls := "EchoPantry$State", name := "isTrueByCount", desc := "(LEchoPantry$Echo;)Z" } : Jvm.MethodName)) ∈ TBL := tk_4 (List.mem_of_getElem? (i := 180) rfl) rfl
theorem w_901 : (Jvm.Cond.code ({ cls := "EchoPantry$State", name := "isTrueByCount", desc := "(LEchoPantry$Echo;)Z" } : Jvm.MethodName) prog_8_method_24_code (3 : Nat) (Option.some Jvm.ClassFile.FieldType.boolean)) ∈ TBL := tk_4 (List.mem_of_getElem? (i := 181) rfl) rfl
theorem w_916 : (Jvm.Cond.methodLink "EchoPantry" (175 : Nat) ({ cls := "EchoPantry$State", name := "isTrueByOrder", desc := "(LEchoPantry$Echo;)Z" } : Jvm.MethodName)) ∈ TBL := tk_4 (List.mem_of_getElem? (i := 196) rfl) rfl
theorem w_917 : (Jvm.Cond.instanceMethod ({ cls := "EchoPantry$State", name := "isTrueByOrder", desc := "(LEchoPantry$Echo;)Z" } : Jvm.MethodName)) ∈ TBL := tk_4 (List.mem_of_getElem? (i := 197) rfl) rfl
theorem w_918 : (Jvm.Cond.selects "EchoPantry$State" ({ cls := "EchoPantry$State", name := "isTrueByOrder", desc := "(LEchoPantry$Echo;)Z" } : Jvm.MethodName) ({ cls := "EchoPantry$State", name := "isTrueByOrder", desc := "(LEchoPantry$Echo;)Z" } : Jvm.MethodName)) ∈ TBL := tk_4 (List.mem_of_getElem? (i := 198) rfl) rfl
theorem w_919 : (Jvm.Cond.code ({ cls := "EchoPantry$State", name := "isTrueByOrder", desc := "(LEchoPantry$Echo;)Z" } : Jvm.MethodName) prog_8_method_25_code (3 : Nat) (Option.some Jvm.ClassFile.FieldType.boolean)) ∈ TBL := tk_4 (List.mem_of_getElem? (i := 199) rfl) rfl
theorem w_927 : (Jvm.Cond.methodLink "EchoPantry" (164 : Nat) ({ cls := "EchoPantry$Shelf", name := "hasOutlived", desc := "(LEchoPantry$Echo;I)Z" } : Jvm.MethodName)) ∈ TBL := tk_4 (List.mem_of_getElem? (i := 207) rfl) rfl
theorem w_939 : (Jvm.Cond.methodLink "EchoPantry" (197 : Nat) ({ cls := "EchoPantry$Shelf", name := "outcome", desc := "(CI)C" } : Jvm.MethodName)) ∈ TBL := tk_4 (List.mem_of_getElem? (i := 219) rfl) rfl
theorem w_947 : (Jvm.Cond.methodLink "EchoPantry" (178 : Nat) ({ cls := "EchoPantry$Shelf", name := "firstInOrder", desc := "()LEchoPantry$Echo;" } : Jvm.MethodName)) ∈ TBL := tk_4 (List.mem_of_getElem? (i := 227) rfl) rfl
theorem w_956 : (Jvm.Cond.methodLink "EchoPantry" (132 : Nat) ({ cls := "EchoPantry$Shelf", name := "countEchoes", desc := "()I" } : Jvm.MethodName)) ∈ TBL := tk_4 (List.mem_of_getElem? (i := 236) rfl) rfl
theorem w_971 : (Jvm.Cond.methodLink "EchoPantry" (187 : Nat) ({ cls := "EchoPantry$Shelf", name := "firstByScan", desc := "()LEchoPantry$Echo;" } : Jvm.MethodName)) ∈ TBL := tk_5 (List.mem_of_getElem? (i := 11) rfl) rfl
theorem w_972 : (Jvm.Cond.instanceMethod ({ cls := "EchoPantry$Shelf", name := "firstByScan", desc := "()LEchoPantry$Echo;" } : Jvm.MethodName)) ∈ TBL := tk_5 (List.mem_of_getElem? (i := 12) rfl) rfl
theorem w_973 : (Jvm.Cond.selects "EchoPantry$Shelf" ({ cls := "EchoPantry$Shelf", name := "firstByScan", desc := "()LEchoPantry$Echo;" } : Jvm.MethodName) ({ cls := "EchoPantry$Shelf", name := "firstByScan", desc := "()LEchoPantry$Echo;" } : Jvm.MethodName)) ∈ TBL := tk_5 (List.mem_of_getElem? (i := 13) rfl) rfl
theorem w_974 : (Jvm.Cond.code ({ cls := "EchoPantry$Shelf", name := "firstByScan", desc := "()LEchoPantry$Echo;" } : Jvm.MethodName) prog_7_method_11_code (6 : Nat) (Option.some (Jvm.ClassFile.FieldType.object "EchoPantry$Echo"))) ∈ TBL := tk_5 (List.mem_of_getElem? (i := 14) rfl) rfl
theorem w_989 : (Jvm.Cond.methodLink "EchoPantry" (255 : Nat) ({ cls := "EchoPantry$Shelf", name := "sumOfAges", desc := "(I)I" } : Jvm.MethodName)) ∈ TBL := tk_5 (List.mem_of_getElem? (i := 29) rfl) rfl
theorem w_990 : (Jvm.Cond.instanceMethod ({ cls := "EchoPantry$Shelf", name := "sumOfAges", desc := "(I)I" } : Jvm.MethodName)) ∈ TBL := tk_5 (List.mem_of_getElem? (i := 30) rfl) rfl
theorem w_991 : (Jvm.Cond.selects "EchoPantry$Shelf" ({ cls := "EchoPantry$Shelf", name := "sumOfAges", desc := "(I)I" } : Jvm.MethodName) ({ cls := "EchoPantry$Shelf", name := "sumOfAges", desc := "(I)I" } : Jvm.MethodName)) ∈ TBL := tk_5 (List.mem_of_getElem? (i := 31) rfl) rfl
theorem w_992 : (Jvm.Cond.code ({ cls := "EchoPantry$Shelf", name := "sumOfAges", desc := "(I)I" } : Jvm.MethodName) prog_7_method_7_code (7 : Nat) (Option.some Jvm.ClassFile.FieldType.int)) ∈ TBL := tk_5 (List.mem_of_getElem? (i := 32) rfl) rfl
theorem w_993 : (Jvm.Cond.classLink "EchoPantry" (246 : Nat) "java/lang/ArithmeticException") ∈ TBL := tk_5 (List.mem_of_getElem? (i := 33) rfl) rfl
theorem w_1013 : (Jvm.Cond.methodLink "EchoPantry" (290 : Nat) ({ cls := "EchoPantry$State", name := "isSound", desc := "(LEchoPantry$Echo;)Z" } : Jvm.MethodName)) ∈ TBL := tk_5 (List.mem_of_getElem? (i := 53) rfl) rfl
theorem w_1014 : (Jvm.Cond.instanceMethod ({ cls := "EchoPantry$State", name := "isSound", desc := "(LEchoPantry$Echo;)Z" } : Jvm.MethodName)) ∈ TBL := tk_5 (List.mem_of_getElem? (i := 54) rfl) rfl
theorem w_1015 : (Jvm.Cond.selects "EchoPantry$State" ({ cls := "EchoPantry$State", name := "isSound", desc := "(LEchoPantry$Echo;)Z" } : Jvm.MethodName) ({ cls := "EchoPantry$State", name := "isSound", desc := "(LEchoPantry$Echo;)Z" } : Jvm.MethodName)) ∈ TBL := tk_5 (List.mem_of_getElem? (i := 55) rfl) rfl
theorem w_1016 : (Jvm.Cond.code ({ cls := "EchoPantry$State", name := "isSound", desc := "(LEchoPantry$Echo;)Z" } : Jvm.MethodName) prog_8_method_26_code (3 : Nat) (Option.some Jvm.ClassFile.FieldType.boolean)) ∈ TBL := tk_5 (List.mem_of_getElem? (i := 56) rfl) rfl
theorem w_1017 : (Jvm.Cond.methodLink "EchoPantry$State" (138 : Nat) ({ cls := "EchoPantry$State", name := "isTrueByCount", desc := "(LEchoPantry$Echo;)Z" } : Jvm.MethodName)) ∈ TBL := tk_5 (List.mem_of_getElem? (i := 57) rfl) rfl
theorem w_1018 : (Jvm.Cond.methodLink "EchoPantry$State" (141 : Nat) ({ cls := "EchoPantry$State", name := "isTrueByOrder", desc := "(LEchoPantry$Echo;)Z" } : Jvm.MethodName)) ∈ TBL := tk_5 (List.mem_of_getElem? (i := 58) rfl) rfl
theorem w_1033 : (Jvm.Cond.methodLink "EchoPantry" (216 : Nat) ({ cls := "EchoPantry$State", name := "countWarmings", desc := "()I" } : Jvm.MethodName)) ∈ TBL := tk_5 (List.mem_of_getElem? (i := 73) rfl) rfl
theorem w_1041 : (Jvm.Cond.methodLink "EchoPantry" (208 : Nat) ({ cls := "EchoPantry", name := "wantWarming", desc := "(I)LEchoPantry$Warming;" } : Jvm.MethodName)) ∈ TBL := tk_5 (List.mem_of_getElem? (i := 81) rfl) rfl
theorem w_1043 : (Jvm.Cond.instanceMethod ({ cls := "EchoPantry", name := "wantWarming", desc := "(I)LEchoPantry$Warming;" } : Jvm.MethodName)) ∈ TBL := tk_5 (List.mem_of_getElem? (i := 83) rfl) rfl
theorem w_1044 : (Jvm.Cond.code ({ cls := "EchoPantry", name := "wantWarming", desc := "(I)LEchoPantry$Warming;" } : Jvm.MethodName) prog_1_method_54_code (3 : Nat) (Option.some (Jvm.ClassFile.FieldType.object "EchoPantry$Warming"))) ∈ TBL := tk_5 (List.mem_of_getElem? (i := 84) rfl) rfl
theorem w_1045 : (Jvm.Cond.methodLink "EchoPantry" (366 : Nat) ({ cls := "EchoPantry$State", name := "findWarming", desc := "(I)LEchoPantry$Warming;" } : Jvm.MethodName)) ∈ TBL := tk_5 (List.mem_of_getElem? (i := 85) rfl) rfl
theorem w_1046 : (Jvm.Cond.instanceMethod ({ cls := "EchoPantry$State", name := "findWarming", desc := "(I)LEchoPantry$Warming;" } : Jvm.MethodName)) ∈ TBL := tk_5 (List.mem_of_getElem? (i := 86) rfl) rfl
theorem w_1047 : (Jvm.Cond.selects "EchoPantry$State" ({ cls := "EchoPantry$State", name := "findWarming", desc := "(I)LEchoPantry$Warming;" } : Jvm.MethodName) ({ cls := "EchoPantry$State", name := "findWarming", desc := "(I)LEchoPantry$Warming;" } : Jvm.MethodName)) ∈ TBL := tk_5 (List.mem_of_getElem? (i := 87) rfl) rfl
theorem w_1048 : (Jvm.Cond.code ({ cls := "EchoPantry$State", name := "findWarming", desc := "(I)LEchoPantry$Warming;" } : Jvm.MethodName) prog_8_method_6_code (3 : Nat) (Option.some (Jvm.ClassFile.FieldType.object "EchoPantry$Warming"))) ∈ TBL := tk_5 (List.mem_of_getElem? (i := 88) rfl) rfl
theorem w_1076 : (Jvm.Cond.methodLink "EchoPantry" (263 : Nat) ({ cls := "EchoPantry$State", name := "rankByHits", desc := "(I)I" } : Jvm.MethodName)) ∈ TBL := tk_5 (List.mem_of_getElem? (i := 116) rfl) rfl
theorem w_1077 : (Jvm.Cond.instanceMethod ({ cls := "EchoPantry$State", name := "rankByHits", desc := "(I)I" } : Jvm.MethodName)) ∈ TBL := tk_5 (List.mem_of_getElem? (i := 117) rfl) rfl
theorem w_1078 : (Jvm.Cond.selects "EchoPantry$State" ({ cls := "EchoPantry$State", name := "rankByHits", desc := "(I)I" } : Jvm.MethodName) ({ cls := "EchoPantry$State", name := "rankByHits", desc := "(I)I" } : Jvm.MethodName)) ∈ TBL := tk_5 (List.mem_of_getElem? (i := 118) rfl) rfl
theorem w_1079 : (Jvm.Cond.code ({ cls := "EchoPantry$State", name := "rankByHits", desc := "(I)I" } : Jvm.MethodName) prog_8_method_23_code (6 : Nat) (Option.some Jvm.ClassFile.FieldType.int)) ∈ TBL := tk_5 (List.mem_of_getElem? (i := 119) rfl) rfl
theorem w_1115 : (Jvm.Cond.static ({ cls := "java/lang/Math", name := "max", desc := "(II)I" } : Jvm.MethodName)) ∈ TBL := tk_5 (List.mem_of_getElem? (i := 155) rfl) rfl
theorem w_1116 : (Jvm.Cond.code ({ cls := "java/lang/Math", name := "max", desc := "(II)I" } : Jvm.MethodName) prog_25_method_65_code (2 : Nat) (Option.some Jvm.ClassFile.FieldType.int)) ∈ TBL := tk_5 (List.mem_of_getElem? (i := 156) rfl) rfl
theorem w_1159 : (Jvm.Cond.instanceMethod ({ cls := "java/lang/String", name := "length", desc := "()I" } : Jvm.MethodName)) ∈ TBL := tk_5 (List.mem_of_getElem? (i := 199) rfl) rfl
theorem w_1160 : (Jvm.Cond.selects "java/lang/String" ({ cls := "java/lang/String", name := "length", desc := "()I" } : Jvm.MethodName) ({ cls := "java/lang/String", name := "length", desc := "()I" } : Jvm.MethodName)) ∈ TBL := tk_5 (List.mem_of_getElem? (i := 200) rfl) rfl
theorem w_1161 : (Jvm.Cond.code ({ cls := "java/lang/String", name := "length", desc := "()I" } : Jvm.MethodName) prog_28_method_54_code (1 : Nat) (Option.some Jvm.ClassFile.FieldType.int)) ∈ TBL := tk_5 (List.mem_of_getElem? (i := 201) rfl) rfl
theorem w_1202 : (Jvm.Cond.instanceMethod ({ cls := "java/lang/StringBuilder", name := "append", desc := "(C)Ljava/lang/StringBuilder;" } : Jvm.MethodName)) ∈ TBL := tk_6 (List.mem_of_getElem? (i := 2) rfl) rfl
theorem w_1203 : (Jvm.Cond.selects "java/lang/StringBuilder" ({ cls := "java/lang/StringBuilder", name := "append", desc := "(C)Ljava/lang/StringBuilder;" } : Jvm.MethodName) ({ cls := "java/lang/StringBuilder", name := "append", desc := "(C)Ljava/lang/StringBuilder;" } : Jvm.MethodName)) ∈ TBL := tk_6 (List.mem_of_getElem? (i := 3) rfl) rfl
theorem w_1204 : (Jvm.Cond.code ({ cls := "java/lang/StringBuilder", name := "append", desc := "(C)Ljava/lang/StringBuilder;" } : Jvm.MethodName) prog_29_method_14_code (2 : Nat) (Option.some (Jvm.ClassFile.FieldType.object "java/lang/StringBuilder"))) ∈ TBL := tk_6 (List.mem_of_getElem? (i := 4) rfl) rfl
theorem w_1215 : (Jvm.Cond.instanceMethod ({ cls := "java/lang/StringBuilder", name := "append", desc := "(I)Ljava/lang/StringBuilder;" } : Jvm.MethodName)) ∈ TBL := tk_6 (List.mem_of_getElem? (i := 15) rfl) rfl
theorem w_1216 : (Jvm.Cond.selects "java/lang/StringBuilder" ({ cls := "java/lang/StringBuilder", name := "append", desc := "(I)Ljava/lang/StringBuilder;" } : Jvm.MethodName) ({ cls := "java/lang/StringBuilder", name := "append", desc := "(I)Ljava/lang/StringBuilder;" } : Jvm.MethodName)) ∈ TBL := tk_6 (List.mem_of_getElem? (i := 16) rfl) rfl
theorem w_1217 : (Jvm.Cond.code ({ cls := "java/lang/StringBuilder", name := "append", desc := "(I)Ljava/lang/StringBuilder;" } : Jvm.MethodName) prog_29_method_15_code (2 : Nat) (Option.some (Jvm.ClassFile.FieldType.object "java/lang/StringBuilder"))) ∈ TBL := tk_6 (List.mem_of_getElem? (i := 17) rfl) rfl
theorem w_1262 : (Jvm.Cond.instanceMethod ({ cls := "java/lang/StringBuilder", name := "length", desc := "()I" } : Jvm.MethodName)) ∈ TBL := tk_6 (List.mem_of_getElem? (i := 62) rfl) rfl
theorem w_1263 : (Jvm.Cond.code ({ cls := "java/lang/StringBuilder", name := "length", desc := "()I" } : Jvm.MethodName) prog_29_method_93_code (1 : Nat) (Option.some Jvm.ClassFile.FieldType.int)) ∈ TBL := tk_6 (List.mem_of_getElem? (i := 63) rfl) rfl
theorem w_1308 : (Jvm.Cond.methodLink "EchoPantry" (268 : Nat) ({ cls := "java/lang/StringBuilder", name := "setLength", desc := "(I)V" } : Jvm.MethodName)) ∈ TBL := tk_6 (List.mem_of_getElem? (i := 108) rfl) rfl
theorem w_1309 : (Jvm.Cond.instanceMethod ({ cls := "java/lang/StringBuilder", name := "setLength", desc := "(I)V" } : Jvm.MethodName)) ∈ TBL := tk_6 (List.mem_of_getElem? (i := 109) rfl) rfl
theorem w_1310 : (Jvm.Cond.selects "java/lang/StringBuilder" ({ cls := "java/lang/StringBuilder", name := "setLength", desc := "(I)V" } : Jvm.MethodName) ({ cls := "java/lang/StringBuilder", name := "setLength", desc := "(I)V" } : Jvm.MethodName)) ∈ TBL := tk_6 (List.mem_of_getElem? (i := 110) rfl) rfl
theorem w_1311 : (Jvm.Cond.code ({ cls := "java/lang/StringBuilder", name := "setLength", desc := "(I)V" } : Jvm.MethodName) prog_29_method_89_code (2 : Nat) (Option.none : Option Jvm.ClassFile.FieldType)) ∈ TBL := tk_6 (List.mem_of_getElem? (i := 111) rfl) rfl
theorem w_1360 : (Jvm.Cond.methodLink "EchoPantry" (271 : Nat) ({ cls := "EchoPantry", name := "writeEcho", desc := "(LEchoPantry$Echo;Z)V" } : Jvm.MethodName)) ∈ TBL := tk_6 (List.mem_of_getElem? (i := 160) rfl) rfl
theorem w_1362 : (Jvm.Cond.instanceMethod ({ cls := "EchoPantry", name := "writeEcho", desc := "(LEchoPantry$Echo;Z)V" } : Jvm.MethodName)) ∈ TBL := tk_6 (List.mem_of_getElem? (i := 162) rfl) rfl
theorem w_1363 : (Jvm.Cond.code ({ cls := "EchoPantry", name := "writeEcho", desc := "(LEchoPantry$Echo;Z)V" } : Jvm.MethodName) prog_1_method_56_code (3 : Nat) (Option.none : Option Jvm.ClassFile.FieldType)) ∈ TBL := tk_6 (List.mem_of_getElem? (i := 163) rfl) rfl
theorem w_1364 : (Jvm.Cond.methodLink "EchoPantry" (275 : Nat) ({ cls := "java/lang/StringBuilder", name := "length", desc := "()I" } : Jvm.MethodName)) ∈ TBL := tk_6 (List.mem_of_getElem? (i := 164) rfl) rfl
theorem w_1365 : (Jvm.Cond.methodLink "EchoPantry" (375 : Nat) ({ cls := "java/lang/StringBuilder", name := "append", desc := "(C)Ljava/lang/StringBuilder;" } : Jvm.MethodName)) ∈ TBL := tk_6 (List.mem_of_getElem? (i := 165) rfl) rfl
theorem w_1366 : (Jvm.Cond.methodLink "EchoPantry" (378 : Nat) ({ cls := "java/lang/StringBuilder", name := "append", desc := "(I)Ljava/lang/StringBuilder;" } : Jvm.MethodName)) ∈ TBL := tk_6 (List.mem_of_getElem? (i := 166) rfl) rfl
theorem w_1379 : (Jvm.Cond.methodLink "EchoPantry" (280 : Nat) ({ cls := "java/lang/StringBuilder", name := "charAt", desc := "(I)C" } : Jvm.MethodName)) ∈ TBL := tk_6 (List.mem_of_getElem? (i := 179) rfl) rfl
theorem w_1380 : (Jvm.Cond.instanceMethod ({ cls := "java/lang/StringBuilder", name := "charAt", desc := "(I)C" } : Jvm.MethodName)) ∈ TBL := tk_6 (List.mem_of_getElem? (i := 180) rfl) rfl
theorem w_1381 : (Jvm.Cond.selects "java/lang/StringBuilder" ({ cls := "java/lang/StringBuilder", name := "charAt", desc := "(I)C" } : Jvm.MethodName) ({ cls := "java/lang/StringBuilder", name := "charAt", desc := "(I)C" } : Jvm.MethodName)) ∈ TBL := tk_6 (List.mem_of_getElem? (i := 181) rfl) rfl
theorem w_1382 : (Jvm.Cond.code ({ cls := "java/lang/StringBuilder", name := "charAt", desc := "(I)C" } : Jvm.MethodName) prog_29_method_88_code (2 : Nat) (Option.some Jvm.ClassFile.FieldType.char)) ∈ TBL := tk_6 (List.mem_of_getElem? (i := 182) rfl) rfl
theorem w_1410 : (Jvm.Cond.methodLink "EchoPantry" (66 : Nat) ({ cls := "EchoPantry$State", name := "jarFault", desc := "(C)I" } : Jvm.MethodName)) ∈ TBL := tk_6 (List.mem_of_getElem? (i := 210) rfl) rfl
theorem w_1411 : (Jvm.Cond.methodLink "EchoPantry" (70 : Nat) ({ cls := "EchoPantry$State", name := "dropJar", desc := "(C)I" } : Jvm.MethodName)) ∈ TBL := tk_6 (List.mem_of_getElem? (i := 211) rfl) rfl
theorem w_1412 : (Jvm.Cond.instanceMethod ({ cls := "EchoPantry$State", name := "dropJar", desc := "(C)I" } : Jvm.MethodName)) ∈ TBL := tk_6 (List.mem_of_getElem? (i := 212) rfl) rfl
theorem w_1413 : (Jvm.Cond.selects "EchoPantry$State" ({ cls := "EchoPantry$State", name := "dropJar", desc := "(C)I" } : Jvm.MethodName) ({ cls := "EchoPantry$State", name := "dropJar", desc := "(C)I" } : Jvm.MethodName)) ∈ TBL := tk_6 (List.mem_of_getElem? (i := 213) rfl) rfl
theorem w_1414 : (Jvm.Cond.code ({ cls := "EchoPantry$State", name := "dropJar", desc := "(C)I" } : Jvm.MethodName) prog_8_method_18_code (8 : Nat) (Option.some Jvm.ClassFile.FieldType.int)) ∈ TBL := tk_6 (List.mem_of_getElem? (i := 214) rfl) rfl
theorem w_1415 : (Jvm.Cond.methodLink "EchoPantry$State" (107 : Nat) ({ cls := "EchoPantry$Shelf", name := "remove", desc := "(LEchoPantry$Echo;)Z" } : Jvm.MethodName)) ∈ TBL := tk_6 (List.mem_of_getElem? (i := 215) rfl) rfl
theorem w_1416 : (Jvm.Cond.instanceMethod ({ cls := "EchoPantry$Shelf", name := "remove", desc := "(LEchoPantry$Echo;)Z" } : Jvm.MethodName)) ∈ TBL := tk_6 (List.mem_of_getElem? (i := 216) rfl) rfl
theorem w_1417 : (Jvm.Cond.selects "EchoPantry$Shelf" ({ cls := "EchoPantry$Shelf", name := "remove", desc := "(LEchoPantry$Echo;)Z" } : Jvm.MethodName) ({ cls := "EchoPantry$Shelf", name := "remove", desc := "(LEchoPantry$Echo;)Z" } : Jvm.MethodName)) ∈ TBL := tk_6 (List.mem_of_getElem? (i := 217) rfl) rfl
theorem w_1418 : (Jvm.Cond.code ({ cls := "EchoPantry$Shelf", name := "remove", desc := "(LEchoPantry$Echo;)Z" } : Jvm.MethodName) prog_7_method_14_code (2 : Nat) (Option.some Jvm.ClassFile.FieldType.boolean)) ∈ TBL := tk_6 (List.mem_of_getElem? (i := 218) rfl) rfl
theorem w_1427 : (Jvm.Cond.methodLink "EchoPantry" (212 : Nat) ({ cls := "EchoPantry$State", name := "removeWarming", desc := "(LEchoPantry$Warming;)V" } : Jvm.MethodName)) ∈ TBL := tk_6 (List.mem_of_getElem? (i := 227) rfl) rfl
theorem w_1428 : (Jvm.Cond.instanceMethod ({ cls := "EchoPantry$State", name := "removeWarming", desc := "(LEchoPantry$Warming;)V" } : Jvm.MethodName)) ∈ TBL := tk_6 (List.mem_of_getElem? (i := 228) rfl) rfl
theorem w_1429 : (Jvm.Cond.selects "EchoPantry$State" ({ cls := "EchoPantry$State", name := "removeWarming", desc := "(LEchoPantry$Warming;)V" } : Jvm.MethodName) ({ cls := "EchoPantry$State", name := "removeWarming", desc := "(LEchoPantry$Warming;)V" } : Jvm.MethodName)) ∈ TBL := tk_6 (List.mem_of_getElem? (i := 229) rfl) rfl
theorem w_1430 : (Jvm.Cond.code ({ cls := "EchoPantry$State", name := "removeWarming", desc := "(LEchoPantry$Warming;)V" } : Jvm.MethodName) prog_8_method_32_code (2 : Nat) (Option.none : Option Jvm.ClassFile.FieldType)) ∈ TBL := tk_6 (List.mem_of_getElem? (i := 230) rfl) rfl
theorem w_1446 : (Jvm.Cond.methodLink "EchoPantry" (302 : Nat) ({ cls := "EchoPantry$CommandText", name := "append", desc := "(C)I" } : Jvm.MethodName)) ∈ TBL := tk_7 (List.mem_of_getElem? (i := 6) rfl) rfl
theorem w_1447 : (Jvm.Cond.instanceMethod ({ cls := "EchoPantry$CommandText", name := "append", desc := "(C)I" } : Jvm.MethodName)) ∈ TBL := tk_7 (List.mem_of_getElem? (i := 7) rfl) rfl
theorem w_1448 : (Jvm.Cond.selects "EchoPantry$CommandText" ({ cls := "EchoPantry$CommandText", name := "append", desc := "(C)I" } : Jvm.MethodName) ({ cls := "EchoPantry$CommandText", name := "append", desc := "(C)I" } : Jvm.MethodName)) ∈ TBL := tk_7 (List.mem_of_getElem? (i := 8) rfl) rfl
theorem w_1449 : (Jvm.Cond.code ({ cls := "EchoPantry$CommandText", name := "append", desc := "(C)I" } : Jvm.MethodName) prog_3_method_2_code (2 : Nat) (Option.some Jvm.ClassFile.FieldType.int)) ∈ TBL := tk_7 (List.mem_of_getElem? (i := 9) rfl) rfl
theorem w_1457 : (Jvm.Cond.methodLink "EchoPantry" (305 : Nat) ({ cls := "EchoPantry$CommandText", name := "parse", desc := "()Z" } : Jvm.MethodName)) ∈ TBL := tk_7 (List.mem_of_getElem? (i := 17) rfl) rfl
theorem w_1458 : (Jvm.Cond.instanceMethod ({ cls := "EchoPantry$CommandText", name := "parse", desc := "()Z" } : Jvm.MethodName)) ∈ TBL := tk_7 (List.mem_of_getElem? (i := 18) rfl) rfl
theorem w_1459 : (Jvm.Cond.selects "EchoPantry$CommandText" ({ cls := "EchoPantry$CommandText", name := "parse", desc := "()Z" } : Jvm.MethodName) ({ cls := "EchoPantry$CommandText", name := "parse", desc := "()Z" } : Jvm.MethodName)) ∈ TBL := tk_7 (List.mem_of_getElem? (i := 19) rfl) rfl
theorem w_1460 : (Jvm.Cond.code ({ cls := "EchoPantry$CommandText", name := "parse", desc := "()Z" } : Jvm.MethodName) prog_3_method_4_code (5 : Nat) (Option.some Jvm.ClassFile.FieldType.boolean)) ∈ TBL := tk_7 (List.mem_of_getElem? (i := 20) rfl) rfl
theorem w_1461 : (Jvm.Cond.methodLink "EchoPantry$CommandText" (32 : Nat) ({ cls := "EchoPantry$CommandText", name := "readCommand", desc := "(LEchoPantry$Command;)Z" } : Jvm.MethodName)) ∈ TBL := tk_7 (List.mem_of_getElem? (i := 21) rfl) rfl
theorem w_1462 : (Jvm.Cond.instanceMethod ({ cls := "EchoPantry$CommandText", name := "readCommand", desc := "(LEchoPantry$Command;)Z" } : Jvm.MethodName)) ∈ TBL := tk_7 (List.mem_of_getElem? (i := 22) rfl) rfl
theorem w_1463 : (Jvm.Cond.selects "EchoPantry$CommandText" ({ cls := "EchoPantry$CommandText", name := "readCommand", desc := "(LEchoPantry$Command;)Z" } : Jvm.MethodName) ({ cls := "EchoPantry$CommandText", name := "readCommand", desc := "(LEchoPantry$Command;)Z" } : Jvm.MethodName)) ∈ TBL := tk_7 (List.mem_of_getElem? (i := 23) rfl) rfl
theorem w_1464 : (Jvm.Cond.code ({ cls := "EchoPantry$CommandText", name := "readCommand", desc := "(LEchoPantry$Command;)Z" } : Jvm.MethodName) prog_3_method_5_code (2 : Nat) (Option.some Jvm.ClassFile.FieldType.boolean)) ∈ TBL := tk_7 (List.mem_of_getElem? (i := 24) rfl) rfl
theorem w_1465 : (Jvm.Cond.methodLink "EchoPantry$CommandText" (40 : Nat) ({ cls := "EchoPantry$CommandText", name := "readKeyword", desc := "()I" } : Jvm.MethodName)) ∈ TBL := tk_7 (List.mem_of_getElem? (i := 25) rfl) rfl
theorem w_1466 : (Jvm.Cond.instanceMethod ({ cls := "EchoPantry$CommandText", name := "readKeyword", desc := "()I" } : Jvm.MethodName)) ∈ TBL := tk_7 (List.mem_of_getElem? (i := 26) rfl) rfl
theorem w_1467 : (Jvm.Cond.selects "EchoPantry$CommandText" ({ cls := "EchoPantry$CommandText", name := "readKeyword", desc := "()I" } : Jvm.MethodName) ({ cls := "EchoPantry$CommandText", name := "readKeyword", desc := "()I" } : Jvm.MethodName)) ∈ TBL := tk_7 (List.mem_of_getElem? (i := 27) rfl) rfl
theorem w_1468 : (Jvm.Cond.code ({ cls := "EchoPantry$CommandText", name := "readKeyword", desc := "()I" } : Jvm.MethodName) prog_3_method_7_code (6 : Nat) (Option.some Jvm.ClassFile.FieldType.int)) ∈ TBL := tk_7 (List.mem_of_getElem? (i := 28) rfl) rfl
theorem w_1469 : (Jvm.Cond.methodLink "EchoPantry$CommandText" (59 : Nat) ({ cls := "EchoPantry$CommandText", name := "keywordOf", desc := "(I)Ljava/lang/String;" } : Jvm.MethodName)) ∈ TBL := tk_7 (List.mem_of_getElem? (i := 29) rfl) rfl
theorem w_1470 : (Jvm.Cond.static ({ cls := "EchoPantry$CommandText", name := "keywordOf", desc := "(I)Ljava/lang/String;" } : Jvm.MethodName)) ∈ TBL := tk_7 (List.mem_of_getElem? (i := 30) rfl) rfl
theorem w_1471 : (Jvm.Cond.code ({ cls := "EchoPantry$CommandText", name := "keywordOf", desc := "(I)Ljava/lang/String;" } : Jvm.MethodName) prog_3_method_9_code (1 : Nat) (Option.some (Jvm.ClassFile.FieldType.object "java/lang/String"))) ∈ TBL := tk_7 (List.mem_of_getElem? (i := 31) rfl) rfl
theorem w_1481 : (Jvm.Cond.methodLink "EchoPantry$CommandText" (63 : Nat) ({ cls := "EchoPantry$CommandText", name := "countSame", desc := "(Ljava/lang/String;I)I" } : Jvm.MethodName)) ∈ TBL := tk_7 (List.mem_of_getElem? (i := 41) rfl) rfl
theorem w_1482 : (Jvm.Cond.instanceMethod ({ cls := "EchoPantry$CommandText", name := "countSame", desc := "(Ljava/lang/String;I)I" } : Jvm.MethodName)) ∈ TBL := tk_7 (List.mem_of_getElem? (i := 42) rfl) rfl
theorem w_1483 : (Jvm.Cond.selects "EchoPantry$CommandText" ({ cls := "EchoPantry$CommandText", name := "countSame", desc := "(Ljava/lang/String;I)I" } : Jvm.MethodName) ({ cls := "EchoPantry$CommandText", name := "countSame", desc := "(Ljava/lang/String;I)I" } : Jvm.MethodName)) ∈ TBL := tk_7 (List.mem_of_getElem? (i := 43) rfl) rfl
theorem w_1484 : (Jvm.Cond.code ({ cls := "EchoPantry$CommandText", name := "countSame", desc := "(Ljava/lang/String;I)I" } : Jvm.MethodName) prog_3_method_8_code (4 : Nat) (Option.some Jvm.ClassFile.FieldType.int)) ∈ TBL := tk_7 (List.mem_of_getElem? (i := 44) rfl) rfl
theorem w_1485 : (Jvm.Cond.methodLink "EchoPantry$CommandText" (67 : Nat) ({ cls := "java/lang/String", name := "length", desc := "()I" } : Jvm.MethodName)) ∈ TBL := tk_7 (List.mem_of_getElem? (i := 45) rfl) rfl
theorem w_1486 : (Jvm.Cond.methodLink "EchoPantry$CommandText" (77 : Nat) ({ cls := "EchoPantry$CommandText", name := "next", desc := "()C" } : Jvm.MethodName)) ∈ TBL := tk_7 (List.mem_of_getElem? (i := 46) rfl) rfl
theorem w_1487 : (Jvm.Cond.instanceMethod ({ cls := "EchoPantry$CommandText", name := "next", desc := "()C" } : Jvm.MethodName)) ∈ TBL := tk_7 (List.mem_of_getElem? (i := 47) rfl) rfl
theorem w_1488 : (Jvm.Cond.selects "EchoPantry$CommandText" ({ cls := "EchoPantry$CommandText", name := "next", desc := "()C" } : Jvm.MethodName) ({ cls := "EchoPantry$CommandText", name := "next", desc := "()C" } : Jvm.MethodName)) ∈ TBL := tk_7 (List.mem_of_getElem? (i := 48) rfl) rfl
theorem w_1489 : (Jvm.Cond.code ({ cls := "EchoPantry$CommandText", name := "next", desc := "()C" } : Jvm.MethodName) prog_3_method_6_code (1 : Nat) (Option.some Jvm.ClassFile.FieldType.char)) ∈ TBL := tk_7 (List.mem_of_getElem? (i := 49) rfl) rfl
theorem w_1490 : (Jvm.Cond.methodLink "EchoPantry$CommandText" (81 : Nat) ({ cls := "java/lang/String", name := "charAt", desc := "(I)C" } : Jvm.MethodName)) ∈ TBL := tk_7 (List.mem_of_getElem? (i := 50) rfl) rfl
theorem w_1491 : (Jvm.Cond.methodLink "EchoPantry$CommandText" (71 : Nat) ({ cls := "java/lang/Math", name := "max", desc := "(II)I" } : Jvm.MethodName)) ∈ TBL := tk_7 (List.mem_of_getElem? (i := 51) rfl) rfl
theorem w_1492 : (Jvm.Cond.methodLink "EchoPantry$CommandText" (47 : Nat) ({ cls := "EchoPantry$CommandText", name := "readLetter", desc := "(LEchoPantry$Command;)Z" } : Jvm.MethodName)) ∈ TBL := tk_7 (List.mem_of_getElem? (i := 52) rfl) rfl
theorem w_1493 : (Jvm.Cond.instanceMethod ({ cls := "EchoPantry$CommandText", name := "readLetter", desc := "(LEchoPantry$Command;)Z" } : Jvm.MethodName)) ∈ TBL := tk_7 (List.mem_of_getElem? (i := 53) rfl) rfl
theorem w_1494 : (Jvm.Cond.selects "EchoPantry$CommandText" ({ cls := "EchoPantry$CommandText", name := "readLetter", desc := "(LEchoPantry$Command;)Z" } : Jvm.MethodName) ({ cls := "EchoPantry$CommandText", name := "readLetter", desc := "(LEchoPantry$Command;)Z" } : Jvm.MethodName)) ∈ TBL := tk_7 (List.mem_of_getElem? (i := 54) rfl) rfl
theorem w_1495 : (Jvm.Cond.code ({ cls := "EchoPantry$CommandText", name := "readLetter", desc := "(LEchoPantry$Command;)Z" } : Jvm.MethodName) prog_3_method_11_code (3 : Nat) (Option.some Jvm.ClassFile.FieldType.boolean)) ∈ TBL := tk_7 (List.mem_of_getElem? (i := 55) rfl) rfl
theorem w_1496 : (Jvm.Cond.methodLink "EchoPantry$CommandText" (50 : Nat) ({ cls := "EchoPantry$CommandText", name := "readNumber", desc := "(LEchoPantry$Command;)Z" } : Jvm.MethodName)) ∈ TBL := tk_7 (List.mem_of_getElem? (i := 56) rfl) rfl
theorem w_1497 : (Jvm.Cond.instanceMethod ({ cls := "EchoPantry$CommandText", name := "readNumber", desc := "(LEchoPantry$Command;)Z" } : Jvm.MethodName)) ∈ TBL := tk_7 (List.mem_of_getElem? (i := 57) rfl) rfl
theorem w_1498 : (Jvm.Cond.selects "EchoPantry$CommandText" ({ cls := "EchoPantry$CommandText", name := "readNumber", desc := "(LEchoPantry$Command;)Z" } : Jvm.MethodName) ({ cls := "EchoPantry$CommandText", name := "readNumber", desc := "(LEchoPantry$Command;)Z" } : Jvm.MethodName)) ∈ TBL := tk_7 (List.mem_of_getElem? (i := 58) rfl) rfl
theorem w_1499 : (Jvm.Cond.code ({ cls := "EchoPantry$CommandText", name := "readNumber", desc := "(LEchoPantry$Command;)Z" } : Jvm.MethodName) prog_3_method_14_code (2 : Nat) (Option.some Jvm.ClassFile.FieldType.boolean)) ∈ TBL := tk_7 (List.mem_of_getElem? (i := 59) rfl) rfl
theorem w_1500 : (Jvm.Cond.methodLink "EchoPantry$CommandText" (36 : Nat) ({ cls := "EchoPantry$CommandText", name := "readSign", desc := "(C)Z" } : Jvm.MethodName)) ∈ TBL := tk_7 (List.mem_of_getElem? (i := 60) rfl) rfl
theorem w_1501 : (Jvm.Cond.instanceMethod ({ cls := "EchoPantry$CommandText", name := "readSign", desc := "(C)Z" } : Jvm.MethodName)) ∈ TBL := tk_7 (List.mem_of_getElem? (i := 61) rfl) rfl
theorem w_1502 : (Jvm.Cond.selects "EchoPantry$CommandText" ({ cls := "EchoPantry$CommandText", name := "readSign", desc := "(C)Z" } : Jvm.MethodName) ({ cls := "EchoPantry$CommandText", name := "readSign", desc := "(C)Z" } : Jvm.MethodName)) ∈ TBL := tk_7 (List.mem_of_getElem? (i := 62) rfl) rfl
theorem w_1503 : (Jvm.Cond.code ({ cls := "EchoPantry$CommandText", name := "readSign", desc := "(C)Z" } : Jvm.MethodName) prog_3_method_10_code (2 : Nat) (Option.some Jvm.ClassFile.FieldType.boolean)) ∈ TBL := tk_7 (List.mem_of_getElem? (i := 63) rfl) rfl
theorem w_1504 : (Jvm.Cond.methodLink "EchoPantry$CommandText" (110 : Nat) ({ cls := "EchoPantry$CommandText", name := "isDigit", desc := "(C)Z" } : Jvm.MethodName)) ∈ TBL := tk_7 (List.mem_of_getElem? (i := 64) rfl) rfl
theorem w_1505 : (Jvm.Cond.static ({ cls := "EchoPantry$CommandText", name := "isDigit", desc := "(C)Z" } : Jvm.MethodName)) ∈ TBL := tk_7 (List.mem_of_getElem? (i := 65) rfl) rfl
theorem w_1506 : (Jvm.Cond.code ({ cls := "EchoPantry$CommandText", name := "isDigit", desc := "(C)Z" } : Jvm.MethodName) prog_3_method_15_code (1 : Nat) (Option.some Jvm.ClassFile.FieldType.boolean)) ∈ TBL := tk_7 (List.mem_of_getElem? (i := 66) rfl) rfl
theorem w_1507 : (Jvm.Cond.methodLink "EchoPantry$CommandText" (53 : Nat) ({ cls := "EchoPantry$CommandText", name := "readDigit", desc := "(LEchoPantry$Command;)Z" } : Jvm.MethodName)) ∈ TBL := tk_7 (List.mem_of_getElem? (i := 67) rfl) rfl
theorem w_1508 : (Jvm.Cond.instanceMethod ({ cls := "EchoPantry$CommandText", name := "readDigit", desc := "(LEchoPantry$Command;)Z" } : Jvm.MethodName)) ∈ TBL := tk_7 (List.mem_of_getElem? (i := 68) rfl) rfl
theorem w_1509 : (Jvm.Cond.selects "EchoPantry$CommandText" ({ cls := "EchoPantry$CommandText", name := "readDigit", desc := "(LEchoPantry$Command;)Z" } : Jvm.MethodName) ({ cls := "EchoPantry$CommandText", name := "readDigit", desc := "(LEchoPantry$Command;)Z" } : Jvm.MethodName)) ∈ TBL := tk_7 (List.mem_of_getElem? (i := 69) rfl) rfl
theorem w_1510 : (Jvm.Cond.code ({ cls := "EchoPantry$CommandText", name := "readDigit", desc := "(LEchoPantry$Command;)Z" } : Jvm.MethodName) prog_3_method_13_code (2 : Nat) (Option.some Jvm.ClassFile.FieldType.boolean)) ∈ TBL := tk_7 (List.mem_of_getElem? (i := 70) rfl) rfl
theorem w_1511 : (Jvm.Cond.methodLink "EchoPantry$CommandText" (56 : Nat) ({ cls := "EchoPantry$CommandText", name := "readPolicy", desc := "(LEchoPantry$Command;)Z" } : Jvm.MethodName)) ∈ TBL := tk_7 (List.mem_of_getElem? (i := 71) rfl) rfl
theorem w_1512 : (Jvm.Cond.instanceMethod ({ cls := "EchoPantry$CommandText", name := "readPolicy", desc := "(LEchoPantry$Command;)Z" } : Jvm.MethodName)) ∈ TBL := tk_7 (List.mem_of_getElem? (i := 72) rfl) rfl
theorem w_1513 : (Jvm.Cond.selects "EchoPantry$CommandText" ({ cls := "EchoPantry$CommandText", name := "readPolicy", desc := "(LEchoPantry$Command;)Z" } : Jvm.MethodName) ({ cls := "EchoPantry$CommandText", name := "readPolicy", desc := "(LEchoPantry$Command;)Z" } : Jvm.MethodName)) ∈ TBL := tk_7 (List.mem_of_getElem? (i := 73) rfl) rfl
theorem w_1514 : (Jvm.Cond.code ({ cls := "EchoPantry$CommandText", name := "readPolicy", desc := "(LEchoPantry$Command;)Z" } : Jvm.MethodName) prog_3_method_12_code (3 : Nat) (Option.some Jvm.ClassFile.FieldType.boolean)) ∈ TBL := tk_7 (List.mem_of_getElem? (i := 74) rfl) rfl
theorem w_1516 : (Jvm.Cond.methodLink "EchoPantry" (314 : Nat) ({ cls := "EchoPantry$History", name := "keep", desc := "(LEchoPantry$State;)V" } : Jvm.MethodName)) ∈ TBL := tk_7 (List.mem_of_getElem? (i := 76) rfl) rfl
theorem w_1517 : (Jvm.Cond.methodLink "EchoPantry" (320 : Nat) ({ cls := "EchoPantry$CommandText", name := "command", desc := "(I)LEchoPantry$Command;" } : Jvm.MethodName)) ∈ TBL := tk_7 (List.mem_of_getElem? (i := 77) rfl) rfl
theorem w_1518 : (Jvm.Cond.instanceMethod ({ cls := "EchoPantry$CommandText", name := "command", desc := "(I)LEchoPantry$Command;" } : Jvm.MethodName)) ∈ TBL := tk_7 (List.mem_of_getElem? (i := 78) rfl) rfl
theorem w_1519 : (Jvm.Cond.selects "EchoPantry$CommandText" ({ cls := "EchoPantry$CommandText", name := "command", desc := "(I)LEchoPantry$Command;" } : Jvm.MethodName) ({ cls := "EchoPantry$CommandText", name := "command", desc := "(I)LEchoPantry$Command;" } : Jvm.MethodName)) ∈ TBL := tk_7 (List.mem_of_getElem? (i := 79) rfl) rfl
theorem w_1520 : (Jvm.Cond.code ({ cls := "EchoPantry$CommandText", name := "command", desc := "(I)LEchoPantry$Command;" } : Jvm.MethodName) prog_3_method_3_code (2 : Nat) (Option.some (Jvm.ClassFile.FieldType.object "EchoPantry$Command"))) ∈ TBL := tk_7 (List.mem_of_getElem? (i := 80) rfl) rfl
theorem w_1521 : (Jvm.Cond.methodLink "EchoPantry" (324 : Nat) ({ cls := "EchoPantry", name := "faultOf", desc := "(LEchoPantry$Command;)I" } : Jvm.MethodName)) ∈ TBL := tk_7 (List.mem_of_getElem? (i := 81) rfl) rfl
theorem w_1523 : (Jvm.Cond.instanceMethod ({ cls := "EchoPantry", name := "faultOf", desc := "(LEchoPantry$Command;)I" } : Jvm.MethodName)) ∈ TBL := tk_7 (List.mem_of_getElem? (i := 83) rfl) rfl
theorem w_1524 : (Jvm.Cond.code ({ cls := "EchoPantry", name := "faultOf", desc := "(LEchoPantry$Command;)I" } : Jvm.MethodName) prog_1_method_57_code (2 : Nat) (Option.some Jvm.ClassFile.FieldType.int)) ∈ TBL := tk_7 (List.mem_of_getElem? (i := 84) rfl) rfl
theorem w_1525 : (Jvm.Cond.methodLink "EchoPantry" (394 : Nat) ({ cls := "EchoPantry$State", name := "shelfFault", desc := "(I)I" } : Jvm.MethodName)) ∈ TBL := tk_7 (List.mem_of_getElem? (i := 85) rfl) rfl
theorem w_1526 : (Jvm.Cond.instanceMethod ({ cls := "EchoPantry$State", name := "shelfFault", desc := "(I)I" } : Jvm.MethodName)) ∈ TBL := tk_7 (List.mem_of_getElem? (i := 86) rfl) rfl
theorem w_1527 : (Jvm.Cond.selects "EchoPantry$State" ({ cls := "EchoPantry$State", name := "shelfFault", desc := "(I)I" } : Jvm.MethodName) ({ cls := "EchoPantry$State", name := "shelfFault", desc := "(I)I" } : Jvm.MethodName)) ∈ TBL := tk_7 (List.mem_of_getElem? (i := 87) rfl) rfl
theorem w_1528 : (Jvm.Cond.code ({ cls := "EchoPantry$State", name := "shelfFault", desc := "(I)I" } : Jvm.MethodName) prog_8_method_11_code (2 : Nat) (Option.some Jvm.ClassFile.FieldType.int)) ∈ TBL := tk_7 (List.mem_of_getElem? (i := 88) rfl) rfl
theorem w_1529 : (Jvm.Cond.methodLink "EchoPantry" (328 : Nat) ({ cls := "EchoPantry$History", name := "takeBack", desc := "(LEchoPantry$State;)V" } : Jvm.MethodName)) ∈ TBL := tk_7 (List.mem_of_getElem? (i := 89) rfl) rfl
theorem w_1530 : (Jvm.Cond.instanceMethod ({ cls := "EchoPantry$History", name := "takeBack", desc := "(LEchoPantry$State;)V" } : Jvm.MethodName)) ∈ TBL := tk_7 (List.mem_of_getElem? (i := 90) rfl) rfl
theorem w_1531 : (Jvm.Cond.selects "EchoPantry$History" ({ cls := "EchoPantry$History", name := "takeBack", desc := "(LEchoPantry$State;)V" } : Jvm.MethodName) ({ cls := "EchoPantry$History", name := "takeBack", desc := "(LEchoPantry$State;)V" } : Jvm.MethodName)) ∈ TBL := tk_7 (List.mem_of_getElem? (i := 91) rfl) rfl
theorem w_1532 : (Jvm.Cond.code ({ cls := "EchoPantry$History", name := "takeBack", desc := "(LEchoPantry$State;)V" } : Jvm.MethodName) prog_5_method_5_code (2 : Nat) (Option.none : Option Jvm.ClassFile.FieldType)) ∈ TBL := tk_7 (List.mem_of_getElem? (i := 92) rfl) rfl
theorem w_1534 : (Jvm.Cond.methodLink "EchoPantry" (333 : Nat) ({ cls := "EchoPantry", name := "carryOut", desc := "(LEchoPantry$Command;)V" } : Jvm.MethodName)) ∈ TBL := tk_7 (List.mem_of_getElem? (i := 94) rfl) rfl
theorem w_1536 : (Jvm.Cond.instanceMethod ({ cls := "EchoPantry", name := "carryOut", desc := "(LEchoPantry$Command;)V" } : Jvm.MethodName)) ∈ TBL := tk_7 (List.mem_of_getElem? (i := 96) rfl) rfl
theorem w_1537 : (Jvm.Cond.code ({ cls := "EchoPantry", name := "carryOut", desc := "(LEchoPantry$Command;)V" } : Jvm.MethodName) prog_1_method_58_code (2 : Nat) (Option.none : Option Jvm.ClassFile.FieldType)) ∈ TBL := tk_7 (List.mem_of_getElem? (i := 97) rfl) rfl
theorem w_1538 : (Jvm.Cond.methodLink "EchoPantry" (397 : Nat) ({ cls := "EchoPantry$State", name := "tune", desc := "(IZ)V" } : Jvm.MethodName)) ∈ TBL := tk_7 (List.mem_of_getElem? (i := 98) rfl) rfl
theorem w_1539 : (Jvm.Cond.instanceMethod ({ cls := "EchoPantry$State", name := "tune", desc := "(IZ)V" } : Jvm.MethodName)) ∈ TBL := tk_7 (List.mem_of_getElem? (i := 99) rfl) rfl
theorem w_1540 : (Jvm.Cond.selects "EchoPantry$State" ({ cls := "EchoPantry$State", name := "tune", desc := "(IZ)V" } : Jvm.MethodName) ({ cls := "EchoPantry$State", name := "tune", desc := "(IZ)V" } : Jvm.MethodName)) ∈ TBL := tk_7 (List.mem_of_getElem? (i := 100) rfl) rfl
theorem w_1541 : (Jvm.Cond.code ({ cls := "EchoPantry$State", name := "tune", desc := "(IZ)V" } : Jvm.MethodName) prog_8_method_22_code (4 : Nat) (Option.none : Option Jvm.ClassFile.FieldType)) ∈ TBL := tk_7 (List.mem_of_getElem? (i := 101) rfl) rfl
theorem w_1542 : (Jvm.Cond.methodLink "EchoPantry" (337 : Nat) ({ cls := "EchoPantry$History", name := "confirm", desc := "()V" } : Jvm.MethodName)) ∈ TBL := tk_7 (List.mem_of_getElem? (i := 102) rfl) rfl
theorem w_1551 : (Jvm.Cond.methodLink "EchoPantry" (349 : Nat) ({ cls := "EchoPantry$History", name := "goBack", desc := "(LEchoPantry$State;)V" } : Jvm.MethodName)) ∈ TBL := tk_7 (List.mem_of_getElem? (i := 111) rfl) rfl
theorem w_1552 : (Jvm.Cond.instanceMethod ({ cls := "EchoPantry$History", name := "goBack", desc := "(LEchoPantry$State;)V" } : Jvm.MethodName)) ∈ TBL := tk_7 (List.mem_of_getElem? (i := 112) rfl) rfl
theorem w_1553 : (Jvm.Cond.selects "EchoPantry$History" ({ cls := "EchoPantry$History", name := "goBack", desc := "(LEchoPantry$State;)V" } : Jvm.MethodName) ({ cls := "EchoPantry$History", name := "goBack", desc := "(LEchoPantry$State;)V" } : Jvm.MethodName)) ∈ TBL := tk_7 (List.mem_of_getElem? (i := 113) rfl) rfl
theorem w_1554 : (Jvm.Cond.code ({ cls := "EchoPantry$History", name := "goBack", desc := "(LEchoPantry$State;)V" } : Jvm.MethodName) prog_5_method_7_code (2 : Nat) (Option.none : Option Jvm.ClassFile.FieldType)) ∈ TBL := tk_7 (List.mem_of_getElem? (i := 114) rfl) rfl
theorem w_1555 : (Jvm.Cond.methodLink "EchoPantry$History" (45 : Nat) ({ cls := "EchoPantry$History", name := "takeBack", desc := "(LEchoPantry$State;)V" } : Jvm.MethodName)) ∈ TBL := tk_7 (List.mem_of_getElem? (i := 115) rfl) rfl
theorem w_1568 : (Jvm.Cond.selects "java/lang/StringBuilder" ({ cls := "java/lang/StringBuilder", name := "length", desc := "()I" } : Jvm.MethodName) ({ cls := "java/lang/StringBuilder", name := "length", desc := "()I" } : Jvm.MethodName)) ∈ TBL := tk_7 (List.mem_of_getElem? (i := 128) rfl) rfl
theorem wp_1 : Cond.selects "EchoPantry" ({ cls := "EchoPantry", name := "wantShelf", desc := "(I)LEchoPantry$Shelf;" } : MethodName) ({ cls := "EchoPantry", name := "wantShelf", desc := "(I)LEchoPantry$Shelf;" } : MethodName) ∈ TBL := tb_in 1 (by decide +kernel) (by decide +kernel)
theorem wp_2 : Cond.selects "EchoPantry" ({ cls := "EchoPantry", name := "wantJar", desc := "(C)LEchoPantry$Jar;" } : MethodName) ({ cls := "EchoPantry", name := "wantJar", desc := "(C)LEchoPantry$Jar;" } : MethodName) ∈ TBL := tb_in 2 (by decide +kernel) (by decide +kernel)
theorem wp_3 : Cond.selects "EchoPantry" ({ cls := "EchoPantry", name := "wantEcho", desc := "(IC)LEchoPantry$Echo;" } : MethodName) ({ cls := "EchoPantry", name := "wantEcho", desc := "(IC)LEchoPantry$Echo;" } : MethodName) ∈ TBL := tb_in 3 (by decide +kernel) (by decide +kernel)
theorem wp_4 : Cond.selects "EchoPantry" ({ cls := "EchoPantry", name := "wantWarming", desc := "(I)LEchoPantry$Warming;" } : MethodName) ({ cls := "EchoPantry", name := "wantWarming", desc := "(I)LEchoPantry$Warming;" } : MethodName) ∈ TBL := tb_in 4 (by decide +kernel) (by decide +kernel)
theorem wp_5 : Cond.selects "EchoPantry" ({ cls := "EchoPantry", name := "writeEcho", desc := "(LEchoPantry$Echo;Z)V" } : MethodName) ({ cls := "EchoPantry", name := "writeEcho", desc := "(LEchoPantry$Echo;Z)V" } : MethodName) ∈ TBL := tb_in 5 (by decide +kernel) (by decide +kernel)
theorem wp_6 : Cond.selects "EchoPantry" ({ cls := "EchoPantry", name := "faultOf", desc := "(LEchoPantry$Command;)I" } : MethodName) ({ cls := "EchoPantry", name := "faultOf", desc := "(LEchoPantry$Command;)I" } : MethodName) ∈ TBL := tb_in 6 (by decide +kernel) (by decide +kernel)
theorem wp_7 : Cond.selects "EchoPantry" ({ cls := "EchoPantry", name := "carryOut", desc := "(LEchoPantry$Command;)V" } : MethodName) ({ cls := "EchoPantry", name := "carryOut", desc := "(LEchoPantry$Command;)V" } : MethodName) ∈ TBL := tb_in 7 (by decide +kernel) (by decide +kernel)
theorem fX0_9 : fOk RX0 9 0 0 := ⟨by decide, by decide, w_257⟩
theorem fX0_15 : fOk RX0 15 0 1 := ⟨by decide, by decide, w_260⟩
theorem fX0_19 : fOk RX0 19 0 2 := ⟨by decide, by decide, w_263⟩
theorem fX0_22 : fOk RX0 22 0 3 := ⟨by decide, by decide, w_266⟩
theorem fX0_25 : fOk RX0 25 0 4 := ⟨by decide, by decide, w_269⟩
theorem fX2_9 : fOk RX2 9 2 0 := ⟨by decide, by decide, w_92⟩
theorem fX2_15 : fOk RX2 15 2 1 := ⟨by decide, by decide, w_95⟩
theorem fX2_19 : fOk RX2 19 2 2 := ⟨by decide, by decide, w_99⟩
theorem fX2_23 : fOk RX2 23 2 3 := ⟨by decide, by decide, w_103⟩
theorem fX2_26 : fOk RX2 26 2 4 := ⟨by decide, by decide, w_104⟩
theorem fX2_29 : fOk RX2 29 2 5 := ⟨by decide, by decide, w_107⟩
theorem fX2_32 : fOk RX2 32 2 6 := ⟨by decide, by decide, w_109⟩
theorem fX2_35 : fOk RX2 35 2 7 := ⟨by decide, by decide, w_112⟩
theorem fX2_38 : fOk RX2 38 2 8 := ⟨by decide, by decide, w_114⟩
theorem fX2_41 : fOk RX2 41 4 1 := ⟨by decide, by decide, w_63⟩
theorem fX2_44 : fOk RX2 44 4 2 := ⟨by decide, by decide, w_67⟩
theorem fX4_7 : fOk RX4 7 4 0 := ⟨by decide, by decide, w_60⟩
theorem fX4_13 : fOk RX4 13 4 1 := ⟨by decide, by decide, w_62⟩
theorem fX4_17 : fOk RX4 17 4 2 := ⟨by decide, by decide, w_66⟩
theorem fX4_20 : fOk RX4 20 4 3 := ⟨by decide, by decide, w_69⟩
theorem fX5_9 : fOk RX5 9 5 0 := ⟨by decide, by decide, w_136⟩
theorem fX5_15 : fOk RX5 15 5 1 := ⟨by decide, by decide, w_138⟩
theorem fX5_19 : fOk RX5 19 5 2 := ⟨by decide, by decide, w_140⟩
theorem fX5_22 : fOk RX5 22 5 3 := ⟨by decide, by decide, w_142⟩
theorem fX5_26 : fOk RX5 26 5 4 := ⟨by decide, by decide, w_144⟩
theorem fX5_29 : fOk RX5 29 5 5 := ⟨by decide, by decide, w_147⟩
theorem fX5_34 : fOk RX5 34 5 6 := ⟨by decide, by decide, w_149⟩
theorem fX5_43 : fOk RX5 43 2 0 := ⟨by decide, by decide, w_93⟩
theorem fX5_44 : fOk RX5 44 2 1 := ⟨by decide, by decide, w_96⟩
theorem fX5_59 : fOk RX5 59 2 8 := ⟨by decide, by decide, w_115⟩
theorem fX5_70 : fOk RX5 70 2 4 := ⟨by decide, by decide, w_105⟩
theorem fX5_69 : fOk RX5 69 2 6 := ⟨by decide, by decide, w_110⟩
theorem fX5_66 : fOk RX5 66 2 5 := ⟨by decide, by decide, w_108⟩
theorem fX5_88 : fOk RX5 88 2 2 := ⟨by decide, by decide, w_100⟩
theorem fX7_9 : fOk RX7 9 7 0 := ⟨by decide, by decide, w_171⟩
theorem fX7_15 : fOk RX7 15 7 1 := ⟨by decide, by decide, w_173⟩
theorem fX7_19 : fOk RX7 19 7 2 := ⟨by decide, by decide, w_176⟩
theorem fX7_22 : fOk RX7 22 7 3 := ⟨by decide, by decide, w_178⟩
theorem fX3_11 : fOk RX3 11 3 0 := ⟨by decide, by decide, w_233⟩
theorem fX3_17 : fOk RX3 17 3 1 := ⟨by decide, by decide, w_234⟩
theorem fX3_21 : fOk RX3 21 3 2 := ⟨by decide, by decide, w_235⟩
theorem fX6_11 : fOk RX6 11 6 0 := ⟨by decide, by decide, w_190⟩
theorem fX6_19 : fOk RX6 19 6 1 := ⟨by decide, by decide, w_191⟩
theorem fX6_25 : fOk RX6 25 6 2 := ⟨by decide, by decide, w_193⟩
theorem fX6_29 : fOk RX6 29 6 3 := ⟨by decide, by decide, w_194⟩
theorem fX6_33 : fOk RX6 33 6 4 := ⟨by decide, by decide, w_196⟩
theorem fX6_36 : fOk RX6 36 6 5 := ⟨by decide, by decide, w_197⟩
theorem fX6_39 : fOk RX6 39 6 6 := ⟨by decide, by decide, w_199⟩
theorem fX6_42 : fOk RX6 42 6 7 := ⟨by decide, by decide, w_201⟩
theorem fX6_45 : fOk RX6 45 6 8 := ⟨by decide, by decide, w_203⟩
theorem fX6_65 : fOk RX6 65 4 0 := ⟨by decide, by decide, w_61⟩
theorem fX6_69 : fOk RX6 69 5 0 := ⟨by decide, by decide, w_137⟩
theorem fX6_70 : fOk RX6 70 7 0 := ⟨by decide, by decide, w_172⟩
theorem fX6_96 : fOk RX6 96 4 2 := ⟨by decide, by decide, w_68⟩
theorem fX6_111 : fOk RX6 111 5 4 := ⟨by decide, by decide, w_146⟩
theorem fX6_122 : fOk RX6 122 5 5 := ⟨by decide, by decide, w_148⟩
theorem fX6_125 : fOk RX6 125 2 1 := ⟨by decide, by decide, w_97⟩
theorem fX6_131 : fOk RX6 131 2 7 := ⟨by decide, by decide, w_113⟩
theorem fX6_132 : fOk RX6 132 2 4 := ⟨by decide, by decide, w_106⟩
theorem fX6_135 : fOk RX6 135 4 3 := ⟨by decide, by decide, w_70⟩
theorem fX6_144 : fOk RX6 144 4 1 := ⟨by decide, by decide, w_65⟩
theorem fX6_147 : fOk RX6 147 2 2 := ⟨by decide, by decide, w_102⟩
theorem fX6_167 : fOk RX6 167 7 1 := ⟨by decide, by decide, w_174⟩
theorem fX6_168 : fOk RX6 168 7 2 := ⟨by decide, by decide, w_177⟩
theorem fX6_171 : fOk RX6 171 7 3 := ⟨by decide, by decide, w_179⟩
theorem fX8_10 : fOk RX8 10 8 0 := ⟨by decide, by decide, w_336⟩
theorem fX8_19 : fOk RX8 19 8 1 := ⟨by decide, by decide, w_337⟩
theorem fX8_23 : fOk RX8 23 8 2 := ⟨by decide, by decide, w_338⟩
theorem fX8_26 : fOk RX8 26 8 3 := ⟨by decide, by decide, w_339⟩
theorem fX8_33 : fOk RX8 33 8 4 := ⟨by decide, by decide, w_340⟩
theorem fX8_37 : fOk RX8 37 8 5 := ⟨by decide, by decide, w_341⟩
theorem fX8_41 : fOk RX8 41 8 6 := ⟨by decide, by decide, w_342⟩
theorem fX8_47 : fOk RX8 47 8 7 := ⟨by decide, by decide, w_343⟩
theorem fX8_98 : fOk RX8 98 4 1 := ⟨by decide, by decide, w_64⟩
theorem fX8_114 : fOk RX8 114 5 4 := ⟨by decide, by decide, w_145⟩
theorem fX8_122 : fOk RX8 122 5 1 := ⟨by decide, by decide, w_139⟩
theorem fX8_125 : fOk RX8 125 5 2 := ⟨by decide, by decide, w_141⟩
theorem fX8_128 : fOk RX8 128 5 3 := ⟨by decide, by decide, w_143⟩
theorem fX8_151 : fOk RX8 151 2 2 := ⟨by decide, by decide, w_101⟩
theorem fX8_154 : fOk RX8 154 6 3 := ⟨by decide, by decide, w_195⟩
theorem fX8_161 : fOk RX8 161 2 6 := ⟨by decide, by decide, w_111⟩
theorem fX8_168 : fOk RX8 168 2 8 := ⟨by decide, by decide, w_116⟩
theorem fX8_184 : fOk RX8 184 2 1 := ⟨by decide, by decide, w_98⟩
theorem fX8_225 : fOk RX8 225 7 1 := ⟨by decide, by decide, w_175⟩
theorem fX8_228 : fOk RX8 228 7 3 := ⟨by decide, by decide, w_180⟩
theorem fX8_229 : fOk RX8 229 6 5 := ⟨by decide, by decide, w_198⟩
theorem fX8_238 : fOk RX8 238 6 8 := ⟨by decide, by decide, w_204⟩
theorem fX8_235 : fOk RX8 235 6 7 := ⟨by decide, by decide, w_202⟩
theorem fX8_232 : fOk RX8 232 6 6 := ⟨by decide, by decide, w_200⟩
theorem fX8_251 : fOk RX8 251 6 1 := ⟨by decide, by decide, w_192⟩
theorem fX8_283 : fOk RX8 283 5 6 := ⟨by decide, by decide, w_150⟩
theorem fX8_287 : fOk RX8 287 2 0 := ⟨by decide, by decide, w_94⟩
theorem fX8_295 : fOk RX8 295 1 1 := ⟨by decide, by decide, w_286⟩
theorem fX8_309 : fOk RX8 309 1 2 := ⟨by decide, by decide, w_288⟩
theorem fX8_317 : fOk RX8 317 1 4 := ⟨by decide, by decide, w_291⟩
theorem fX8_344 : fOk RX8 344 3 2 := ⟨by decide, by decide, w_236⟩
theorem fX8_381 : fOk RX8 381 0 0 := ⟨by decide, by decide, w_259⟩
theorem fX8_386 : fOk RX8 386 0 1 := ⟨by decide, by decide, w_262⟩
theorem fX8_387 : fOk RX8 387 0 3 := ⟨by decide, by decide, w_268⟩
theorem fX8_390 : fOk RX8 390 0 2 := ⟨by decide, by decide, w_265⟩
theorem fX8_393 : fOk RX8 393 0 4 := ⟨by decide, by decide, w_271⟩
theorem fX1_9 : fOk RX1 9 1 0 := ⟨by decide, by decide, w_284⟩
theorem fX1_15 : fOk RX1 15 1 1 := ⟨by decide, by decide, w_285⟩
theorem fX1_19 : fOk RX1 19 1 2 := ⟨by decide, by decide, w_287⟩
theorem fX1_24 : fOk RX1 24 1 3 := ⟨by decide, by decide, w_289⟩
theorem fX1_28 : fOk RX1 28 1 4 := ⟨by decide, by decide, w_290⟩
theorem fX1_44 : fOk RX1 44 0 0 := ⟨by decide, by decide, w_258⟩
theorem fX1_103 : fOk RX1 103 0 1 := ⟨by decide, by decide, w_261⟩
theorem fX1_107 : fOk RX1 107 0 4 := ⟨by decide, by decide, w_270⟩
theorem fX1_113 : fOk RX1 113 0 2 := ⟨by decide, by decide, w_264⟩
theorem fX1_116 : fOk RX1 116 0 3 := ⟨by decide, by decide, w_267⟩
theorem gX5_39 : yOk RX5 39 1 mX2_copyFrom := ⟨w_539, w_542, w_5, ⟨by decide, by decide⟩, by decide +kernel⟩
theorem gX5_47 : yOk RX5 47 1 mX5_find := ⟨w_675, w_670, w_4, ⟨by decide, by decide⟩, by decide +kernel⟩
theorem gX5_51 : yOk RX5 51 1 mX2_age := ⟨w_680, w_683, w_5, ⟨by decide, by decide⟩, by decide +kernel⟩
theorem gX5_55 : yOk RX5 55 2 mX5_hasOutlived := ⟨w_676, w_679, w_4, ⟨by decide, by decide⟩, by decide +kernel⟩
theorem gX5_62 : yOk RX5 62 2 mX5_isBefore := ⟨w_696, w_699, w_4, ⟨by decide, by decide⟩, by decide +kernel⟩
theorem gX5_73 : yOk RX5 73 0 mX5_sort := ⟨w_692, w_695, w_4, ⟨by decide, by decide⟩, by decide +kernel⟩
theorem gX5_76 : yOk RX5 76 0 mX5_countEchoes := ⟨w_708, w_711, w_4, ⟨by decide, by decide⟩, by decide +kernel⟩
theorem gX5_80 : yOk RX5 80 0 mX5_firstInOrder := ⟨w_712, w_715, w_4, ⟨by decide, by decide⟩, by decide +kernel⟩
theorem gX5_84 : yOk RX5 84 4 mX2_fill := ⟨w_716, w_719, w_5, ⟨by decide, by decide⟩, by decide +kernel⟩
theorem gX3_24 : yOk RX3 24 0 mX6_init := ⟨w_232, w_47, w_2, ⟨by decide, by decide⟩, by decide +kernel⟩
theorem gX3_25 : yOk RX3 25 2 mJ9_floorMod_7cf53 := ⟨w_524, w_526, w_21, ⟨by decide, by decide⟩, by decide +kernel⟩
theorem gX3_31 : yOk RX3 31 1 mX3_keep := ⟨w_516, w_519, w_7, ⟨by decide, by decide⟩, by decide +kernel⟩
theorem gX3_35 : yOk RX3 35 0 mX3_confirm := ⟨w_547, w_550, w_7, ⟨by decide, by decide⟩, by decide +kernel⟩
theorem gX3_38 : yOk RX3 38 1 mX3_row := ⟨w_520, w_523, w_7, ⟨by decide, by decide⟩, by decide +kernel⟩
theorem gX3_42 : yOk RX3 42 1 mX6_copyFrom := ⟨w_527, w_530, w_2, ⟨by decide, by decide⟩, by decide +kernel⟩
theorem gX3_45 : yOk RX3 45 1 mX3_takeBack := ⟨w_1555, w_1532, w_7, ⟨by decide, by decide⟩, by decide +kernel⟩
theorem gX6_49 : yOk RX6 49 0 mX5_init := ⟨w_81, w_83, w_4, ⟨by decide, by decide⟩, by decide +kernel⟩
theorem gX6_51 : yOk RX6 51 1 mX4_copyFrom := ⟨w_531, w_534, w_3, ⟨by decide, by decide⟩, by decide +kernel⟩
theorem gX6_55 : yOk RX6 55 1 mX5_copyFrom := ⟨w_535, w_538, w_4, ⟨by decide, by decide⟩, by decide +kernel⟩
theorem gX6_58 : yOk RX6 58 1 mX7_copyFrom := ⟨w_543, w_546, w_6, ⟨by decide, by decide⟩, by decide +kernel⟩
theorem gX6_61 : yOk RX6 61 1 mX6_jarRow := ⟨w_386, w_389, w_2, ⟨by decide, by decide⟩, by decide +kernel⟩
theorem gX6_71 : yOk RX6 71 0 mX6_countJars := ⟨w_378, w_381, w_2, ⟨by decide, by decide⟩, by decide +kernel⟩
theorem gX6_75 : yOk RX6 75 1 mX6_findJar := ⟨w_382, w_385, w_2, ⟨by decide, by decide⟩, by decide +kernel⟩
theorem gX6_78 : yOk RX6 78 0 mX6_countShelves := ⟨w_610, w_613, w_2, ⟨by decide, by decide⟩, by decide +kernel⟩
theorem gX6_81 : yOk RX6 81 1 mX6_findShelf := ⟨w_655, w_658, w_2, ⟨by decide, by decide⟩, by decide +kernel⟩
theorem gX6_85 : yOk RX6 85 1 mX6_jarFault := ⟨w_659, w_662, w_2, ⟨by decide, by decide⟩, by decide +kernel⟩
theorem gX6_89 : yOk RX6 89 2 mX6_hearFault := ⟨w_750, w_654, w_2, ⟨by decide, by decide⟩, by decide +kernel⟩
theorem gX6_93 : yOk RX6 93 0 mX6_countWarmings := ⟨w_751, w_754, w_2, ⟨by decide, by decide⟩, by decide +kernel⟩
theorem gX6_99 : yOk RX6 99 2 mX4_speak := ⟨w_555, w_558, w_3, ⟨by decide, by decide⟩, by decide +kernel⟩
theorem gX6_103 : yOk RX6 103 1 mX5_find := ⟨w_667, w_670, w_4, ⟨by decide, by decide⟩, by decide +kernel⟩
theorem gX6_107 : yOk RX6 107 1 mX5_remove := ⟨w_1415, w_1418, w_4, ⟨by decide, by decide⟩, by decide +kernel⟩
theorem gX6_114 : yOk RX6 114 1 mX5_openLid := ⟨w_735, w_738, w_4, ⟨by decide, by decide⟩, by decide +kernel⟩
theorem gX6_118 : yOk RX6 118 3 mX5_fill := ⟨w_618, w_621, w_4, ⟨by decide, by decide⟩, by decide +kernel⟩
theorem gX6_138 : yOk RX6 138 1 mX6_isTrueByCount := ⟨w_1017, w_901, w_2, ⟨by decide, by decide⟩, by decide +kernel⟩
theorem gX6_141 : yOk RX6 141 1 mX6_isTrueByOrder := ⟨w_1018, w_919, w_2, ⟨by decide, by decide⟩, by decide +kernel⟩
theorem gX6_148 : yOk RX6 148 2 mX5_outcome := ⟨w_671, w_674, w_4, ⟨by decide, by decide⟩, by decide +kernel⟩
theorem gX6_152 : yOk RX6 152 1 mX6_countOutcome := ⟨w_684, w_687, w_2, ⟨by decide, by decide⟩, by decide +kernel⟩
theorem gX6_160 : yOk RX6 160 2 mX6_fetch := ⟨w_700, w_703, w_2, ⟨by decide, by decide⟩, by decide +kernel⟩
theorem gX6_156 : yOk RX6 156 2 mX5_hit := ⟨w_688, w_691, w_4, ⟨by decide, by decide⟩, by decide +kernel⟩
theorem gX6_164 : yOk RX6 164 4 mX5_fetch := ⟨w_704, w_707, w_4, ⟨by decide, by decide⟩, by decide +kernel⟩
theorem gX6_172 : yOk RX6 172 0 mX6_sortWarmings := ⟨w_759, w_762, w_2, ⟨by decide, by decide⟩, by decide +kernel⟩
theorem gX6_175 : yOk RX6 175 1 mX7_isBefore := ⟨w_763, w_766, w_6, ⟨by decide, by decide⟩, by decide +kernel⟩
theorem gX8_9 : yOk RX8 9 0 mX6_init := ⟨w_45, w_47, w_2, ⟨by decide, by decide⟩, by decide +kernel⟩
theorem gX8_18 : yOk RX8 18 0 mX3_init := ⟨w_226, w_228, w_7, ⟨by decide, by decide⟩, by decide +kernel⟩
theorem gX8_32 : yOk RX8 32 0 mX1_init := ⟨w_246, w_248, w_8, ⟨by decide, by decide⟩, by decide +kernel⟩
theorem gX8_46 : yOk RX8 46 0 mJ4_init_da8c8 := ⟨w_305, w_307, w_11, ⟨by decide, by decide⟩, by decide +kernel⟩
theorem gX8_51 : yOk RX8 51 2 mX6_newJarFault := ⟨w_374, w_377, w_2, ⟨by decide, by decide⟩, by decide +kernel⟩
theorem gX8_55 : yOk RX8 55 1 mX8_refuse := ⟨w_390, w_392, w_1, ⟨by decide, by decide⟩, by decide +kernel⟩
theorem gX8_59 : yOk RX8 59 1 mX3_note := ⟨w_512, w_515, w_7, ⟨by decide, by decide⟩, by decide +kernel⟩
theorem gX8_63 : yOk RX8 63 2 mX6_putJar := ⟨w_551, w_554, w_2, ⟨by decide, by decide⟩, by decide +kernel⟩
theorem gX8_66 : yOk RX8 66 1 mX6_jarFault := ⟨w_1410, w_662, w_2, ⟨by decide, by decide⟩, by decide +kernel⟩
theorem gX8_70 : yOk RX8 70 1 mX6_dropJar := ⟨w_1411, w_1414, w_2, ⟨by decide, by decide⟩, by decide +kernel⟩
theorem gX8_73 : yOk RX8 73 2 mX6_wordFault := ⟨w_727, w_730, w_2, ⟨by decide, by decide⟩, by decide +kernel⟩
theorem gX8_76 : yOk RX8 76 2 mX6_speak := ⟨w_731, w_734, w_2, ⟨by decide, by decide⟩, by decide +kernel⟩
theorem gX8_79 : yOk RX8 79 0 mX6_countJars := ⟨w_801, w_381, w_2, ⟨by decide, by decide⟩, by decide +kernel⟩
theorem gX8_83 : yOk RX8 83 1 mX6_jarLetter := ⟨w_821, w_824, w_2, ⟨by decide, by decide⟩, by decide +kernel⟩
theorem gX8_94 : yOk RX8 94 1 mX8_wantJar := ⟨w_809, w_812, w_1, ⟨by decide, by decide⟩, by decide +kernel⟩
theorem gX8_103 : yOk RX8 103 3 mX6_newShelfFault := ⟨w_606, w_609, w_2, ⟨by decide, by decide⟩, by decide +kernel⟩
theorem gX8_107 : yOk RX8 107 3 mX6_putShelf := ⟨w_614, w_617, w_2, ⟨by decide, by decide⟩, by decide +kernel⟩
theorem gX8_110 : yOk RX8 110 1 mX8_wantShelf := ⟨w_789, w_792, w_1, ⟨by decide, by decide⟩, by decide +kernel⟩
theorem gX8_119 : yOk RX8 119 0 mX6_countShelves := ⟨w_833, w_613, w_2, ⟨by decide, by decide⟩, by decide +kernel⟩
theorem gX8_132 : yOk RX8 132 0 mX5_countEchoes := ⟨w_956, w_711, w_4, ⟨by decide, by decide⟩, by decide +kernel⟩
theorem gX8_135 : yOk RX8 135 1 mX5_letterAt := ⟨w_883, w_886, w_4, ⟨by decide, by decide⟩, by decide +kernel⟩
theorem gX8_143 : yOk RX8 143 1 mX5_find := ⟨w_841, w_670, w_4, ⟨by decide, by decide⟩, by decide +kernel⟩
theorem gX8_147 : yOk RX8 147 2 mX8_wantEcho := ⟨w_849, w_852, w_1, ⟨by decide, by decide⟩, by decide +kernel⟩
theorem gX8_157 : yOk RX8 157 1 mX2_age := ⟨w_861, w_683, w_5, ⟨by decide, by decide⟩, by decide +kernel⟩
theorem gX8_164 : yOk RX8 164 2 mX5_hasOutlived := ⟨w_927, w_679, w_4, ⟨by decide, by decide⟩, by decide +kernel⟩
theorem gX8_171 : yOk RX8 171 1 mX6_isTrueByCount := ⟨w_898, w_901, w_2, ⟨by decide, by decide⟩, by decide +kernel⟩
theorem gX8_175 : yOk RX8 175 1 mX6_isTrueByOrder := ⟨w_916, w_919, w_2, ⟨by decide, by decide⟩, by decide +kernel⟩
theorem gX8_178 : yOk RX8 178 0 mX5_firstInOrder := ⟨w_947, w_715, w_4, ⟨by decide, by decide⟩, by decide +kernel⟩
theorem gX8_187 : yOk RX8 187 0 mX5_firstByScan := ⟨w_971, w_974, w_4, ⟨by decide, by decide⟩, by decide +kernel⟩
theorem gX8_190 : yOk RX8 190 2 mX6_hearFault := ⟨w_651, w_654, w_2, ⟨by decide, by decide⟩, by decide +kernel⟩
theorem gX8_194 : yOk RX8 194 2 mX6_listenTo := ⟨w_663, w_666, w_2, ⟨by decide, by decide⟩, by decide +kernel⟩
theorem gX8_197 : yOk RX8 197 2 mX5_outcome := ⟨w_939, w_674, w_4, ⟨by decide, by decide⟩, by decide +kernel⟩
theorem gX8_201 : yOk RX8 201 3 mX6_warmFault := ⟨w_746, w_749, w_2, ⟨by decide, by decide⟩, by decide +kernel⟩
theorem gX8_205 : yOk RX8 205 3 mX6_planWarming := ⟨w_755, w_758, w_2, ⟨by decide, by decide⟩, by decide +kernel⟩
theorem gX8_208 : yOk RX8 208 1 mX8_wantWarming := ⟨w_1041, w_1044, w_1, ⟨by decide, by decide⟩, by decide +kernel⟩
theorem gX8_212 : yOk RX8 212 1 mX6_removeWarming := ⟨w_1427, w_1430, w_2, ⟨by decide, by decide⟩, by decide +kernel⟩
theorem gX8_216 : yOk RX8 216 0 mX6_countWarmings := ⟨w_1033, w_754, w_2, ⟨by decide, by decide⟩, by decide +kernel⟩
theorem gX8_219 : yOk RX8 219 1 mX6_passFault := ⟨w_774, w_777, w_2, ⟨by decide, by decide⟩, by decide +kernel⟩
theorem gX8_222 : yOk RX8 222 1 mX6_letPass := ⟨w_778, w_781, w_2, ⟨by decide, by decide⟩, by decide +kernel⟩
theorem gX8_255 : yOk RX8 255 1 mX5_sumOfAges := ⟨w_989, w_992, w_4, ⟨by decide, by decide⟩, by decide +kernel⟩
theorem gX8_260 : yOk RX8 260 1 mX6_findShelf := ⟨w_793, w_658, w_2, ⟨by decide, by decide⟩, by decide +kernel⟩
theorem gX8_263 : yOk RX8 263 1 mX6_rankByHits := ⟨w_1076, w_1079, w_2, ⟨by decide, by decide⟩, by decide +kernel⟩
theorem gX8_268 : yOk RX8 268 1 mJ4_setLength_d00df := ⟨w_1308, w_1311, w_11, ⟨by decide, by decide⟩, by decide +kernel⟩
theorem gX8_275 : yOk RX8 275 0 mJ4_length_8abf5 := ⟨w_1364, w_1263, w_11, ⟨by decide, by decide⟩, by decide +kernel⟩
theorem gX8_271 : yOk RX8 271 2 mX8_writeEcho := ⟨w_1360, w_1363, w_1, ⟨by decide, by decide⟩, by decide +kernel⟩
theorem gX8_280 : yOk RX8 280 1 mJ4_charAt_5068e := ⟨w_1379, w_1382, w_11, ⟨by decide, by decide⟩, by decide +kernel⟩
theorem gX8_290 : yOk RX8 290 1 mX6_isSound := ⟨w_1013, w_1016, w_2, ⟨by decide, by decide⟩, by decide +kernel⟩
theorem gX8_302 : yOk RX8 302 1 mX1_append := ⟨w_1446, w_1449, w_8, ⟨by decide, by decide⟩, by decide +kernel⟩
theorem gX8_305 : yOk RX8 305 0 mX1_parse := ⟨w_1457, w_1460, w_8, ⟨by decide, by decide⟩, by decide +kernel⟩
theorem gX8_314 : yOk RX8 314 1 mX3_keep := ⟨w_1516, w_519, w_7, ⟨by decide, by decide⟩, by decide +kernel⟩
theorem gX8_337 : yOk RX8 337 0 mX3_confirm := ⟨w_1542, w_550, w_7, ⟨by decide, by decide⟩, by decide +kernel⟩
theorem gX8_320 : yOk RX8 320 1 mX1_command := ⟨w_1517, w_1520, w_8, ⟨by decide, by decide⟩, by decide +kernel⟩
theorem gX8_328 : yOk RX8 328 1 mX3_takeBack := ⟨w_1529, w_1532, w_7, ⟨by decide, by decide⟩, by decide +kernel⟩
theorem gX8_324 : yOk RX8 324 1 mX8_faultOf := ⟨w_1521, w_1524, w_1, ⟨by decide, by decide⟩, by decide +kernel⟩
theorem gX8_333 : yOk RX8 333 1 mX8_carryOut := ⟨w_1534, w_1537, w_1, ⟨by decide, by decide⟩, by decide +kernel⟩
theorem gX8_349 : yOk RX8 349 1 mX3_goBack := ⟨w_1551, w_1554, w_7, ⟨by decide, by decide⟩, by decide +kernel⟩
theorem gX8_357 : yOk RX8 357 1 mX6_findJar := ⟨w_813, w_385, w_2, ⟨by decide, by decide⟩, by decide +kernel⟩
theorem gX8_366 : yOk RX8 366 1 mX6_findWarming := ⟨w_1045, w_1048, w_2, ⟨by decide, by decide⟩, by decide +kernel⟩
theorem gX8_375 : yOk RX8 375 1 mJ4_append_cf468 := ⟨w_1365, w_1204, w_11, ⟨by decide, by decide⟩, by decide +kernel⟩
theorem gX8_378 : yOk RX8 378 1 mJ4_append_bf812 := ⟨w_1366, w_1217, w_11, ⟨by decide, by decide⟩, by decide +kernel⟩
theorem gX8_394 : yOk RX8 394 1 mX6_shelfFault := ⟨w_1525, w_1528, w_2, ⟨by decide, by decide⟩, by decide +kernel⟩
theorem gX8_397 : yOk RX8 397 2 mX6_tune := ⟨w_1538, w_1541, w_2, ⟨by decide, by decide⟩, by decide +kernel⟩
theorem gX1_32 : yOk RX1 32 1 mX1_readCommand := ⟨w_1461, w_1464, w_8, ⟨by decide, by decide⟩, by decide +kernel⟩
theorem gX1_36 : yOk RX1 36 1 mX1_readSign := ⟨w_1500, w_1503, w_8, ⟨by decide, by decide⟩, by decide +kernel⟩
theorem gX1_40 : yOk RX1 40 0 mX1_readKeyword := ⟨w_1465, w_1468, w_8, ⟨by decide, by decide⟩, by decide +kernel⟩
theorem gX1_47 : yOk RX1 47 1 mX1_readLetter := ⟨w_1492, w_1495, w_8, ⟨by decide, by decide⟩, by decide +kernel⟩
theorem gX1_53 : yOk RX1 53 1 mX1_readDigit := ⟨w_1507, w_1510, w_8, ⟨by decide, by decide⟩, by decide +kernel⟩
theorem gX1_50 : yOk RX1 50 1 mX1_readNumber := ⟨w_1496, w_1499, w_8, ⟨by decide, by decide⟩, by decide +kernel⟩
theorem gX1_56 : yOk RX1 56 1 mX1_readPolicy := ⟨w_1511, w_1514, w_8, ⟨by decide, by decide⟩, by decide +kernel⟩
theorem gX1_59 : yOk RX1 59 1 mX1_keywordOf := ⟨w_1469, w_1471, w_8, ⟨by decide, by decide⟩, by decide +kernel⟩
theorem gX1_63 : yOk RX1 63 2 mX1_countSame := ⟨w_1481, w_1484, w_8, ⟨by decide, by decide⟩, by decide +kernel⟩
theorem gX1_67 : yOk RX1 67 0 mJ0_length_8abf5 := ⟨w_1485, w_1161, w_12, ⟨by decide, by decide⟩, by decide +kernel⟩
theorem gX1_71 : yOk RX1 71 2 mJ9_max_7cf53 := ⟨w_1491, w_1116, w_21, ⟨by decide, by decide⟩, by decide +kernel⟩
theorem gX1_77 : yOk RX1 77 0 mX1_next := ⟨w_1486, w_1489, w_8, ⟨by decide, by decide⟩, by decide +kernel⟩
theorem gX1_81 : yOk RX1 81 1 mJ0_charAt_5068e := ⟨w_1490, w_563, w_12, ⟨by decide, by decide⟩, by decide +kernel⟩
theorem gX1_110 : yOk RX1 110 1 mX1_isDigit := ⟨w_1504, w_1506, w_8, ⟨by decide, by decide⟩, by decide +kernel⟩
theorem nX5_32 : nOk RX5 32 2 := ⟨by decide, w_85, w_87, w_5⟩
theorem nX3_9 : nOk RX3 9 6 := ⟨by decide, w_230, w_44, w_2⟩
theorem nX6_9 : nOk RX6 9 4 := ⟨by decide, w_49, w_55, w_3⟩
theorem nX6_17 : nOk RX6 17 5 := ⟨by decide, w_51, w_80, w_4⟩
theorem nX6_23 : nOk RX6 23 7 := ⟨by decide, w_53, w_166, w_6⟩
theorem nX8_7 : nOk RX8 7 6 := ⟨by decide, w_43, w_44, w_2⟩
theorem nX8_16 : nOk RX8 16 3 := ⟨by decide, w_224, w_225, w_7⟩
theorem nX8_30 : nOk RX8 30 1 := ⟨by decide, w_244, w_245, w_8⟩
theorem nX8_44 : nOk RX8 44 10 := ⟨by decide, w_303, w_304, w_11⟩
theorem nX1_22 : nOk RX1 22 0 := ⟨by decide, w_250, w_252, w_9⟩
