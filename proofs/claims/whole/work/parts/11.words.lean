/-! ===== the words in use ===== -/
theorem tk_1 {w : Cond} (h : w ∈ tables_1_1) (g : goodWord w = true) : w ∈ TBL := List.mem_filter.mpr ⟨List.mem_append_right _ (show w ∈ tables_1 from (List.mem_append_left _ h)), g⟩
theorem tk_2 {w : Cond} (h : w ∈ tables_1_2) (g : goodWord w = true) : w ∈ TBL := List.mem_filter.mpr ⟨List.mem_append_right _ (show w ∈ tables_1 from (List.mem_append_right _ (List.mem_append_left _ h))), g⟩
theorem tk_3 {w : Cond} (h : w ∈ tables_1_3) (g : goodWord w = true) : w ∈ TBL := List.mem_filter.mpr ⟨List.mem_append_right _ (show w ∈ tables_1 from (List.mem_append_right _ (List.mem_append_right _ (List.mem_append_left _ h)))), g⟩
theorem tk_4 {w : Cond} (h : w ∈ tables_1_4) (g : goodWord w = true) : w ∈ TBL := List.mem_filter.mpr ⟨List.mem_append_right _ (show w ∈ tables_1 from (List.mem_append_right _ (List.mem_append_right _ (List.mem_append_right _ (List.mem_append_left _ h))))), g⟩
theorem tk_5 {w : Cond} (h : w ∈ tables_1_5) (g : goodWord w = true) : w ∈ TBL := List.mem_filter.mpr ⟨List.mem_append_right _ (show w ∈ tables_1 from (List.mem_append_right _ (List.mem_append_right _ (List.mem_append_right _ (List.mem_append_right _ (List.mem_append_left _ h)))))), g⟩
theorem tk_6 {w : Cond} (h : w ∈ tables_1_6) (g : goodWord w = true) : w ∈ TBL := List.mem_filter.mpr ⟨List.mem_append_right _ (show w ∈ tables_1 from (List.mem_append_right _ (List.mem_append_right _ (List.mem_append_right _ (List.mem_append_right _ (List.mem_append_right _ (List.mem_append_left _ h))))))), g⟩
theorem tk_7 {w : Cond} (h : w ∈ tables_1_7) (g : goodWord w = true) : w ∈ TBL := List.mem_filter.mpr ⟨List.mem_append_right _ (show w ∈ tables_1 from (List.mem_append_right _ (List.mem_append_right _ (List.mem_append_right _ (List.mem_append_right _ (List.mem_append_right _ (List.mem_append_right _ (List.mem_append_left _ h)))))))), g⟩
theorem tk_8 {w : Cond} (h : w ∈ tables_1_8) (g : goodWord w = true) : w ∈ TBL := List.mem_filter.mpr ⟨List.mem_append_right _ (show w ∈ tables_1 from (List.mem_append_right _ (List.mem_append_right _ (List.mem_append_right _ (List.mem_append_right _ (List.mem_append_right _ (List.mem_append_right _ (List.mem_append_right _ (List.mem_append_left _ h))))))))), g⟩
theorem tk_9 {w : Cond} (h : w ∈ tables_1_9) (g : goodWord w = true) : w ∈ TBL := List.mem_filter.mpr ⟨List.mem_append_right _ (show w ∈ tables_1 from (List.mem_append_right _ (List.mem_append_right _ (List.mem_append_right _ (List.mem_append_right _ (List.mem_append_right _ (List.mem_append_right _ (List.mem_append_right _ (List.mem_append_right _ (h)))))))))), g⟩
theorem w_1 : (Jvm.Cond.initialized "EchoPantry") ∈ TBL := tk_1 (List.mem_of_getElem? (i := 1) rfl) rfl
theorem w_2 : (Jvm.Cond.initialized "EchoPantry$State") ∈ TBL := tk_1 (List.mem_of_getElem? (i := 2) rfl) rfl
theorem w_3 : (Jvm.Cond.initialized "EchoPantry$Jar") ∈ TBL := tk_1 (List.mem_of_getElem? (i := 3) rfl) rfl
theorem w_4 : (Jvm.Cond.initialized "EchoPantry$Shelf") ∈ TBL := tk_1 (List.mem_of_getElem? (i := 4) rfl) rfl
theorem w_5 : (Jvm.Cond.initialized "EchoPantry$Echo") ∈ TBL := tk_1 (List.mem_of_getElem? (i := 5) rfl) rfl
theorem w_6 : (Jvm.Cond.initialized "EchoPantry$Warming") ∈ TBL := tk_1 (List.mem_of_getElem? (i := 6) rfl) rfl
theorem w_7 : (Jvm.Cond.initialized "EchoPantry$History") ∈ TBL := tk_1 (List.mem_of_getElem? (i := 7) rfl) rfl
theorem w_8 : (Jvm.Cond.initialized "EchoPantry$CommandText") ∈ TBL := tk_1 (List.mem_of_getElem? (i := 8) rfl) rfl
theorem w_9 : (Jvm.Cond.initialized "EchoPantry$Command") ∈ TBL := tk_1 (List.mem_of_getElem? (i := 9) rfl) rfl
theorem w_11 : (Jvm.Cond.initialized "java/lang/StringBuilder") ∈ TBL := tk_1 (List.mem_of_getElem? (i := 11) rfl) rfl
theorem w_12 : (Jvm.Cond.initialized "java/lang/String") ∈ TBL := tk_1 (List.mem_of_getElem? (i := 12) rfl) rfl
theorem w_14 : (Jvm.Cond.initialized "EchoPantryModel") ∈ TBL := tk_1 (List.mem_of_getElem? (i := 14) rfl) rfl
theorem w_18 : (Jvm.Cond.initialized "java/lang/IndexOutOfBoundsException") ∈ TBL := tk_1 (List.mem_of_getElem? (i := 18) rfl) rfl
theorem w_19 : (Jvm.Cond.initialized "java/util/NoSuchElementException") ∈ TBL := tk_1 (List.mem_of_getElem? (i := 19) rfl) rfl
theorem w_20 : (Jvm.Cond.initialized "java/lang/IllegalArgumentException") ∈ TBL := tk_1 (List.mem_of_getElem? (i := 20) rfl) rfl
theorem w_21 : (Jvm.Cond.initialized "java/lang/IllegalStateException") ∈ TBL := tk_1 (List.mem_of_getElem? (i := 21) rfl) rfl
theorem w_22 : (Jvm.Cond.initialized "java/lang/Math") ∈ TBL := tk_1 (List.mem_of_getElem? (i := 22) rfl) rfl
theorem w_23 : (Jvm.Cond.initialized "java/lang/System") ∈ TBL := tk_1 (List.mem_of_getElem? (i := 23) rfl) rfl
theorem w_25 : (Jvm.Cond.initialized "java/lang/ArithmeticException") ∈ TBL := tk_1 (List.mem_of_getElem? (i := 25) rfl) rfl
theorem w_38 : (Jvm.Cond.methodLink "EchoPantry" (1 : Nat) ({ cls := "java/lang/Object", name := "<init>", desc := "()V" } : Jvm.MethodName)) ∈ TBL := tk_1 (List.mem_of_getElem? (i := 38) rfl) rfl
theorem w_39 : (Jvm.Cond.instanceMethod ({ cls := "java/lang/Object", name := "<init>", desc := "()V" } : Jvm.MethodName)) ∈ TBL := tk_1 (List.mem_of_getElem? (i := 39) rfl) rfl
theorem w_40 : (Jvm.Cond.code ({ cls := "java/lang/Object", name := "<init>", desc := "()V" } : Jvm.MethodName) object_method_1_code (1 : Nat) (Option.none : Option Jvm.ClassFile.FieldType)) ∈ TBL := tk_1 (List.mem_of_getElem? (i := 40) rfl) rfl
theorem w_41 : (Jvm.Cond.classLink "EchoPantry" (7 : Nat) "EchoPantry$State") ∈ TBL := tk_1 (List.mem_of_getElem? (i := 41) rfl) rfl
theorem w_42 : (Jvm.Cond.instantiable "EchoPantry$State" (9 : Nat)) ∈ TBL := tk_1 (List.mem_of_getElem? (i := 42) rfl) rfl
theorem w_43 : (Jvm.Cond.methodLink "EchoPantry" (9 : Nat) ({ cls := "EchoPantry$State", name := "<init>", desc := "()V" } : Jvm.MethodName)) ∈ TBL := tk_1 (List.mem_of_getElem? (i := 43) rfl) rfl
theorem w_44 : (Jvm.Cond.instanceMethod ({ cls := "EchoPantry$State", name := "<init>", desc := "()V" } : Jvm.MethodName)) ∈ TBL := tk_1 (List.mem_of_getElem? (i := 44) rfl) rfl
theorem w_45 : (Jvm.Cond.code ({ cls := "EchoPantry$State", name := "<init>", desc := "()V" } : Jvm.MethodName) prog_8_method_1_code (2 : Nat) (Option.none : Option Jvm.ClassFile.FieldType)) ∈ TBL := tk_1 (List.mem_of_getElem? (i := 45) rfl) rfl
theorem w_46 : (Jvm.Cond.methodLink "EchoPantry$State" (3 : Nat) ({ cls := "java/lang/Object", name := "<init>", desc := "()V" } : Jvm.MethodName)) ∈ TBL := tk_1 (List.mem_of_getElem? (i := 46) rfl) rfl
theorem w_47 : (Jvm.Cond.classLink "EchoPantry$State" (9 : Nat) "EchoPantry$Jar") ∈ TBL := tk_1 (List.mem_of_getElem? (i := 47) rfl) rfl
theorem w_49 : (Jvm.Cond.classLink "EchoPantry$State" (17 : Nat) "EchoPantry$Shelf") ∈ TBL := tk_1 (List.mem_of_getElem? (i := 49) rfl) rfl
theorem w_51 : (Jvm.Cond.classLink "EchoPantry$State" (23 : Nat) "EchoPantry$Warming") ∈ TBL := tk_1 (List.mem_of_getElem? (i := 51) rfl) rfl
theorem w_53 : (Jvm.Cond.instantiable "EchoPantry$Jar" (4 : Nat)) ∈ TBL := tk_1 (List.mem_of_getElem? (i := 53) rfl) rfl
theorem w_55 : (Jvm.Cond.instanceMethod ({ cls := "EchoPantry$Jar", name := "<init>", desc := "()V" } : Jvm.MethodName)) ∈ TBL := tk_1 (List.mem_of_getElem? (i := 55) rfl) rfl
theorem w_56 : (Jvm.Cond.code ({ cls := "EchoPantry$Jar", name := "<init>", desc := "()V" } : Jvm.MethodName) prog_6_method_1_code (1 : Nat) (Option.none : Option Jvm.ClassFile.FieldType)) ∈ TBL := tk_1 (List.mem_of_getElem? (i := 56) rfl) rfl
theorem w_57 : (Jvm.Cond.methodLink "EchoPantry$Jar" (1 : Nat) ({ cls := "java/lang/Object", name := "<init>", desc := "()V" } : Jvm.MethodName)) ∈ TBL := tk_1 (List.mem_of_getElem? (i := 57) rfl) rfl
theorem w_58 : (Jvm.Cond.fieldLink "EchoPantry$Jar" (7 : Nat) "EchoPantry$Jar" "isThere" "Z") ∈ TBL := tk_1 (List.mem_of_getElem? (i := 58) rfl) rfl
theorem w_59 : (Jvm.Cond.fieldLink "EchoPantry$State" (65 : Nat) "EchoPantry$Jar" "isThere" "Z") ∈ TBL := tk_1 (List.mem_of_getElem? (i := 59) rfl) rfl
theorem w_60 : (Jvm.Cond.fieldLink "EchoPantry$Jar" (13 : Nat) "EchoPantry$Jar" "word" "I") ∈ TBL := tk_1 (List.mem_of_getElem? (i := 60) rfl) rfl
theorem w_61 : (Jvm.Cond.fieldLink "EchoPantry$Echo" (41 : Nat) "EchoPantry$Jar" "word" "I") ∈ TBL := tk_1 (List.mem_of_getElem? (i := 61) rfl) rfl
theorem w_62 : (Jvm.Cond.fieldLink "EchoPantry" (98 : Nat) "EchoPantry$Jar" "word" "I") ∈ TBL := tk_1 (List.mem_of_getElem? (i := 62) rfl) rfl
theorem w_63 : (Jvm.Cond.fieldLink "EchoPantry$State" (144 : Nat) "EchoPantry$Jar" "word" "I") ∈ TBL := tk_1 (List.mem_of_getElem? (i := 63) rfl) rfl
theorem w_64 : (Jvm.Cond.fieldLink "EchoPantry$Jar" (17 : Nat) "EchoPantry$Jar" "timesSpoken" "I") ∈ TBL := tk_1 (List.mem_of_getElem? (i := 64) rfl) rfl
theorem w_65 : (Jvm.Cond.fieldLink "EchoPantry$Echo" (44 : Nat) "EchoPantry$Jar" "timesSpoken" "I") ∈ TBL := tk_1 (List.mem_of_getElem? (i := 65) rfl) rfl
theorem w_66 : (Jvm.Cond.fieldLink "EchoPantry$State" (96 : Nat) "EchoPantry$Jar" "timesSpoken" "I") ∈ TBL := tk_1 (List.mem_of_getElem? (i := 66) rfl) rfl
theorem w_67 : (Jvm.Cond.fieldLink "EchoPantry$Jar" (20 : Nat) "EchoPantry$Jar" "lastStep" "I") ∈ TBL := tk_1 (List.mem_of_getElem? (i := 67) rfl) rfl
theorem w_68 : (Jvm.Cond.fieldLink "EchoPantry$State" (135 : Nat) "EchoPantry$Jar" "lastStep" "I") ∈ TBL := tk_1 (List.mem_of_getElem? (i := 68) rfl) rfl
theorem w_78 : (Jvm.Cond.instantiable "EchoPantry$Shelf" (7 : Nat)) ∈ TBL := tk_1 (List.mem_of_getElem? (i := 78) rfl) rfl
theorem w_79 : (Jvm.Cond.methodLink "EchoPantry$State" (49 : Nat) ({ cls := "EchoPantry$Shelf", name := "<init>", desc := "()V" } : Jvm.MethodName)) ∈ TBL := tk_1 (List.mem_of_getElem? (i := 79) rfl) rfl
theorem w_80 : (Jvm.Cond.instanceMethod ({ cls := "EchoPantry$Shelf", name := "<init>", desc := "()V" } : Jvm.MethodName)) ∈ TBL := tk_1 (List.mem_of_getElem? (i := 80) rfl) rfl
theorem w_81 : (Jvm.Cond.code ({ cls := "EchoPantry$Shelf", name := "<init>", desc := "()V" } : Jvm.MethodName) prog_7_method_1_code (2 : Nat) (Option.none : Option Jvm.ClassFile.FieldType)) ∈ TBL := tk_1 (List.mem_of_getElem? (i := 81) rfl) rfl
theorem w_82 : (Jvm.Cond.methodLink "EchoPantry$Shelf" (3 : Nat) ({ cls := "java/lang/Object", name := "<init>", desc := "()V" } : Jvm.MethodName)) ∈ TBL := tk_1 (List.mem_of_getElem? (i := 82) rfl) rfl
theorem w_83 : (Jvm.Cond.classLink "EchoPantry$Shelf" (32 : Nat) "EchoPantry$Echo") ∈ TBL := tk_1 (List.mem_of_getElem? (i := 83) rfl) rfl
theorem w_85 : (Jvm.Cond.instantiable "EchoPantry$Echo" (9 : Nat)) ∈ TBL := tk_1 (List.mem_of_getElem? (i := 85) rfl) rfl
theorem w_87 : (Jvm.Cond.instanceMethod ({ cls := "EchoPantry$Echo", name := "<init>", desc := "()V" } : Jvm.MethodName)) ∈ TBL := tk_1 (List.mem_of_getElem? (i := 87) rfl) rfl
theorem w_88 : (Jvm.Cond.code ({ cls := "EchoPantry$Echo", name := "<init>", desc := "()V" } : Jvm.MethodName) prog_4_method_1_code (1 : Nat) (Option.none : Option Jvm.ClassFile.FieldType)) ∈ TBL := tk_1 (List.mem_of_getElem? (i := 88) rfl) rfl
theorem w_89 : (Jvm.Cond.methodLink "EchoPantry$Echo" (3 : Nat) ({ cls := "java/lang/Object", name := "<init>", desc := "()V" } : Jvm.MethodName)) ∈ TBL := tk_1 (List.mem_of_getElem? (i := 89) rfl) rfl
theorem w_90 : (Jvm.Cond.fieldLink "EchoPantry$Echo" (9 : Nat) "EchoPantry$Echo" "isThere" "Z") ∈ TBL := tk_1 (List.mem_of_getElem? (i := 90) rfl) rfl
theorem w_91 : (Jvm.Cond.fieldLink "EchoPantry$Shelf" (43 : Nat) "EchoPantry$Echo" "isThere" "Z") ∈ TBL := tk_1 (List.mem_of_getElem? (i := 91) rfl) rfl
theorem w_92 : (Jvm.Cond.fieldLink "EchoPantry" (287 : Nat) "EchoPantry$Echo" "isThere" "Z") ∈ TBL := tk_1 (List.mem_of_getElem? (i := 92) rfl) rfl
theorem w_93 : (Jvm.Cond.fieldLink "EchoPantry$Echo" (15 : Nat) "EchoPantry$Echo" "letter" "C") ∈ TBL := tk_1 (List.mem_of_getElem? (i := 93) rfl) rfl
theorem w_94 : (Jvm.Cond.fieldLink "EchoPantry$Shelf" (44 : Nat) "EchoPantry$Echo" "letter" "C") ∈ TBL := tk_1 (List.mem_of_getElem? (i := 94) rfl) rfl
theorem w_95 : (Jvm.Cond.fieldLink "EchoPantry$State" (125 : Nat) "EchoPantry$Echo" "letter" "C") ∈ TBL := tk_1 (List.mem_of_getElem? (i := 95) rfl) rfl
theorem w_96 : (Jvm.Cond.fieldLink "EchoPantry" (184 : Nat) "EchoPantry$Echo" "letter" "C") ∈ TBL := tk_1 (List.mem_of_getElem? (i := 96) rfl) rfl
theorem w_97 : (Jvm.Cond.fieldLink "EchoPantry$Echo" (19 : Nat) "EchoPantry$Echo" "word" "I") ∈ TBL := tk_1 (List.mem_of_getElem? (i := 97) rfl) rfl
theorem w_98 : (Jvm.Cond.fieldLink "EchoPantry$Shelf" (88 : Nat) "EchoPantry$Echo" "word" "I") ∈ TBL := tk_1 (List.mem_of_getElem? (i := 98) rfl) rfl
theorem w_99 : (Jvm.Cond.fieldLink "EchoPantry" (151 : Nat) "EchoPantry$Echo" "word" "I") ∈ TBL := tk_1 (List.mem_of_getElem? (i := 99) rfl) rfl
theorem w_100 : (Jvm.Cond.fieldLink "EchoPantry$State" (147 : Nat) "EchoPantry$Echo" "word" "I") ∈ TBL := tk_1 (List.mem_of_getElem? (i := 100) rfl) rfl
theorem w_101 : (Jvm.Cond.fieldLink "EchoPantry$Echo" (23 : Nat) "EchoPantry$Echo" "fetchMinute" "I") ∈ TBL := tk_1 (List.mem_of_getElem? (i := 101) rfl) rfl
theorem w_102 : (Jvm.Cond.fieldLink "EchoPantry$Echo" (26 : Nat) "EchoPantry$Echo" "fetchStep" "I") ∈ TBL := tk_1 (List.mem_of_getElem? (i := 102) rfl) rfl
theorem w_103 : (Jvm.Cond.fieldLink "EchoPantry$Shelf" (70 : Nat) "EchoPantry$Echo" "fetchStep" "I") ∈ TBL := tk_1 (List.mem_of_getElem? (i := 103) rfl) rfl
theorem w_104 : (Jvm.Cond.fieldLink "EchoPantry$State" (132 : Nat) "EchoPantry$Echo" "fetchStep" "I") ∈ TBL := tk_1 (List.mem_of_getElem? (i := 104) rfl) rfl
theorem w_105 : (Jvm.Cond.fieldLink "EchoPantry$Echo" (29 : Nat) "EchoPantry$Echo" "heardStep" "I") ∈ TBL := tk_1 (List.mem_of_getElem? (i := 105) rfl) rfl
theorem w_106 : (Jvm.Cond.fieldLink "EchoPantry$Shelf" (66 : Nat) "EchoPantry$Echo" "heardStep" "I") ∈ TBL := tk_1 (List.mem_of_getElem? (i := 106) rfl) rfl
theorem w_107 : (Jvm.Cond.fieldLink "EchoPantry$Echo" (32 : Nat) "EchoPantry$Echo" "hitCount" "I") ∈ TBL := tk_1 (List.mem_of_getElem? (i := 107) rfl) rfl
theorem w_108 : (Jvm.Cond.fieldLink "EchoPantry$Shelf" (69 : Nat) "EchoPantry$Echo" "hitCount" "I") ∈ TBL := tk_1 (List.mem_of_getElem? (i := 108) rfl) rfl
theorem w_109 : (Jvm.Cond.fieldLink "EchoPantry" (161 : Nat) "EchoPantry$Echo" "hitCount" "I") ∈ TBL := tk_1 (List.mem_of_getElem? (i := 109) rfl) rfl
theorem w_110 : (Jvm.Cond.fieldLink "EchoPantry$Echo" (35 : Nat) "EchoPantry$Echo" "timesSpoken" "I") ∈ TBL := tk_1 (List.mem_of_getElem? (i := 110) rfl) rfl
theorem w_111 : (Jvm.Cond.fieldLink "EchoPantry$State" (131 : Nat) "EchoPantry$Echo" "timesSpoken" "I") ∈ TBL := tk_1 (List.mem_of_getElem? (i := 111) rfl) rfl
theorem w_112 : (Jvm.Cond.fieldLink "EchoPantry$Echo" (38 : Nat) "EchoPantry$Echo" "hasOpenLid" "Z") ∈ TBL := tk_1 (List.mem_of_getElem? (i := 112) rfl) rfl
theorem w_113 : (Jvm.Cond.fieldLink "EchoPantry$Shelf" (59 : Nat) "EchoPantry$Echo" "hasOpenLid" "Z") ∈ TBL := tk_1 (List.mem_of_getElem? (i := 113) rfl) rfl
theorem w_114 : (Jvm.Cond.fieldLink "EchoPantry" (168 : Nat) "EchoPantry$Echo" "hasOpenLid" "Z") ∈ TBL := tk_1 (List.mem_of_getElem? (i := 114) rfl) rfl
theorem w_134 : (Jvm.Cond.fieldLink "EchoPantry$Shelf" (9 : Nat) "EchoPantry$Shelf" "isThere" "Z") ∈ TBL := tk_1 (List.mem_of_getElem? (i := 134) rfl) rfl
theorem w_135 : (Jvm.Cond.fieldLink "EchoPantry$State" (69 : Nat) "EchoPantry$Shelf" "isThere" "Z") ∈ TBL := tk_1 (List.mem_of_getElem? (i := 135) rfl) rfl
theorem w_136 : (Jvm.Cond.fieldLink "EchoPantry$Shelf" (15 : Nat) "EchoPantry$Shelf" "capacity" "I") ∈ TBL := tk_1 (List.mem_of_getElem? (i := 136) rfl) rfl
theorem w_137 : (Jvm.Cond.fieldLink "EchoPantry" (122 : Nat) "EchoPantry$Shelf" "capacity" "I") ∈ TBL := tk_1 (List.mem_of_getElem? (i := 137) rfl) rfl
theorem w_138 : (Jvm.Cond.fieldLink "EchoPantry$Shelf" (19 : Nat) "EchoPantry$Shelf" "lifetime" "I") ∈ TBL := tk_1 (List.mem_of_getElem? (i := 138) rfl) rfl
theorem w_139 : (Jvm.Cond.fieldLink "EchoPantry" (125 : Nat) "EchoPantry$Shelf" "lifetime" "I") ∈ TBL := tk_1 (List.mem_of_getElem? (i := 139) rfl) rfl
theorem w_140 : (Jvm.Cond.fieldLink "EchoPantry$Shelf" (22 : Nat) "EchoPantry$Shelf" "policy" "C") ∈ TBL := tk_1 (List.mem_of_getElem? (i := 140) rfl) rfl
theorem w_141 : (Jvm.Cond.fieldLink "EchoPantry" (128 : Nat) "EchoPantry$Shelf" "policy" "C") ∈ TBL := tk_1 (List.mem_of_getElem? (i := 141) rfl) rfl
theorem w_142 : (Jvm.Cond.fieldLink "EchoPantry$Shelf" (26 : Nat) "EchoPantry$Shelf" "listens" "Z") ∈ TBL := tk_1 (List.mem_of_getElem? (i := 142) rfl) rfl
theorem w_143 : (Jvm.Cond.fieldLink "EchoPantry" (114 : Nat) "EchoPantry$Shelf" "listens" "Z") ∈ TBL := tk_1 (List.mem_of_getElem? (i := 143) rfl) rfl
theorem w_144 : (Jvm.Cond.fieldLink "EchoPantry$State" (111 : Nat) "EchoPantry$Shelf" "listens" "Z") ∈ TBL := tk_1 (List.mem_of_getElem? (i := 144) rfl) rfl
theorem w_145 : (Jvm.Cond.fieldLink "EchoPantry$Shelf" (29 : Nat) "EchoPantry$Shelf" "hitCount" "I") ∈ TBL := tk_1 (List.mem_of_getElem? (i := 145) rfl) rfl
theorem w_146 : (Jvm.Cond.fieldLink "EchoPantry$State" (122 : Nat) "EchoPantry$Shelf" "hitCount" "I") ∈ TBL := tk_1 (List.mem_of_getElem? (i := 146) rfl) rfl
theorem w_147 : (Jvm.Cond.fieldLink "EchoPantry$Shelf" (34 : Nat) "EchoPantry$Shelf" "order" "[LEchoPantry$Echo;") ∈ TBL := tk_1 (List.mem_of_getElem? (i := 147) rfl) rfl
theorem w_148 : (Jvm.Cond.fieldLink "EchoPantry" (283 : Nat) "EchoPantry$Shelf" "order" "[LEchoPantry$Echo;") ∈ TBL := tk_1 (List.mem_of_getElem? (i := 148) rfl) rfl
theorem w_164 : (Jvm.Cond.instantiable "EchoPantry$Warming" (4 : Nat)) ∈ TBL := tk_1 (List.mem_of_getElem? (i := 164) rfl) rfl
theorem w_166 : (Jvm.Cond.instanceMethod ({ cls := "EchoPantry$Warming", name := "<init>", desc := "()V" } : Jvm.MethodName)) ∈ TBL := tk_1 (List.mem_of_getElem? (i := 166) rfl) rfl
theorem w_167 : (Jvm.Cond.code ({ cls := "EchoPantry$Warming", name := "<init>", desc := "()V" } : Jvm.MethodName) prog_9_method_1_code (1 : Nat) (Option.none : Option Jvm.ClassFile.FieldType)) ∈ TBL := tk_1 (List.mem_of_getElem? (i := 167) rfl) rfl
theorem w_168 : (Jvm.Cond.methodLink "EchoPantry$Warming" (3 : Nat) ({ cls := "java/lang/Object", name := "<init>", desc := "()V" } : Jvm.MethodName)) ∈ TBL := tk_1 (List.mem_of_getElem? (i := 168) rfl) rfl
theorem w_169 : (Jvm.Cond.fieldLink "EchoPantry$Warming" (9 : Nat) "EchoPantry$Warming" "isThere" "Z") ∈ TBL := tk_1 (List.mem_of_getElem? (i := 169) rfl) rfl
theorem w_170 : (Jvm.Cond.fieldLink "EchoPantry$State" (70 : Nat) "EchoPantry$Warming" "isThere" "Z") ∈ TBL := tk_1 (List.mem_of_getElem? (i := 170) rfl) rfl
theorem w_171 : (Jvm.Cond.fieldLink "EchoPantry$Warming" (15 : Nat) "EchoPantry$Warming" "minute" "I") ∈ TBL := tk_1 (List.mem_of_getElem? (i := 171) rfl) rfl
theorem w_172 : (Jvm.Cond.fieldLink "EchoPantry$State" (167 : Nat) "EchoPantry$Warming" "minute" "I") ∈ TBL := tk_1 (List.mem_of_getElem? (i := 172) rfl) rfl
theorem w_173 : (Jvm.Cond.fieldLink "EchoPantry" (225 : Nat) "EchoPantry$Warming" "minute" "I") ∈ TBL := tk_1 (List.mem_of_getElem? (i := 173) rfl) rfl
theorem w_174 : (Jvm.Cond.fieldLink "EchoPantry$Warming" (19 : Nat) "EchoPantry$Warming" "shelf" "I") ∈ TBL := tk_1 (List.mem_of_getElem? (i := 174) rfl) rfl
theorem w_175 : (Jvm.Cond.fieldLink "EchoPantry$State" (168 : Nat) "EchoPantry$Warming" "shelf" "I") ∈ TBL := tk_1 (List.mem_of_getElem? (i := 175) rfl) rfl
theorem w_176 : (Jvm.Cond.fieldLink "EchoPantry$Warming" (22 : Nat) "EchoPantry$Warming" "letter" "C") ∈ TBL := tk_1 (List.mem_of_getElem? (i := 176) rfl) rfl
theorem w_177 : (Jvm.Cond.fieldLink "EchoPantry$State" (171 : Nat) "EchoPantry$Warming" "letter" "C") ∈ TBL := tk_1 (List.mem_of_getElem? (i := 177) rfl) rfl
theorem w_178 : (Jvm.Cond.fieldLink "EchoPantry" (228 : Nat) "EchoPantry$Warming" "letter" "C") ∈ TBL := tk_1 (List.mem_of_getElem? (i := 178) rfl) rfl
theorem w_188 : (Jvm.Cond.fieldLink "EchoPantry$State" (11 : Nat) "EchoPantry$State" "jars" "[LEchoPantry$Jar;") ∈ TBL := tk_1 (List.mem_of_getElem? (i := 188) rfl) rfl
theorem w_189 : (Jvm.Cond.fieldLink "EchoPantry$State" (19 : Nat) "EchoPantry$State" "shelves" "[LEchoPantry$Shelf;") ∈ TBL := tk_1 (List.mem_of_getElem? (i := 189) rfl) rfl
theorem w_190 : (Jvm.Cond.fieldLink "EchoPantry" (251 : Nat) "EchoPantry$State" "shelves" "[LEchoPantry$Shelf;") ∈ TBL := tk_1 (List.mem_of_getElem? (i := 190) rfl) rfl
theorem w_191 : (Jvm.Cond.fieldLink "EchoPantry$State" (25 : Nat) "EchoPantry$State" "warmings" "[LEchoPantry$Warming;") ∈ TBL := tk_1 (List.mem_of_getElem? (i := 191) rfl) rfl
theorem w_192 : (Jvm.Cond.fieldLink "EchoPantry$State" (29 : Nat) "EchoPantry$State" "minute" "I") ∈ TBL := tk_1 (List.mem_of_getElem? (i := 192) rfl) rfl
theorem w_193 : (Jvm.Cond.fieldLink "EchoPantry" (154 : Nat) "EchoPantry$State" "minute" "I") ∈ TBL := tk_1 (List.mem_of_getElem? (i := 193) rfl) rfl
theorem w_194 : (Jvm.Cond.fieldLink "EchoPantry$State" (33 : Nat) "EchoPantry$State" "nextStep" "I") ∈ TBL := tk_1 (List.mem_of_getElem? (i := 194) rfl) rfl
theorem w_195 : (Jvm.Cond.fieldLink "EchoPantry$State" (36 : Nat) "EchoPantry$State" "hitTotal" "I") ∈ TBL := tk_1 (List.mem_of_getElem? (i := 195) rfl) rfl
theorem w_196 : (Jvm.Cond.fieldLink "EchoPantry" (229 : Nat) "EchoPantry$State" "hitTotal" "I") ∈ TBL := tk_1 (List.mem_of_getElem? (i := 196) rfl) rfl
theorem w_197 : (Jvm.Cond.fieldLink "EchoPantry$State" (39 : Nat) "EchoPantry$State" "coldTotal" "I") ∈ TBL := tk_1 (List.mem_of_getElem? (i := 197) rfl) rfl
theorem w_198 : (Jvm.Cond.fieldLink "EchoPantry" (232 : Nat) "EchoPantry$State" "coldTotal" "I") ∈ TBL := tk_1 (List.mem_of_getElem? (i := 198) rfl) rfl
theorem w_199 : (Jvm.Cond.fieldLink "EchoPantry$State" (42 : Nat) "EchoPantry$State" "expiredTotal" "I") ∈ TBL := tk_1 (List.mem_of_getElem? (i := 199) rfl) rfl
theorem w_200 : (Jvm.Cond.fieldLink "EchoPantry" (235 : Nat) "EchoPantry$State" "expiredTotal" "I") ∈ TBL := tk_1 (List.mem_of_getElem? (i := 200) rfl) rfl
theorem w_201 : (Jvm.Cond.fieldLink "EchoPantry$State" (45 : Nat) "EchoPantry$State" "openTotal" "I") ∈ TBL := tk_1 (List.mem_of_getElem? (i := 201) rfl) rfl
theorem w_202 : (Jvm.Cond.fieldLink "EchoPantry" (238 : Nat) "EchoPantry$State" "openTotal" "I") ∈ TBL := tk_1 (List.mem_of_getElem? (i := 202) rfl) rfl
theorem w_222 : (Jvm.Cond.classLink "EchoPantry" (16 : Nat) "EchoPantry$History") ∈ TBL := tk_1 (List.mem_of_getElem? (i := 222) rfl) rfl
theorem w_223 : (Jvm.Cond.instantiable "EchoPantry$History" (3 : Nat)) ∈ TBL := tk_1 (List.mem_of_getElem? (i := 223) rfl) rfl
theorem w_224 : (Jvm.Cond.methodLink "EchoPantry" (18 : Nat) ({ cls := "EchoPantry$History", name := "<init>", desc := "()V" } : Jvm.MethodName)) ∈ TBL := tk_1 (List.mem_of_getElem? (i := 224) rfl) rfl
theorem w_225 : (Jvm.Cond.instanceMethod ({ cls := "EchoPantry$History", name := "<init>", desc := "()V" } : Jvm.MethodName)) ∈ TBL := tk_1 (List.mem_of_getElem? (i := 225) rfl) rfl
theorem w_226 : (Jvm.Cond.code ({ cls := "EchoPantry$History", name := "<init>", desc := "()V" } : Jvm.MethodName) prog_5_method_1_code (2 : Nat) (Option.none : Option Jvm.ClassFile.FieldType)) ∈ TBL := tk_1 (List.mem_of_getElem? (i := 226) rfl) rfl
theorem w_227 : (Jvm.Cond.methodLink "EchoPantry$History" (3 : Nat) ({ cls := "java/lang/Object", name := "<init>", desc := "()V" } : Jvm.MethodName)) ∈ TBL := tk_1 (List.mem_of_getElem? (i := 227) rfl) rfl
theorem w_228 : (Jvm.Cond.classLink "EchoPantry$History" (9 : Nat) "EchoPantry$State") ∈ TBL := tk_1 (List.mem_of_getElem? (i := 228) rfl) rfl
theorem w_230 : (Jvm.Cond.methodLink "EchoPantry$History" (24 : Nat) ({ cls := "EchoPantry$State", name := "<init>", desc := "()V" } : Jvm.MethodName)) ∈ TBL := tk_1 (List.mem_of_getElem? (i := 230) rfl) rfl
theorem w_231 : (Jvm.Cond.fieldLink "EchoPantry$History" (11 : Nat) "EchoPantry$History" "rows" "[LEchoPantry$State;") ∈ TBL := tk_1 (List.mem_of_getElem? (i := 231) rfl) rfl
theorem w_232 : (Jvm.Cond.fieldLink "EchoPantry$History" (17 : Nat) "EchoPantry$History" "first" "I") ∈ TBL := tk_1 (List.mem_of_getElem? (i := 232) rfl) rfl
theorem w_233 : (Jvm.Cond.fieldLink "EchoPantry$History" (21 : Nat) "EchoPantry$History" "count" "I") ∈ TBL := tk_1 (List.mem_of_getElem? (i := 233) rfl) rfl
theorem w_234 : (Jvm.Cond.fieldLink "EchoPantry" (344 : Nat) "EchoPantry$History" "count" "I") ∈ TBL := tk_1 (List.mem_of_getElem? (i := 234) rfl) rfl
theorem w_242 : (Jvm.Cond.classLink "EchoPantry" (30 : Nat) "EchoPantry$CommandText") ∈ TBL := tk_2 (List.mem_of_getElem? (i := 2) rfl) rfl
theorem w_243 : (Jvm.Cond.instantiable "EchoPantry$CommandText" (5 : Nat)) ∈ TBL := tk_2 (List.mem_of_getElem? (i := 3) rfl) rfl
theorem w_244 : (Jvm.Cond.methodLink "EchoPantry" (32 : Nat) ({ cls := "EchoPantry$CommandText", name := "<init>", desc := "()V" } : Jvm.MethodName)) ∈ TBL := tk_2 (List.mem_of_getElem? (i := 4) rfl) rfl
theorem w_245 : (Jvm.Cond.instanceMethod ({ cls := "EchoPantry$CommandText", name := "<init>", desc := "()V" } : Jvm.MethodName)) ∈ TBL := tk_2 (List.mem_of_getElem? (i := 5) rfl) rfl
theorem w_246 : (Jvm.Cond.code ({ cls := "EchoPantry$CommandText", name := "<init>", desc := "()V" } : Jvm.MethodName) prog_3_method_1_code (2 : Nat) (Option.none : Option Jvm.ClassFile.FieldType)) ∈ TBL := tk_2 (List.mem_of_getElem? (i := 6) rfl) rfl
theorem w_247 : (Jvm.Cond.methodLink "EchoPantry$CommandText" (3 : Nat) ({ cls := "java/lang/Object", name := "<init>", desc := "()V" } : Jvm.MethodName)) ∈ TBL := tk_2 (List.mem_of_getElem? (i := 7) rfl) rfl
theorem w_248 : (Jvm.Cond.classLink "EchoPantry$CommandText" (22 : Nat) "EchoPantry$Command") ∈ TBL := tk_2 (List.mem_of_getElem? (i := 8) rfl) rfl
theorem w_250 : (Jvm.Cond.instantiable "EchoPantry$Command" (5 : Nat)) ∈ TBL := tk_2 (List.mem_of_getElem? (i := 10) rfl) rfl
theorem w_252 : (Jvm.Cond.instanceMethod ({ cls := "EchoPantry$Command", name := "<init>", desc := "()V" } : Jvm.MethodName)) ∈ TBL := tk_2 (List.mem_of_getElem? (i := 12) rfl) rfl
theorem w_253 : (Jvm.Cond.code ({ cls := "EchoPantry$Command", name := "<init>", desc := "()V" } : Jvm.MethodName) prog_2_method_1_code (1 : Nat) (Option.none : Option Jvm.ClassFile.FieldType)) ∈ TBL := tk_2 (List.mem_of_getElem? (i := 13) rfl) rfl
theorem w_254 : (Jvm.Cond.methodLink "EchoPantry$Command" (3 : Nat) ({ cls := "java/lang/Object", name := "<init>", desc := "()V" } : Jvm.MethodName)) ∈ TBL := tk_2 (List.mem_of_getElem? (i := 14) rfl) rfl
theorem w_255 : (Jvm.Cond.fieldLink "EchoPantry$Command" (9 : Nat) "EchoPantry$Command" "kind" "I") ∈ TBL := tk_2 (List.mem_of_getElem? (i := 15) rfl) rfl
theorem w_256 : (Jvm.Cond.fieldLink "EchoPantry$CommandText" (44 : Nat) "EchoPantry$Command" "kind" "I") ∈ TBL := tk_2 (List.mem_of_getElem? (i := 16) rfl) rfl
theorem w_257 : (Jvm.Cond.fieldLink "EchoPantry" (381 : Nat) "EchoPantry$Command" "kind" "I") ∈ TBL := tk_2 (List.mem_of_getElem? (i := 17) rfl) rfl
theorem w_258 : (Jvm.Cond.fieldLink "EchoPantry$Command" (15 : Nat) "EchoPantry$Command" "letter" "C") ∈ TBL := tk_2 (List.mem_of_getElem? (i := 18) rfl) rfl
theorem w_259 : (Jvm.Cond.fieldLink "EchoPantry$CommandText" (103 : Nat) "EchoPantry$Command" "letter" "C") ∈ TBL := tk_2 (List.mem_of_getElem? (i := 19) rfl) rfl
theorem w_260 : (Jvm.Cond.fieldLink "EchoPantry" (386 : Nat) "EchoPantry$Command" "letter" "C") ∈ TBL := tk_2 (List.mem_of_getElem? (i := 20) rfl) rfl
theorem w_261 : (Jvm.Cond.fieldLink "EchoPantry$Command" (19 : Nat) "EchoPantry$Command" "digit" "I") ∈ TBL := tk_2 (List.mem_of_getElem? (i := 21) rfl) rfl
theorem w_262 : (Jvm.Cond.fieldLink "EchoPantry$CommandText" (113 : Nat) "EchoPantry$Command" "digit" "I") ∈ TBL := tk_2 (List.mem_of_getElem? (i := 22) rfl) rfl
theorem w_263 : (Jvm.Cond.fieldLink "EchoPantry" (390 : Nat) "EchoPantry$Command" "digit" "I") ∈ TBL := tk_2 (List.mem_of_getElem? (i := 23) rfl) rfl
theorem w_264 : (Jvm.Cond.fieldLink "EchoPantry$Command" (22 : Nat) "EchoPantry$Command" "number" "I") ∈ TBL := tk_2 (List.mem_of_getElem? (i := 24) rfl) rfl
theorem w_265 : (Jvm.Cond.fieldLink "EchoPantry$CommandText" (116 : Nat) "EchoPantry$Command" "number" "I") ∈ TBL := tk_2 (List.mem_of_getElem? (i := 25) rfl) rfl
theorem w_266 : (Jvm.Cond.fieldLink "EchoPantry" (387 : Nat) "EchoPantry$Command" "number" "I") ∈ TBL := tk_2 (List.mem_of_getElem? (i := 26) rfl) rfl
theorem w_267 : (Jvm.Cond.fieldLink "EchoPantry$Command" (25 : Nat) "EchoPantry$Command" "policy" "C") ∈ TBL := tk_2 (List.mem_of_getElem? (i := 27) rfl) rfl
theorem w_268 : (Jvm.Cond.fieldLink "EchoPantry$CommandText" (107 : Nat) "EchoPantry$Command" "policy" "C") ∈ TBL := tk_2 (List.mem_of_getElem? (i := 28) rfl) rfl
theorem w_269 : (Jvm.Cond.fieldLink "EchoPantry" (393 : Nat) "EchoPantry$Command" "policy" "C") ∈ TBL := tk_2 (List.mem_of_getElem? (i := 29) rfl) rfl
theorem w_281 : (Jvm.Cond.arrayClass Jvm.ClassFile.FieldType.char) ∈ TBL := tk_2 (List.mem_of_getElem? (i := 41) rfl) rfl
theorem w_282 : (Jvm.Cond.fieldLink "EchoPantry$CommandText" (9 : Nat) "EchoPantry$CommandText" "characters" "[C") ∈ TBL := tk_2 (List.mem_of_getElem? (i := 42) rfl) rfl
theorem w_283 : (Jvm.Cond.fieldLink "EchoPantry$CommandText" (15 : Nat) "EchoPantry$CommandText" "length" "I") ∈ TBL := tk_2 (List.mem_of_getElem? (i := 43) rfl) rfl
theorem w_284 : (Jvm.Cond.fieldLink "EchoPantry" (295 : Nat) "EchoPantry$CommandText" "length" "I") ∈ TBL := tk_2 (List.mem_of_getElem? (i := 44) rfl) rfl
theorem w_285 : (Jvm.Cond.fieldLink "EchoPantry$CommandText" (19 : Nat) "EchoPantry$CommandText" "at" "I") ∈ TBL := tk_2 (List.mem_of_getElem? (i := 45) rfl) rfl
theorem w_286 : (Jvm.Cond.fieldLink "EchoPantry" (309 : Nat) "EchoPantry$CommandText" "at" "I") ∈ TBL := tk_2 (List.mem_of_getElem? (i := 46) rfl) rfl
theorem w_287 : (Jvm.Cond.fieldLink "EchoPantry$CommandText" (24 : Nat) "EchoPantry$CommandText" "commands" "[LEchoPantry$Command;") ∈ TBL := tk_2 (List.mem_of_getElem? (i := 47) rfl) rfl
theorem w_288 : (Jvm.Cond.fieldLink "EchoPantry$CommandText" (28 : Nat) "EchoPantry$CommandText" "commandCount" "I") ∈ TBL := tk_2 (List.mem_of_getElem? (i := 48) rfl) rfl
theorem w_289 : (Jvm.Cond.fieldLink "EchoPantry" (317 : Nat) "EchoPantry$CommandText" "commandCount" "I") ∈ TBL := tk_2 (List.mem_of_getElem? (i := 49) rfl) rfl
theorem w_301 : (Jvm.Cond.classLink "EchoPantry" (44 : Nat) "java/lang/StringBuilder") ∈ TBL := tk_2 (List.mem_of_getElem? (i := 61) rfl) rfl
theorem w_302 : (Jvm.Cond.instantiable "java/lang/StringBuilder" (4 : Nat)) ∈ TBL := tk_2 (List.mem_of_getElem? (i := 62) rfl) rfl
theorem w_303 : (Jvm.Cond.methodLink "EchoPantry" (46 : Nat) ({ cls := "java/lang/StringBuilder", name := "<init>", desc := "()V" } : Jvm.MethodName)) ∈ TBL := tk_2 (List.mem_of_getElem? (i := 63) rfl) rfl
theorem w_304 : (Jvm.Cond.instanceMethod ({ cls := "java/lang/StringBuilder", name := "<init>", desc := "()V" } : Jvm.MethodName)) ∈ TBL := tk_2 (List.mem_of_getElem? (i := 64) rfl) rfl
theorem w_305 : (Jvm.Cond.code ({ cls := "java/lang/StringBuilder", name := "<init>", desc := "()V" } : Jvm.MethodName) prog_29_method_1_code (1 : Nat) (Option.none : Option Jvm.ClassFile.FieldType)) ∈ TBL := tk_2 (List.mem_of_getElem? (i := 65) rfl) rfl
theorem w_334 : (Jvm.Cond.fieldLink "EchoPantry" (10 : Nat) "EchoPantry" "state" "LEchoPantry$State;") ∈ TBL := tk_2 (List.mem_of_getElem? (i := 94) rfl) rfl
theorem w_335 : (Jvm.Cond.fieldLink "EchoPantry" (19 : Nat) "EchoPantry" "history" "LEchoPantry$History;") ∈ TBL := tk_2 (List.mem_of_getElem? (i := 95) rfl) rfl
theorem w_336 : (Jvm.Cond.fieldLink "EchoPantry" (23 : Nat) "EchoPantry" "snapshot" "LEchoPantry$State;") ∈ TBL := tk_2 (List.mem_of_getElem? (i := 96) rfl) rfl
theorem w_337 : (Jvm.Cond.fieldLink "EchoPantry" (26 : Nat) "EchoPantry" "hasSnapshot" "Z") ∈ TBL := tk_2 (List.mem_of_getElem? (i := 97) rfl) rfl
theorem w_338 : (Jvm.Cond.fieldLink "EchoPantry" (33 : Nat) "EchoPantry" "text" "LEchoPantry$CommandText;") ∈ TBL := tk_2 (List.mem_of_getElem? (i := 98) rfl) rfl
theorem w_339 : (Jvm.Cond.fieldLink "EchoPantry" (37 : Nat) "EchoPantry" "malformedAt" "I") ∈ TBL := tk_2 (List.mem_of_getElem? (i := 99) rfl) rfl
theorem w_340 : (Jvm.Cond.fieldLink "EchoPantry" (41 : Nat) "EchoPantry" "failedAt" "I") ∈ TBL := tk_2 (List.mem_of_getElem? (i := 100) rfl) rfl
theorem w_341 : (Jvm.Cond.fieldLink "EchoPantry" (47 : Nat) "EchoPantry" "line" "Ljava/lang/StringBuilder;") ∈ TBL := tk_2 (List.mem_of_getElem? (i := 101) rfl) rfl
theorem w_363 : (Jvm.Cond.methodLink "EchoPantry" (79 : Nat) ({ cls := "EchoPantry$State", name := "countJars", desc := "()I" } : Jvm.MethodName)) ∈ TBL := tk_2 (List.mem_of_getElem? (i := 123) rfl) rfl
theorem w_364 : (Jvm.Cond.instanceMethod ({ cls := "EchoPantry$State", name := "countJars", desc := "()I" } : Jvm.MethodName)) ∈ TBL := tk_2 (List.mem_of_getElem? (i := 124) rfl) rfl
theorem w_365 : (Jvm.Cond.selects "EchoPantry$State" ({ cls := "EchoPantry$State", name := "countJars", desc := "()I" } : Jvm.MethodName) ({ cls := "EchoPantry$State", name := "countJars", desc := "()I" } : Jvm.MethodName)) ∈ TBL := tk_2 (List.mem_of_getElem? (i := 125) rfl) rfl
theorem w_366 : (Jvm.Cond.code ({ cls := "EchoPantry$State", name := "countJars", desc := "()I" } : Jvm.MethodName) prog_8_method_15_code (6 : Nat) (Option.some Jvm.ClassFile.FieldType.int)) ∈ TBL := tk_2 (List.mem_of_getElem? (i := 126) rfl) rfl
theorem w_371 : (Jvm.Cond.methodLink "EchoPantry" (119 : Nat) ({ cls := "EchoPantry$State", name := "countShelves", desc := "()I" } : Jvm.MethodName)) ∈ TBL := tk_2 (List.mem_of_getElem? (i := 131) rfl) rfl
theorem w_372 : (Jvm.Cond.instanceMethod ({ cls := "EchoPantry$State", name := "countShelves", desc := "()I" } : Jvm.MethodName)) ∈ TBL := tk_2 (List.mem_of_getElem? (i := 132) rfl) rfl
theorem w_373 : (Jvm.Cond.selects "EchoPantry$State" ({ cls := "EchoPantry$State", name := "countShelves", desc := "()I" } : Jvm.MethodName) ({ cls := "EchoPantry$State", name := "countShelves", desc := "()I" } : Jvm.MethodName)) ∈ TBL := tk_2 (List.mem_of_getElem? (i := 133) rfl) rfl
theorem w_374 : (Jvm.Cond.code ({ cls := "EchoPantry$State", name := "countShelves", desc := "()I" } : Jvm.MethodName) prog_8_method_20_code (6 : Nat) (Option.some Jvm.ClassFile.FieldType.int)) ∈ TBL := tk_2 (List.mem_of_getElem? (i := 134) rfl) rfl
theorem w_383 : (Jvm.Cond.methodLink "EchoPantry" (216 : Nat) ({ cls := "EchoPantry$State", name := "countWarmings", desc := "()I" } : Jvm.MethodName)) ∈ TBL := tk_2 (List.mem_of_getElem? (i := 143) rfl) rfl
theorem w_384 : (Jvm.Cond.instanceMethod ({ cls := "EchoPantry$State", name := "countWarmings", desc := "()I" } : Jvm.MethodName)) ∈ TBL := tk_2 (List.mem_of_getElem? (i := 144) rfl) rfl
theorem w_385 : (Jvm.Cond.selects "EchoPantry$State" ({ cls := "EchoPantry$State", name := "countWarmings", desc := "()I" } : Jvm.MethodName) ({ cls := "EchoPantry$State", name := "countWarmings", desc := "()I" } : Jvm.MethodName)) ∈ TBL := tk_2 (List.mem_of_getElem? (i := 145) rfl) rfl
theorem w_386 : (Jvm.Cond.code ({ cls := "EchoPantry$State", name := "countWarmings", desc := "()I" } : Jvm.MethodName) prog_8_method_30_code (6 : Nat) (Option.some Jvm.ClassFile.FieldType.int)) ∈ TBL := tk_2 (List.mem_of_getElem? (i := 146) rfl) rfl
theorem w_395 : (Jvm.Cond.methodLink "EchoPantry" (178 : Nat) ({ cls := "EchoPantry$Shelf", name := "firstInOrder", desc := "()LEchoPantry$Echo;" } : Jvm.MethodName)) ∈ TBL := tk_2 (List.mem_of_getElem? (i := 155) rfl) rfl
theorem w_396 : (Jvm.Cond.instanceMethod ({ cls := "EchoPantry$Shelf", name := "firstInOrder", desc := "()LEchoPantry$Echo;" } : Jvm.MethodName)) ∈ TBL := tk_2 (List.mem_of_getElem? (i := 156) rfl) rfl
theorem w_397 : (Jvm.Cond.selects "EchoPantry$Shelf" ({ cls := "EchoPantry$Shelf", name := "firstInOrder", desc := "()LEchoPantry$Echo;" } : Jvm.MethodName) ({ cls := "EchoPantry$Shelf", name := "firstInOrder", desc := "()LEchoPantry$Echo;" } : Jvm.MethodName)) ∈ TBL := tk_2 (List.mem_of_getElem? (i := 157) rfl) rfl
theorem w_398 : (Jvm.Cond.code ({ cls := "EchoPantry$Shelf", name := "firstInOrder", desc := "()LEchoPantry$Echo;" } : Jvm.MethodName) prog_7_method_10_code (2 : Nat) (Option.some (Jvm.ClassFile.FieldType.object "EchoPantry$Echo"))) ∈ TBL := tk_2 (List.mem_of_getElem? (i := 158) rfl) rfl
theorem w_399 : (Jvm.Cond.methodLink "EchoPantry" (187 : Nat) ({ cls := "EchoPantry$Shelf", name := "firstByScan", desc := "()LEchoPantry$Echo;" } : Jvm.MethodName)) ∈ TBL := tk_2 (List.mem_of_getElem? (i := 159) rfl) rfl
theorem w_400 : (Jvm.Cond.instanceMethod ({ cls := "EchoPantry$Shelf", name := "firstByScan", desc := "()LEchoPantry$Echo;" } : Jvm.MethodName)) ∈ TBL := tk_2 (List.mem_of_getElem? (i := 160) rfl) rfl
theorem w_401 : (Jvm.Cond.selects "EchoPantry$Shelf" ({ cls := "EchoPantry$Shelf", name := "firstByScan", desc := "()LEchoPantry$Echo;" } : Jvm.MethodName) ({ cls := "EchoPantry$Shelf", name := "firstByScan", desc := "()LEchoPantry$Echo;" } : Jvm.MethodName)) ∈ TBL := tk_2 (List.mem_of_getElem? (i := 161) rfl) rfl
theorem w_402 : (Jvm.Cond.code ({ cls := "EchoPantry$Shelf", name := "firstByScan", desc := "()LEchoPantry$Echo;" } : Jvm.MethodName) prog_7_method_11_code (6 : Nat) (Option.some (Jvm.ClassFile.FieldType.object "EchoPantry$Echo"))) ∈ TBL := tk_2 (List.mem_of_getElem? (i := 162) rfl) rfl
theorem w_403 : (Jvm.Cond.methodLink "EchoPantry$Shelf" (62 : Nat) ({ cls := "EchoPantry$Shelf", name := "isBefore", desc := "(LEchoPantry$Echo;LEchoPantry$Echo;)Z" } : Jvm.MethodName)) ∈ TBL := tk_2 (List.mem_of_getElem? (i := 163) rfl) rfl
theorem w_404 : (Jvm.Cond.instanceMethod ({ cls := "EchoPantry$Shelf", name := "isBefore", desc := "(LEchoPantry$Echo;LEchoPantry$Echo;)Z" } : Jvm.MethodName)) ∈ TBL := tk_2 (List.mem_of_getElem? (i := 164) rfl) rfl
theorem w_405 : (Jvm.Cond.selects "EchoPantry$Shelf" ({ cls := "EchoPantry$Shelf", name := "isBefore", desc := "(LEchoPantry$Echo;LEchoPantry$Echo;)Z" } : Jvm.MethodName) ({ cls := "EchoPantry$Shelf", name := "isBefore", desc := "(LEchoPantry$Echo;LEchoPantry$Echo;)Z" } : Jvm.MethodName)) ∈ TBL := tk_2 (List.mem_of_getElem? (i := 165) rfl) rfl
theorem w_406 : (Jvm.Cond.code ({ cls := "EchoPantry$Shelf", name := "isBefore", desc := "(LEchoPantry$Echo;LEchoPantry$Echo;)Z" } : Jvm.MethodName) prog_7_method_12_code (3 : Nat) (Option.some Jvm.ClassFile.FieldType.boolean)) ∈ TBL := tk_2 (List.mem_of_getElem? (i := 166) rfl) rfl
theorem w_407 : (Jvm.Cond.methodLink "EchoPantry" (132 : Nat) ({ cls := "EchoPantry$Shelf", name := "countEchoes", desc := "()I" } : Jvm.MethodName)) ∈ TBL := tk_2 (List.mem_of_getElem? (i := 167) rfl) rfl
theorem w_408 : (Jvm.Cond.instanceMethod ({ cls := "EchoPantry$Shelf", name := "countEchoes", desc := "()I" } : Jvm.MethodName)) ∈ TBL := tk_2 (List.mem_of_getElem? (i := 168) rfl) rfl
theorem w_409 : (Jvm.Cond.selects "EchoPantry$Shelf" ({ cls := "EchoPantry$Shelf", name := "countEchoes", desc := "()I" } : Jvm.MethodName) ({ cls := "EchoPantry$Shelf", name := "countEchoes", desc := "()I" } : Jvm.MethodName)) ∈ TBL := tk_2 (List.mem_of_getElem? (i := 169) rfl) rfl
theorem w_410 : (Jvm.Cond.code ({ cls := "EchoPantry$Shelf", name := "countEchoes", desc := "()I" } : Jvm.MethodName) prog_7_method_4_code (6 : Nat) (Option.some Jvm.ClassFile.FieldType.int)) ∈ TBL := tk_2 (List.mem_of_getElem? (i := 170) rfl) rfl
theorem w_411 : (Jvm.Cond.methodLink "EchoPantry" (290 : Nat) ({ cls := "EchoPantry$State", name := "isSound", desc := "(LEchoPantry$Echo;)Z" } : Jvm.MethodName)) ∈ TBL := tk_2 (List.mem_of_getElem? (i := 171) rfl) rfl
theorem w_412 : (Jvm.Cond.instanceMethod ({ cls := "EchoPantry$State", name := "isSound", desc := "(LEchoPantry$Echo;)Z" } : Jvm.MethodName)) ∈ TBL := tk_2 (List.mem_of_getElem? (i := 172) rfl) rfl
theorem w_413 : (Jvm.Cond.selects "EchoPantry$State" ({ cls := "EchoPantry$State", name := "isSound", desc := "(LEchoPantry$Echo;)Z" } : Jvm.MethodName) ({ cls := "EchoPantry$State", name := "isSound", desc := "(LEchoPantry$Echo;)Z" } : Jvm.MethodName)) ∈ TBL := tk_2 (List.mem_of_getElem? (i := 173) rfl) rfl
theorem w_414 : (Jvm.Cond.code ({ cls := "EchoPantry$State", name := "isSound", desc := "(LEchoPantry$Echo;)Z" } : Jvm.MethodName) prog_8_method_26_code (3 : Nat) (Option.some Jvm.ClassFile.FieldType.boolean)) ∈ TBL := tk_2 (List.mem_of_getElem? (i := 174) rfl) rfl
theorem w_415 : (Jvm.Cond.methodLink "EchoPantry$State" (138 : Nat) ({ cls := "EchoPantry$State", name := "isTrueByCount", desc := "(LEchoPantry$Echo;)Z" } : Jvm.MethodName)) ∈ TBL := tk_2 (List.mem_of_getElem? (i := 175) rfl) rfl
theorem w_416 : (Jvm.Cond.instanceMethod ({ cls := "EchoPantry$State", name := "isTrueByCount", desc := "(LEchoPantry$Echo;)Z" } : Jvm.MethodName)) ∈ TBL := tk_2 (List.mem_of_getElem? (i := 176) rfl) rfl
theorem w_417 : (Jvm.Cond.selects "EchoPantry$State" ({ cls := "EchoPantry$State", name := "isTrueByCount", desc := "(LEchoPantry$Echo;)Z" } : Jvm.MethodName) ({ cls := "EchoPantry$State", name := "isTrueByCount", desc := "(LEchoPantry$Echo;)Z" } : Jvm.MethodName)) ∈ TBL := tk_2 (List.mem_of_getElem? (i := 177) rfl) rfl
theorem w_418 : (Jvm.Cond.code ({ cls := "EchoPantry$State", name := "isTrueByCount", desc := "(LEchoPantry$Echo;)Z" } : Jvm.MethodName) prog_8_method_24_code (3 : Nat) (Option.some Jvm.ClassFile.FieldType.boolean)) ∈ TBL := tk_2 (List.mem_of_getElem? (i := 178) rfl) rfl
theorem w_419 : (Jvm.Cond.methodLink "EchoPantry$State" (75 : Nat) ({ cls := "EchoPantry$State", name := "findJar", desc := "(C)LEchoPantry$Jar;" } : Jvm.MethodName)) ∈ TBL := tk_2 (List.mem_of_getElem? (i := 179) rfl) rfl
theorem w_420 : (Jvm.Cond.instanceMethod ({ cls := "EchoPantry$State", name := "findJar", desc := "(C)LEchoPantry$Jar;" } : Jvm.MethodName)) ∈ TBL := tk_2 (List.mem_of_getElem? (i := 180) rfl) rfl
theorem w_421 : (Jvm.Cond.selects "EchoPantry$State" ({ cls := "EchoPantry$State", name := "findJar", desc := "(C)LEchoPantry$Jar;" } : Jvm.MethodName) ({ cls := "EchoPantry$State", name := "findJar", desc := "(C)LEchoPantry$Jar;" } : Jvm.MethodName)) ∈ TBL := tk_2 (List.mem_of_getElem? (i := 181) rfl) rfl
theorem w_422 : (Jvm.Cond.code ({ cls := "EchoPantry$State", name := "findJar", desc := "(C)LEchoPantry$Jar;" } : Jvm.MethodName) prog_8_method_4_code (3 : Nat) (Option.some (Jvm.ClassFile.FieldType.object "EchoPantry$Jar"))) ∈ TBL := tk_2 (List.mem_of_getElem? (i := 182) rfl) rfl
theorem w_423 : (Jvm.Cond.methodLink "EchoPantry$State" (61 : Nat) ({ cls := "EchoPantry$State", name := "jarRow", desc := "(C)LEchoPantry$Jar;" } : Jvm.MethodName)) ∈ TBL := tk_2 (List.mem_of_getElem? (i := 183) rfl) rfl
theorem w_424 : (Jvm.Cond.instanceMethod ({ cls := "EchoPantry$State", name := "jarRow", desc := "(C)LEchoPantry$Jar;" } : Jvm.MethodName)) ∈ TBL := tk_2 (List.mem_of_getElem? (i := 184) rfl) rfl
theorem w_425 : (Jvm.Cond.selects "EchoPantry$State" ({ cls := "EchoPantry$State", name := "jarRow", desc := "(C)LEchoPantry$Jar;" } : Jvm.MethodName) ({ cls := "EchoPantry$State", name := "jarRow", desc := "(C)LEchoPantry$Jar;" } : Jvm.MethodName)) ∈ TBL := tk_2 (List.mem_of_getElem? (i := 185) rfl) rfl
theorem w_426 : (Jvm.Cond.code ({ cls := "EchoPantry$State", name := "jarRow", desc := "(C)LEchoPantry$Jar;" } : Jvm.MethodName) prog_8_method_3_code (3 : Nat) (Option.some (Jvm.ClassFile.FieldType.object "EchoPantry$Jar"))) ∈ TBL := tk_2 (List.mem_of_getElem? (i := 186) rfl) rfl
theorem w_427 : (Jvm.Cond.methodLink "EchoPantry$State" (141 : Nat) ({ cls := "EchoPantry$State", name := "isTrueByOrder", desc := "(LEchoPantry$Echo;)Z" } : Jvm.MethodName)) ∈ TBL := tk_2 (List.mem_of_getElem? (i := 187) rfl) rfl
theorem w_428 : (Jvm.Cond.instanceMethod ({ cls := "EchoPantry$State", name := "isTrueByOrder", desc := "(LEchoPantry$Echo;)Z" } : Jvm.MethodName)) ∈ TBL := tk_2 (List.mem_of_getElem? (i := 188) rfl) rfl
theorem w_429 : (Jvm.Cond.selects "EchoPantry$State" ({ cls := "EchoPantry$State", name := "isTrueByOrder", desc := "(LEchoPantry$Echo;)Z" } : Jvm.MethodName) ({ cls := "EchoPantry$State", name := "isTrueByOrder", desc := "(LEchoPantry$Echo;)Z" } : Jvm.MethodName)) ∈ TBL := tk_2 (List.mem_of_getElem? (i := 189) rfl) rfl
theorem w_430 : (Jvm.Cond.code ({ cls := "EchoPantry$State", name := "isTrueByOrder", desc := "(LEchoPantry$Echo;)Z" } : Jvm.MethodName) prog_8_method_25_code (3 : Nat) (Option.some Jvm.ClassFile.FieldType.boolean)) ∈ TBL := tk_2 (List.mem_of_getElem? (i := 190) rfl) rfl
theorem w_435 : (Jvm.Cond.methodLink "EchoPantry" (352 : Nat) ({ cls := "EchoPantry$State", name := "copyFrom", desc := "(LEchoPantry$State;)V" } : Jvm.MethodName)) ∈ TBL := tk_2 (List.mem_of_getElem? (i := 195) rfl) rfl
theorem w_436 : (Jvm.Cond.instanceMethod ({ cls := "EchoPantry$State", name := "copyFrom", desc := "(LEchoPantry$State;)V" } : Jvm.MethodName)) ∈ TBL := tk_2 (List.mem_of_getElem? (i := 196) rfl) rfl
theorem w_437 : (Jvm.Cond.selects "EchoPantry$State" ({ cls := "EchoPantry$State", name := "copyFrom", desc := "(LEchoPantry$State;)V" } : Jvm.MethodName) ({ cls := "EchoPantry$State", name := "copyFrom", desc := "(LEchoPantry$State;)V" } : Jvm.MethodName)) ∈ TBL := tk_2 (List.mem_of_getElem? (i := 197) rfl) rfl
theorem w_438 : (Jvm.Cond.code ({ cls := "EchoPantry$State", name := "copyFrom", desc := "(LEchoPantry$State;)V" } : Jvm.MethodName) prog_8_method_2_code (3 : Nat) (Option.none : Option Jvm.ClassFile.FieldType)) ∈ TBL := tk_2 (List.mem_of_getElem? (i := 198) rfl) rfl
theorem w_439 : (Jvm.Cond.methodLink "EchoPantry$State" (51 : Nat) ({ cls := "EchoPantry$Jar", name := "copyFrom", desc := "(LEchoPantry$Jar;)V" } : Jvm.MethodName)) ∈ TBL := tk_2 (List.mem_of_getElem? (i := 199) rfl) rfl
theorem w_440 : (Jvm.Cond.instanceMethod ({ cls := "EchoPantry$Jar", name := "copyFrom", desc := "(LEchoPantry$Jar;)V" } : Jvm.MethodName)) ∈ TBL := tk_2 (List.mem_of_getElem? (i := 200) rfl) rfl
theorem w_441 : (Jvm.Cond.selects "EchoPantry$Jar" ({ cls := "EchoPantry$Jar", name := "copyFrom", desc := "(LEchoPantry$Jar;)V" } : Jvm.MethodName) ({ cls := "EchoPantry$Jar", name := "copyFrom", desc := "(LEchoPantry$Jar;)V" } : Jvm.MethodName)) ∈ TBL := tk_2 (List.mem_of_getElem? (i := 201) rfl) rfl
theorem w_442 : (Jvm.Cond.code ({ cls := "EchoPantry$Jar", name := "copyFrom", desc := "(LEchoPantry$Jar;)V" } : Jvm.MethodName) prog_6_method_2_code (2 : Nat) (Option.none : Option Jvm.ClassFile.FieldType)) ∈ TBL := tk_2 (List.mem_of_getElem? (i := 202) rfl) rfl
theorem w_443 : (Jvm.Cond.methodLink "EchoPantry$State" (55 : Nat) ({ cls := "EchoPantry$Shelf", name := "copyFrom", desc := "(LEchoPantry$Shelf;)V" } : Jvm.MethodName)) ∈ TBL := tk_2 (List.mem_of_getElem? (i := 203) rfl) rfl
theorem w_444 : (Jvm.Cond.instanceMethod ({ cls := "EchoPantry$Shelf", name := "copyFrom", desc := "(LEchoPantry$Shelf;)V" } : Jvm.MethodName)) ∈ TBL := tk_2 (List.mem_of_getElem? (i := 204) rfl) rfl
theorem w_445 : (Jvm.Cond.selects "EchoPantry$Shelf" ({ cls := "EchoPantry$Shelf", name := "copyFrom", desc := "(LEchoPantry$Shelf;)V" } : Jvm.MethodName) ({ cls := "EchoPantry$Shelf", name := "copyFrom", desc := "(LEchoPantry$Shelf;)V" } : Jvm.MethodName)) ∈ TBL := tk_2 (List.mem_of_getElem? (i := 205) rfl) rfl
theorem w_446 : (Jvm.Cond.code ({ cls := "EchoPantry$Shelf", name := "copyFrom", desc := "(LEchoPantry$Shelf;)V" } : Jvm.MethodName) prog_7_method_2_code (3 : Nat) (Option.none : Option Jvm.ClassFile.FieldType)) ∈ TBL := tk_2 (List.mem_of_getElem? (i := 206) rfl) rfl
theorem w_447 : (Jvm.Cond.methodLink "EchoPantry$Shelf" (39 : Nat) ({ cls := "EchoPantry$Echo", name := "copyFrom", desc := "(LEchoPantry$Echo;)V" } : Jvm.MethodName)) ∈ TBL := tk_2 (List.mem_of_getElem? (i := 207) rfl) rfl
theorem w_448 : (Jvm.Cond.instanceMethod ({ cls := "EchoPantry$Echo", name := "copyFrom", desc := "(LEchoPantry$Echo;)V" } : Jvm.MethodName)) ∈ TBL := tk_2 (List.mem_of_getElem? (i := 208) rfl) rfl
theorem w_449 : (Jvm.Cond.selects "EchoPantry$Echo" ({ cls := "EchoPantry$Echo", name := "copyFrom", desc := "(LEchoPantry$Echo;)V" } : Jvm.MethodName) ({ cls := "EchoPantry$Echo", name := "copyFrom", desc := "(LEchoPantry$Echo;)V" } : Jvm.MethodName)) ∈ TBL := tk_2 (List.mem_of_getElem? (i := 209) rfl) rfl
theorem w_450 : (Jvm.Cond.code ({ cls := "EchoPantry$Echo", name := "copyFrom", desc := "(LEchoPantry$Echo;)V" } : Jvm.MethodName) prog_4_method_2_code (2 : Nat) (Option.none : Option Jvm.ClassFile.FieldType)) ∈ TBL := tk_2 (List.mem_of_getElem? (i := 210) rfl) rfl
theorem w_451 : (Jvm.Cond.methodLink "EchoPantry$State" (58 : Nat) ({ cls := "EchoPantry$Warming", name := "copyFrom", desc := "(LEchoPantry$Warming;)V" } : Jvm.MethodName)) ∈ TBL := tk_2 (List.mem_of_getElem? (i := 211) rfl) rfl
theorem w_452 : (Jvm.Cond.instanceMethod ({ cls := "EchoPantry$Warming", name := "copyFrom", desc := "(LEchoPantry$Warming;)V" } : Jvm.MethodName)) ∈ TBL := tk_2 (List.mem_of_getElem? (i := 212) rfl) rfl
theorem w_453 : (Jvm.Cond.selects "EchoPantry$Warming" ({ cls := "EchoPantry$Warming", name := "copyFrom", desc := "(LEchoPantry$Warming;)V" } : Jvm.MethodName) ({ cls := "EchoPantry$Warming", name := "copyFrom", desc := "(LEchoPantry$Warming;)V" } : Jvm.MethodName)) ∈ TBL := tk_2 (List.mem_of_getElem? (i := 213) rfl) rfl
theorem w_454 : (Jvm.Cond.code ({ cls := "EchoPantry$Warming", name := "copyFrom", desc := "(LEchoPantry$Warming;)V" } : Jvm.MethodName) prog_9_method_2_code (2 : Nat) (Option.none : Option Jvm.ClassFile.FieldType)) ∈ TBL := tk_2 (List.mem_of_getElem? (i := 214) rfl) rfl
theorem w_464 : (Jvm.Cond.methodLink "EchoPantry" (51 : Nat) ({ cls := "EchoPantry$State", name := "newJarFault", desc := "(CI)I" } : Jvm.MethodName)) ∈ TBL := tk_2 (List.mem_of_getElem? (i := 224) rfl) rfl
theorem w_465 : (Jvm.Cond.instanceMethod ({ cls := "EchoPantry$State", name := "newJarFault", desc := "(CI)I" } : Jvm.MethodName)) ∈ TBL := tk_2 (List.mem_of_getElem? (i := 225) rfl) rfl
theorem w_466 : (Jvm.Cond.selects "EchoPantry$State" ({ cls := "EchoPantry$State", name := "newJarFault", desc := "(CI)I" } : Jvm.MethodName) ({ cls := "EchoPantry$State", name := "newJarFault", desc := "(CI)I" } : Jvm.MethodName)) ∈ TBL := tk_2 (List.mem_of_getElem? (i := 226) rfl) rfl
theorem w_467 : (Jvm.Cond.code ({ cls := "EchoPantry$State", name := "newJarFault", desc := "(CI)I" } : Jvm.MethodName) prog_8_method_7_code (3 : Nat) (Option.some Jvm.ClassFile.FieldType.int)) ∈ TBL := tk_2 (List.mem_of_getElem? (i := 227) rfl) rfl
theorem w_468 : (Jvm.Cond.methodLink "EchoPantry$State" (71 : Nat) ({ cls := "EchoPantry$State", name := "countJars", desc := "()I" } : Jvm.MethodName)) ∈ TBL := tk_2 (List.mem_of_getElem? (i := 228) rfl) rfl
theorem w_469 : (Jvm.Cond.methodLink "EchoPantry" (55 : Nat) ({ cls := "EchoPantry", name := "refuse", desc := "(I)V" } : Jvm.MethodName)) ∈ TBL := tk_2 (List.mem_of_getElem? (i := 229) rfl) rfl
theorem w_470 : (Jvm.Cond.static ({ cls := "EchoPantry", name := "refuse", desc := "(I)V" } : Jvm.MethodName)) ∈ TBL := tk_2 (List.mem_of_getElem? (i := 230) rfl) rfl
theorem w_471 : (Jvm.Cond.code ({ cls := "EchoPantry", name := "refuse", desc := "(I)V" } : Jvm.MethodName) prog_1_method_55_code (1 : Nat) (Option.none : Option Jvm.ClassFile.FieldType)) ∈ TBL := tk_2 (List.mem_of_getElem? (i := 231) rfl) rfl
theorem w_472 : (Jvm.Cond.classLink "EchoPantry" (87 : Nat) "java/lang/IndexOutOfBoundsException") ∈ TBL := tk_2 (List.mem_of_getElem? (i := 232) rfl) rfl
theorem w_543 : (Jvm.Cond.classLink "EchoPantry" (138 : Nat) "java/util/NoSuchElementException") ∈ TBL := tk_3 (List.mem_of_getElem? (i := 63) rfl) rfl
theorem w_559 : (Jvm.Cond.classLink "EchoPantry" (241 : Nat) "java/lang/IllegalArgumentException") ∈ TBL := tk_3 (List.mem_of_getElem? (i := 79) rfl) rfl
theorem w_575 : (Jvm.Cond.classLink "EchoPantry" (297 : Nat) "java/lang/IllegalStateException") ∈ TBL := tk_3 (List.mem_of_getElem? (i := 95) rfl) rfl
theorem w_591 : (Jvm.Cond.methodLink "EchoPantry" (59 : Nat) ({ cls := "EchoPantry$History", name := "note", desc := "(LEchoPantry$State;)V" } : Jvm.MethodName)) ∈ TBL := tk_3 (List.mem_of_getElem? (i := 111) rfl) rfl
theorem w_592 : (Jvm.Cond.instanceMethod ({ cls := "EchoPantry$History", name := "note", desc := "(LEchoPantry$State;)V" } : Jvm.MethodName)) ∈ TBL := tk_3 (List.mem_of_getElem? (i := 112) rfl) rfl
theorem w_593 : (Jvm.Cond.selects "EchoPantry$History" ({ cls := "EchoPantry$History", name := "note", desc := "(LEchoPantry$State;)V" } : Jvm.MethodName) ({ cls := "EchoPantry$History", name := "note", desc := "(LEchoPantry$State;)V" } : Jvm.MethodName)) ∈ TBL := tk_3 (List.mem_of_getElem? (i := 113) rfl) rfl
theorem w_594 : (Jvm.Cond.code ({ cls := "EchoPantry$History", name := "note", desc := "(LEchoPantry$State;)V" } : Jvm.MethodName) prog_5_method_3_code (2 : Nat) (Option.none : Option Jvm.ClassFile.FieldType)) ∈ TBL := tk_3 (List.mem_of_getElem? (i := 114) rfl) rfl
theorem w_595 : (Jvm.Cond.methodLink "EchoPantry$History" (31 : Nat) ({ cls := "EchoPantry$History", name := "keep", desc := "(LEchoPantry$State;)V" } : Jvm.MethodName)) ∈ TBL := tk_3 (List.mem_of_getElem? (i := 115) rfl) rfl
theorem w_596 : (Jvm.Cond.instanceMethod ({ cls := "EchoPantry$History", name := "keep", desc := "(LEchoPantry$State;)V" } : Jvm.MethodName)) ∈ TBL := tk_3 (List.mem_of_getElem? (i := 116) rfl) rfl
theorem w_597 : (Jvm.Cond.selects "EchoPantry$History" ({ cls := "EchoPantry$History", name := "keep", desc := "(LEchoPantry$State;)V" } : Jvm.MethodName) ({ cls := "EchoPantry$History", name := "keep", desc := "(LEchoPantry$State;)V" } : Jvm.MethodName)) ∈ TBL := tk_3 (List.mem_of_getElem? (i := 117) rfl) rfl
theorem w_598 : (Jvm.Cond.code ({ cls := "EchoPantry$History", name := "keep", desc := "(LEchoPantry$State;)V" } : Jvm.MethodName) prog_5_method_4_code (2 : Nat) (Option.none : Option Jvm.ClassFile.FieldType)) ∈ TBL := tk_3 (List.mem_of_getElem? (i := 118) rfl) rfl
theorem w_599 : (Jvm.Cond.methodLink "EchoPantry$History" (38 : Nat) ({ cls := "EchoPantry$History", name := "row", desc := "(I)LEchoPantry$State;" } : Jvm.MethodName)) ∈ TBL := tk_3 (List.mem_of_getElem? (i := 119) rfl) rfl
theorem w_600 : (Jvm.Cond.instanceMethod ({ cls := "EchoPantry$History", name := "row", desc := "(I)LEchoPantry$State;" } : Jvm.MethodName)) ∈ TBL := tk_3 (List.mem_of_getElem? (i := 120) rfl) rfl
theorem w_601 : (Jvm.Cond.selects "EchoPantry$History" ({ cls := "EchoPantry$History", name := "row", desc := "(I)LEchoPantry$State;" } : Jvm.MethodName) ({ cls := "EchoPantry$History", name := "row", desc := "(I)LEchoPantry$State;" } : Jvm.MethodName)) ∈ TBL := tk_3 (List.mem_of_getElem? (i := 121) rfl) rfl
theorem w_602 : (Jvm.Cond.code ({ cls := "EchoPantry$History", name := "row", desc := "(I)LEchoPantry$State;" } : Jvm.MethodName) prog_5_method_2_code (2 : Nat) (Option.some (Jvm.ClassFile.FieldType.object "EchoPantry$State"))) ∈ TBL := tk_3 (List.mem_of_getElem? (i := 122) rfl) rfl
theorem w_603 : (Jvm.Cond.methodLink "EchoPantry$History" (25 : Nat) ({ cls := "java/lang/Math", name := "floorMod", desc := "(II)I" } : Jvm.MethodName)) ∈ TBL := tk_3 (List.mem_of_getElem? (i := 123) rfl) rfl
theorem w_604 : (Jvm.Cond.static ({ cls := "java/lang/Math", name := "floorMod", desc := "(II)I" } : Jvm.MethodName)) ∈ TBL := tk_3 (List.mem_of_getElem? (i := 124) rfl) rfl
theorem w_605 : (Jvm.Cond.code ({ cls := "java/lang/Math", name := "floorMod", desc := "(II)I" } : Jvm.MethodName) prog_25_method_50_code (3 : Nat) (Option.some Jvm.ClassFile.FieldType.int)) ∈ TBL := tk_3 (List.mem_of_getElem? (i := 125) rfl) rfl
theorem w_606 : (Jvm.Cond.methodLink "EchoPantry$History" (42 : Nat) ({ cls := "EchoPantry$State", name := "copyFrom", desc := "(LEchoPantry$State;)V" } : Jvm.MethodName)) ∈ TBL := tk_3 (List.mem_of_getElem? (i := 126) rfl) rfl
theorem w_607 : (Jvm.Cond.methodLink "EchoPantry$History" (35 : Nat) ({ cls := "EchoPantry$History", name := "confirm", desc := "()V" } : Jvm.MethodName)) ∈ TBL := tk_3 (List.mem_of_getElem? (i := 127) rfl) rfl
theorem w_608 : (Jvm.Cond.instanceMethod ({ cls := "EchoPantry$History", name := "confirm", desc := "()V" } : Jvm.MethodName)) ∈ TBL := tk_3 (List.mem_of_getElem? (i := 128) rfl) rfl
theorem w_609 : (Jvm.Cond.selects "EchoPantry$History" ({ cls := "EchoPantry$History", name := "confirm", desc := "()V" } : Jvm.MethodName) ({ cls := "EchoPantry$History", name := "confirm", desc := "()V" } : Jvm.MethodName)) ∈ TBL := tk_3 (List.mem_of_getElem? (i := 129) rfl) rfl
theorem w_610 : (Jvm.Cond.code ({ cls := "EchoPantry$History", name := "confirm", desc := "()V" } : Jvm.MethodName) prog_5_method_6_code (1 : Nat) (Option.none : Option Jvm.ClassFile.FieldType)) ∈ TBL := tk_3 (List.mem_of_getElem? (i := 130) rfl) rfl
theorem w_611 : (Jvm.Cond.methodLink "EchoPantry" (63 : Nat) ({ cls := "EchoPantry$State", name := "putJar", desc := "(CI)I" } : Jvm.MethodName)) ∈ TBL := tk_3 (List.mem_of_getElem? (i := 131) rfl) rfl
theorem w_612 : (Jvm.Cond.instanceMethod ({ cls := "EchoPantry$State", name := "putJar", desc := "(CI)I" } : Jvm.MethodName)) ∈ TBL := tk_3 (List.mem_of_getElem? (i := 132) rfl) rfl
theorem w_613 : (Jvm.Cond.selects "EchoPantry$State" ({ cls := "EchoPantry$State", name := "putJar", desc := "(CI)I" } : Jvm.MethodName) ({ cls := "EchoPantry$State", name := "putJar", desc := "(CI)I" } : Jvm.MethodName)) ∈ TBL := tk_3 (List.mem_of_getElem? (i := 133) rfl) rfl
theorem w_614 : (Jvm.Cond.code ({ cls := "EchoPantry$State", name := "putJar", desc := "(CI)I" } : Jvm.MethodName) prog_8_method_17_code (4 : Nat) (Option.some Jvm.ClassFile.FieldType.int)) ∈ TBL := tk_3 (List.mem_of_getElem? (i := 134) rfl) rfl
theorem w_615 : (Jvm.Cond.methodLink "EchoPantry$State" (99 : Nat) ({ cls := "EchoPantry$Jar", name := "speak", desc := "(II)V" } : Jvm.MethodName)) ∈ TBL := tk_3 (List.mem_of_getElem? (i := 135) rfl) rfl
theorem w_616 : (Jvm.Cond.instanceMethod ({ cls := "EchoPantry$Jar", name := "speak", desc := "(II)V" } : Jvm.MethodName)) ∈ TBL := tk_3 (List.mem_of_getElem? (i := 136) rfl) rfl
theorem w_617 : (Jvm.Cond.selects "EchoPantry$Jar" ({ cls := "EchoPantry$Jar", name := "speak", desc := "(II)V" } : Jvm.MethodName) ({ cls := "EchoPantry$Jar", name := "speak", desc := "(II)V" } : Jvm.MethodName)) ∈ TBL := tk_3 (List.mem_of_getElem? (i := 137) rfl) rfl
theorem w_618 : (Jvm.Cond.code ({ cls := "EchoPantry$Jar", name := "speak", desc := "(II)V" } : Jvm.MethodName) prog_6_method_3_code (3 : Nat) (Option.none : Option Jvm.ClassFile.FieldType)) ∈ TBL := tk_3 (List.mem_of_getElem? (i := 138) rfl) rfl
theorem w_627 : (Jvm.Cond.methodLink "EchoPantry" (66 : Nat) ({ cls := "EchoPantry$State", name := "jarFault", desc := "(C)I" } : Jvm.MethodName)) ∈ TBL := tk_3 (List.mem_of_getElem? (i := 147) rfl) rfl
theorem w_628 : (Jvm.Cond.instanceMethod ({ cls := "EchoPantry$State", name := "jarFault", desc := "(C)I" } : Jvm.MethodName)) ∈ TBL := tk_3 (List.mem_of_getElem? (i := 148) rfl) rfl
theorem w_629 : (Jvm.Cond.selects "EchoPantry$State" ({ cls := "EchoPantry$State", name := "jarFault", desc := "(C)I" } : Jvm.MethodName) ({ cls := "EchoPantry$State", name := "jarFault", desc := "(C)I" } : Jvm.MethodName)) ∈ TBL := tk_3 (List.mem_of_getElem? (i := 149) rfl) rfl
theorem w_630 : (Jvm.Cond.code ({ cls := "EchoPantry$State", name := "jarFault", desc := "(C)I" } : Jvm.MethodName) prog_8_method_8_code (2 : Nat) (Option.some Jvm.ClassFile.FieldType.int)) ∈ TBL := tk_3 (List.mem_of_getElem? (i := 150) rfl) rfl
theorem w_631 : (Jvm.Cond.methodLink "EchoPantry" (70 : Nat) ({ cls := "EchoPantry$State", name := "dropJar", desc := "(C)I" } : Jvm.MethodName)) ∈ TBL := tk_3 (List.mem_of_getElem? (i := 151) rfl) rfl
theorem w_632 : (Jvm.Cond.instanceMethod ({ cls := "EchoPantry$State", name := "dropJar", desc := "(C)I" } : Jvm.MethodName)) ∈ TBL := tk_3 (List.mem_of_getElem? (i := 152) rfl) rfl
theorem w_633 : (Jvm.Cond.selects "EchoPantry$State" ({ cls := "EchoPantry$State", name := "dropJar", desc := "(C)I" } : Jvm.MethodName) ({ cls := "EchoPantry$State", name := "dropJar", desc := "(C)I" } : Jvm.MethodName)) ∈ TBL := tk_3 (List.mem_of_getElem? (i := 153) rfl) rfl
theorem w_634 : (Jvm.Cond.code ({ cls := "EchoPantry$State", name := "dropJar", desc := "(C)I" } : Jvm.MethodName) prog_8_method_18_code (8 : Nat) (Option.some Jvm.ClassFile.FieldType.int)) ∈ TBL := tk_3 (List.mem_of_getElem? (i := 154) rfl) rfl
theorem w_635 : (Jvm.Cond.methodLink "EchoPantry$State" (103 : Nat) ({ cls := "EchoPantry$Shelf", name := "find", desc := "(C)LEchoPantry$Echo;" } : Jvm.MethodName)) ∈ TBL := tk_3 (List.mem_of_getElem? (i := 155) rfl) rfl
theorem w_636 : (Jvm.Cond.instanceMethod ({ cls := "EchoPantry$Shelf", name := "find", desc := "(C)LEchoPantry$Echo;" } : Jvm.MethodName)) ∈ TBL := tk_3 (List.mem_of_getElem? (i := 156) rfl) rfl
theorem w_637 : (Jvm.Cond.selects "EchoPantry$Shelf" ({ cls := "EchoPantry$Shelf", name := "find", desc := "(C)LEchoPantry$Echo;" } : Jvm.MethodName) ({ cls := "EchoPantry$Shelf", name := "find", desc := "(C)LEchoPantry$Echo;" } : Jvm.MethodName)) ∈ TBL := tk_3 (List.mem_of_getElem? (i := 157) rfl) rfl
theorem w_638 : (Jvm.Cond.code ({ cls := "EchoPantry$Shelf", name := "find", desc := "(C)LEchoPantry$Echo;" } : Jvm.MethodName) prog_7_method_5_code (6 : Nat) (Option.some (Jvm.ClassFile.FieldType.object "EchoPantry$Echo"))) ∈ TBL := tk_3 (List.mem_of_getElem? (i := 158) rfl) rfl
theorem w_639 : (Jvm.Cond.methodLink "EchoPantry$State" (107 : Nat) ({ cls := "EchoPantry$Shelf", name := "remove", desc := "(LEchoPantry$Echo;)Z" } : Jvm.MethodName)) ∈ TBL := tk_3 (List.mem_of_getElem? (i := 159) rfl) rfl
theorem w_640 : (Jvm.Cond.instanceMethod ({ cls := "EchoPantry$Shelf", name := "remove", desc := "(LEchoPantry$Echo;)Z" } : Jvm.MethodName)) ∈ TBL := tk_3 (List.mem_of_getElem? (i := 160) rfl) rfl
theorem w_641 : (Jvm.Cond.selects "EchoPantry$Shelf" ({ cls := "EchoPantry$Shelf", name := "remove", desc := "(LEchoPantry$Echo;)Z" } : Jvm.MethodName) ({ cls := "EchoPantry$Shelf", name := "remove", desc := "(LEchoPantry$Echo;)Z" } : Jvm.MethodName)) ∈ TBL := tk_3 (List.mem_of_getElem? (i := 161) rfl) rfl
theorem w_642 : (Jvm.Cond.code ({ cls := "EchoPantry$Shelf", name := "remove", desc := "(LEchoPantry$Echo;)Z" } : Jvm.MethodName) prog_7_method_14_code (2 : Nat) (Option.some Jvm.ClassFile.FieldType.boolean)) ∈ TBL := tk_3 (List.mem_of_getElem? (i := 162) rfl) rfl
theorem w_643 : (Jvm.Cond.methodLink "EchoPantry$Shelf" (73 : Nat) ({ cls := "EchoPantry$Shelf", name := "sort", desc := "()V" } : Jvm.MethodName)) ∈ TBL := tk_3 (List.mem_of_getElem? (i := 163) rfl) rfl
theorem w_644 : (Jvm.Cond.instanceMethod ({ cls := "EchoPantry$Shelf", name := "sort", desc := "()V" } : Jvm.MethodName)) ∈ TBL := tk_3 (List.mem_of_getElem? (i := 164) rfl) rfl
theorem w_645 : (Jvm.Cond.selects "EchoPantry$Shelf" ({ cls := "EchoPantry$Shelf", name := "sort", desc := "()V" } : Jvm.MethodName) ({ cls := "EchoPantry$Shelf", name := "sort", desc := "()V" } : Jvm.MethodName)) ∈ TBL := tk_3 (List.mem_of_getElem? (i := 165) rfl) rfl
theorem w_646 : (Jvm.Cond.code ({ cls := "EchoPantry$Shelf", name := "sort", desc := "()V" } : Jvm.MethodName) prog_7_method_13_code (5 : Nat) (Option.none : Option Jvm.ClassFile.FieldType)) ∈ TBL := tk_3 (List.mem_of_getElem? (i := 166) rfl) rfl
theorem w_654 : (Jvm.Cond.methodLink "EchoPantry" (73 : Nat) ({ cls := "EchoPantry$State", name := "wordFault", desc := "(CI)I" } : Jvm.MethodName)) ∈ TBL := tk_3 (List.mem_of_getElem? (i := 174) rfl) rfl
theorem w_655 : (Jvm.Cond.instanceMethod ({ cls := "EchoPantry$State", name := "wordFault", desc := "(CI)I" } : Jvm.MethodName)) ∈ TBL := tk_3 (List.mem_of_getElem? (i := 175) rfl) rfl
theorem w_656 : (Jvm.Cond.selects "EchoPantry$State" ({ cls := "EchoPantry$State", name := "wordFault", desc := "(CI)I" } : Jvm.MethodName) ({ cls := "EchoPantry$State", name := "wordFault", desc := "(CI)I" } : Jvm.MethodName)) ∈ TBL := tk_3 (List.mem_of_getElem? (i := 176) rfl) rfl
theorem w_657 : (Jvm.Cond.code ({ cls := "EchoPantry$State", name := "wordFault", desc := "(CI)I" } : Jvm.MethodName) prog_8_method_9_code (3 : Nat) (Option.some Jvm.ClassFile.FieldType.int)) ∈ TBL := tk_3 (List.mem_of_getElem? (i := 177) rfl) rfl
theorem w_658 : (Jvm.Cond.methodLink "EchoPantry" (76 : Nat) ({ cls := "EchoPantry$State", name := "speak", desc := "(CI)I" } : Jvm.MethodName)) ∈ TBL := tk_3 (List.mem_of_getElem? (i := 178) rfl) rfl
theorem w_659 : (Jvm.Cond.instanceMethod ({ cls := "EchoPantry$State", name := "speak", desc := "(CI)I" } : Jvm.MethodName)) ∈ TBL := tk_3 (List.mem_of_getElem? (i := 179) rfl) rfl
theorem w_660 : (Jvm.Cond.selects "EchoPantry$State" ({ cls := "EchoPantry$State", name := "speak", desc := "(CI)I" } : Jvm.MethodName) ({ cls := "EchoPantry$State", name := "speak", desc := "(CI)I" } : Jvm.MethodName)) ∈ TBL := tk_3 (List.mem_of_getElem? (i := 180) rfl) rfl
theorem w_661 : (Jvm.Cond.code ({ cls := "EchoPantry$State", name := "speak", desc := "(CI)I" } : Jvm.MethodName) prog_8_method_19_code (9 : Nat) (Option.some Jvm.ClassFile.FieldType.int)) ∈ TBL := tk_3 (List.mem_of_getElem? (i := 181) rfl) rfl
theorem w_662 : (Jvm.Cond.methodLink "EchoPantry$State" (114 : Nat) ({ cls := "EchoPantry$Shelf", name := "openLid", desc := "(C)Z" } : Jvm.MethodName)) ∈ TBL := tk_3 (List.mem_of_getElem? (i := 182) rfl) rfl
theorem w_663 : (Jvm.Cond.instanceMethod ({ cls := "EchoPantry$Shelf", name := "openLid", desc := "(C)Z" } : Jvm.MethodName)) ∈ TBL := tk_3 (List.mem_of_getElem? (i := 183) rfl) rfl
theorem w_664 : (Jvm.Cond.selects "EchoPantry$Shelf" ({ cls := "EchoPantry$Shelf", name := "openLid", desc := "(C)Z" } : Jvm.MethodName) ({ cls := "EchoPantry$Shelf", name := "openLid", desc := "(C)Z" } : Jvm.MethodName)) ∈ TBL := tk_3 (List.mem_of_getElem? (i := 184) rfl) rfl
theorem w_665 : (Jvm.Cond.code ({ cls := "EchoPantry$Shelf", name := "openLid", desc := "(C)Z" } : Jvm.MethodName) prog_7_method_17_code (3 : Nat) (Option.some Jvm.ClassFile.FieldType.boolean)) ∈ TBL := tk_3 (List.mem_of_getElem? (i := 185) rfl) rfl
theorem w_666 : (Jvm.Cond.methodLink "EchoPantry$Shelf" (47 : Nat) ({ cls := "EchoPantry$Shelf", name := "find", desc := "(C)LEchoPantry$Echo;" } : Jvm.MethodName)) ∈ TBL := tk_3 (List.mem_of_getElem? (i := 186) rfl) rfl
theorem w_695 : (Jvm.Cond.methodLink "EchoPantry" (83 : Nat) ({ cls := "EchoPantry$State", name := "jarLetter", desc := "(I)C" } : Jvm.MethodName)) ∈ TBL := tk_3 (List.mem_of_getElem? (i := 215) rfl) rfl
theorem w_696 : (Jvm.Cond.instanceMethod ({ cls := "EchoPantry$State", name := "jarLetter", desc := "(I)C" } : Jvm.MethodName)) ∈ TBL := tk_3 (List.mem_of_getElem? (i := 216) rfl) rfl
theorem w_697 : (Jvm.Cond.selects "EchoPantry$State" ({ cls := "EchoPantry$State", name := "jarLetter", desc := "(I)C" } : Jvm.MethodName) ({ cls := "EchoPantry$State", name := "jarLetter", desc := "(I)C" } : Jvm.MethodName)) ∈ TBL := tk_3 (List.mem_of_getElem? (i := 217) rfl) rfl
theorem w_698 : (Jvm.Cond.code ({ cls := "EchoPantry$State", name := "jarLetter", desc := "(I)C" } : Jvm.MethodName) prog_8_method_16_code (4 : Nat) (Option.some Jvm.ClassFile.FieldType.char)) ∈ TBL := tk_3 (List.mem_of_getElem? (i := 218) rfl) rfl
theorem w_707 : (Jvm.Cond.methodLink "EchoPantry" (94 : Nat) ({ cls := "EchoPantry", name := "wantJar", desc := "(C)LEchoPantry$Jar;" } : Jvm.MethodName)) ∈ TBL := tk_3 (List.mem_of_getElem? (i := 227) rfl) rfl
theorem w_709 : (Jvm.Cond.instanceMethod ({ cls := "EchoPantry", name := "wantJar", desc := "(C)LEchoPantry$Jar;" } : Jvm.MethodName)) ∈ TBL := tk_3 (List.mem_of_getElem? (i := 229) rfl) rfl
theorem w_710 : (Jvm.Cond.code ({ cls := "EchoPantry", name := "wantJar", desc := "(C)LEchoPantry$Jar;" } : Jvm.MethodName) prog_1_method_51_code (3 : Nat) (Option.some (Jvm.ClassFile.FieldType.object "EchoPantry$Jar"))) ∈ TBL := tk_3 (List.mem_of_getElem? (i := 230) rfl) rfl
theorem w_711 : (Jvm.Cond.methodLink "EchoPantry" (357 : Nat) ({ cls := "EchoPantry$State", name := "findJar", desc := "(C)LEchoPantry$Jar;" } : Jvm.MethodName)) ∈ TBL := tk_3 (List.mem_of_getElem? (i := 231) rfl) rfl
theorem w_719 : (Jvm.Cond.methodLink "EchoPantry" (103 : Nat) ({ cls := "EchoPantry$State", name := "newShelfFault", desc := "(IIC)I" } : Jvm.MethodName)) ∈ TBL := tk_3 (List.mem_of_getElem? (i := 239) rfl) rfl
theorem w_720 : (Jvm.Cond.instanceMethod ({ cls := "EchoPantry$State", name := "newShelfFault", desc := "(IIC)I" } : Jvm.MethodName)) ∈ TBL := tk_4 (List.mem_of_getElem? (i := 0) rfl) rfl
theorem w_721 : (Jvm.Cond.selects "EchoPantry$State" ({ cls := "EchoPantry$State", name := "newShelfFault", desc := "(IIC)I" } : Jvm.MethodName) ({ cls := "EchoPantry$State", name := "newShelfFault", desc := "(IIC)I" } : Jvm.MethodName)) ∈ TBL := tk_4 (List.mem_of_getElem? (i := 1) rfl) rfl
theorem w_722 : (Jvm.Cond.code ({ cls := "EchoPantry$State", name := "newShelfFault", desc := "(IIC)I" } : Jvm.MethodName) prog_8_method_10_code (4 : Nat) (Option.some Jvm.ClassFile.FieldType.int)) ∈ TBL := tk_4 (List.mem_of_getElem? (i := 2) rfl) rfl
theorem w_723 : (Jvm.Cond.methodLink "EchoPantry$State" (78 : Nat) ({ cls := "EchoPantry$State", name := "countShelves", desc := "()I" } : Jvm.MethodName)) ∈ TBL := tk_4 (List.mem_of_getElem? (i := 3) rfl) rfl
theorem w_724 : (Jvm.Cond.methodLink "EchoPantry" (107 : Nat) ({ cls := "EchoPantry$State", name := "putShelf", desc := "(IIC)I" } : Jvm.MethodName)) ∈ TBL := tk_4 (List.mem_of_getElem? (i := 4) rfl) rfl
theorem w_725 : (Jvm.Cond.instanceMethod ({ cls := "EchoPantry$State", name := "putShelf", desc := "(IIC)I" } : Jvm.MethodName)) ∈ TBL := tk_4 (List.mem_of_getElem? (i := 5) rfl) rfl
theorem w_726 : (Jvm.Cond.selects "EchoPantry$State" ({ cls := "EchoPantry$State", name := "putShelf", desc := "(IIC)I" } : Jvm.MethodName) ({ cls := "EchoPantry$State", name := "putShelf", desc := "(IIC)I" } : Jvm.MethodName)) ∈ TBL := tk_4 (List.mem_of_getElem? (i := 6) rfl) rfl
theorem w_727 : (Jvm.Cond.code ({ cls := "EchoPantry$State", name := "putShelf", desc := "(IIC)I" } : Jvm.MethodName) prog_8_method_21_code (5 : Nat) (Option.some Jvm.ClassFile.FieldType.int)) ∈ TBL := tk_4 (List.mem_of_getElem? (i := 7) rfl) rfl
theorem w_728 : (Jvm.Cond.methodLink "EchoPantry$State" (118 : Nat) ({ cls := "EchoPantry$Shelf", name := "fill", desc := "(IIC)V" } : Jvm.MethodName)) ∈ TBL := tk_4 (List.mem_of_getElem? (i := 8) rfl) rfl
theorem w_729 : (Jvm.Cond.instanceMethod ({ cls := "EchoPantry$Shelf", name := "fill", desc := "(IIC)V" } : Jvm.MethodName)) ∈ TBL := tk_4 (List.mem_of_getElem? (i := 9) rfl) rfl
theorem w_730 : (Jvm.Cond.selects "EchoPantry$Shelf" ({ cls := "EchoPantry$Shelf", name := "fill", desc := "(IIC)V" } : Jvm.MethodName) ({ cls := "EchoPantry$Shelf", name := "fill", desc := "(IIC)V" } : Jvm.MethodName)) ∈ TBL := tk_4 (List.mem_of_getElem? (i := 10) rfl) rfl
theorem w_731 : (Jvm.Cond.code ({ cls := "EchoPantry$Shelf", name := "fill", desc := "(IIC)V" } : Jvm.MethodName) prog_7_method_3_code (4 : Nat) (Option.none : Option Jvm.ClassFile.FieldType)) ∈ TBL := tk_4 (List.mem_of_getElem? (i := 11) rfl) rfl
theorem w_739 : (Jvm.Cond.methodLink "EchoPantry" (110 : Nat) ({ cls := "EchoPantry", name := "wantShelf", desc := "(I)LEchoPantry$Shelf;" } : Jvm.MethodName)) ∈ TBL := tk_4 (List.mem_of_getElem? (i := 19) rfl) rfl
theorem w_741 : (Jvm.Cond.instanceMethod ({ cls := "EchoPantry", name := "wantShelf", desc := "(I)LEchoPantry$Shelf;" } : Jvm.MethodName)) ∈ TBL := tk_4 (List.mem_of_getElem? (i := 21) rfl) rfl
theorem w_742 : (Jvm.Cond.code ({ cls := "EchoPantry", name := "wantShelf", desc := "(I)LEchoPantry$Shelf;" } : Jvm.MethodName) prog_1_method_52_code (3 : Nat) (Option.some (Jvm.ClassFile.FieldType.object "EchoPantry$Shelf"))) ∈ TBL := tk_4 (List.mem_of_getElem? (i := 22) rfl) rfl
theorem w_743 : (Jvm.Cond.methodLink "EchoPantry" (260 : Nat) ({ cls := "EchoPantry$State", name := "findShelf", desc := "(I)LEchoPantry$Shelf;" } : Jvm.MethodName)) ∈ TBL := tk_4 (List.mem_of_getElem? (i := 23) rfl) rfl
theorem w_744 : (Jvm.Cond.instanceMethod ({ cls := "EchoPantry$State", name := "findShelf", desc := "(I)LEchoPantry$Shelf;" } : Jvm.MethodName)) ∈ TBL := tk_4 (List.mem_of_getElem? (i := 24) rfl) rfl
theorem w_745 : (Jvm.Cond.selects "EchoPantry$State" ({ cls := "EchoPantry$State", name := "findShelf", desc := "(I)LEchoPantry$Shelf;" } : Jvm.MethodName) ({ cls := "EchoPantry$State", name := "findShelf", desc := "(I)LEchoPantry$Shelf;" } : Jvm.MethodName)) ∈ TBL := tk_4 (List.mem_of_getElem? (i := 25) rfl) rfl
theorem w_746 : (Jvm.Cond.code ({ cls := "EchoPantry$State", name := "findShelf", desc := "(I)LEchoPantry$Shelf;" } : Jvm.MethodName) prog_8_method_5_code (3 : Nat) (Option.some (Jvm.ClassFile.FieldType.object "EchoPantry$Shelf"))) ∈ TBL := tk_4 (List.mem_of_getElem? (i := 26) rfl) rfl
theorem w_789 : (Jvm.Cond.methodLink "EchoPantry" (135 : Nat) ({ cls := "EchoPantry$Shelf", name := "letterAt", desc := "(I)C" } : Jvm.MethodName)) ∈ TBL := tk_4 (List.mem_of_getElem? (i := 69) rfl) rfl
theorem w_790 : (Jvm.Cond.instanceMethod ({ cls := "EchoPantry$Shelf", name := "letterAt", desc := "(I)C" } : Jvm.MethodName)) ∈ TBL := tk_4 (List.mem_of_getElem? (i := 70) rfl) rfl
theorem w_791 : (Jvm.Cond.selects "EchoPantry$Shelf" ({ cls := "EchoPantry$Shelf", name := "letterAt", desc := "(I)C" } : Jvm.MethodName) ({ cls := "EchoPantry$Shelf", name := "letterAt", desc := "(I)C" } : Jvm.MethodName)) ∈ TBL := tk_4 (List.mem_of_getElem? (i := 71) rfl) rfl
theorem w_792 : (Jvm.Cond.code ({ cls := "EchoPantry$Shelf", name := "letterAt", desc := "(I)C" } : Jvm.MethodName) prog_7_method_6_code (4 : Nat) (Option.some Jvm.ClassFile.FieldType.char)) ∈ TBL := tk_4 (List.mem_of_getElem? (i := 72) rfl) rfl
theorem w_801 : (Jvm.Cond.methodLink "EchoPantry" (143 : Nat) ({ cls := "EchoPantry$Shelf", name := "find", desc := "(C)LEchoPantry$Echo;" } : Jvm.MethodName)) ∈ TBL := tk_4 (List.mem_of_getElem? (i := 81) rfl) rfl
theorem w_809 : (Jvm.Cond.methodLink "EchoPantry" (147 : Nat) ({ cls := "EchoPantry", name := "wantEcho", desc := "(IC)LEchoPantry$Echo;" } : Jvm.MethodName)) ∈ TBL := tk_4 (List.mem_of_getElem? (i := 89) rfl) rfl
theorem w_811 : (Jvm.Cond.instanceMethod ({ cls := "EchoPantry", name := "wantEcho", desc := "(IC)LEchoPantry$Echo;" } : Jvm.MethodName)) ∈ TBL := tk_4 (List.mem_of_getElem? (i := 91) rfl) rfl
theorem w_812 : (Jvm.Cond.code ({ cls := "EchoPantry", name := "wantEcho", desc := "(IC)LEchoPantry$Echo;" } : Jvm.MethodName) prog_1_method_53_code (4 : Nat) (Option.some (Jvm.ClassFile.FieldType.object "EchoPantry$Echo"))) ∈ TBL := tk_4 (List.mem_of_getElem? (i := 92) rfl) rfl
theorem w_821 : (Jvm.Cond.methodLink "EchoPantry" (157 : Nat) ({ cls := "EchoPantry$Echo", name := "age", desc := "(I)I" } : Jvm.MethodName)) ∈ TBL := tk_4 (List.mem_of_getElem? (i := 101) rfl) rfl
theorem w_822 : (Jvm.Cond.instanceMethod ({ cls := "EchoPantry$Echo", name := "age", desc := "(I)I" } : Jvm.MethodName)) ∈ TBL := tk_4 (List.mem_of_getElem? (i := 102) rfl) rfl
theorem w_823 : (Jvm.Cond.selects "EchoPantry$Echo" ({ cls := "EchoPantry$Echo", name := "age", desc := "(I)I" } : Jvm.MethodName) ({ cls := "EchoPantry$Echo", name := "age", desc := "(I)I" } : Jvm.MethodName)) ∈ TBL := tk_4 (List.mem_of_getElem? (i := 103) rfl) rfl
theorem w_824 : (Jvm.Cond.code ({ cls := "EchoPantry$Echo", name := "age", desc := "(I)I" } : Jvm.MethodName) prog_4_method_4_code (2 : Nat) (Option.some Jvm.ClassFile.FieldType.int)) ∈ TBL := tk_4 (List.mem_of_getElem? (i := 104) rfl) rfl
theorem w_839 : (Jvm.Cond.methodLink "EchoPantry" (164 : Nat) ({ cls := "EchoPantry$Shelf", name := "hasOutlived", desc := "(LEchoPantry$Echo;I)Z" } : Jvm.MethodName)) ∈ TBL := tk_4 (List.mem_of_getElem? (i := 119) rfl) rfl
theorem w_840 : (Jvm.Cond.instanceMethod ({ cls := "EchoPantry$Shelf", name := "hasOutlived", desc := "(LEchoPantry$Echo;I)Z" } : Jvm.MethodName)) ∈ TBL := tk_4 (List.mem_of_getElem? (i := 120) rfl) rfl
theorem w_841 : (Jvm.Cond.selects "EchoPantry$Shelf" ({ cls := "EchoPantry$Shelf", name := "hasOutlived", desc := "(LEchoPantry$Echo;I)Z" } : Jvm.MethodName) ({ cls := "EchoPantry$Shelf", name := "hasOutlived", desc := "(LEchoPantry$Echo;I)Z" } : Jvm.MethodName)) ∈ TBL := tk_4 (List.mem_of_getElem? (i := 121) rfl) rfl
theorem w_842 : (Jvm.Cond.code ({ cls := "EchoPantry$Shelf", name := "hasOutlived", desc := "(LEchoPantry$Echo;I)Z" } : Jvm.MethodName) prog_7_method_8_code (3 : Nat) (Option.some Jvm.ClassFile.FieldType.boolean)) ∈ TBL := tk_4 (List.mem_of_getElem? (i := 122) rfl) rfl
theorem w_843 : (Jvm.Cond.methodLink "EchoPantry$Shelf" (51 : Nat) ({ cls := "EchoPantry$Echo", name := "age", desc := "(I)I" } : Jvm.MethodName)) ∈ TBL := tk_4 (List.mem_of_getElem? (i := 123) rfl) rfl
theorem w_858 : (Jvm.Cond.methodLink "EchoPantry" (171 : Nat) ({ cls := "EchoPantry$State", name := "isTrueByCount", desc := "(LEchoPantry$Echo;)Z" } : Jvm.MethodName)) ∈ TBL := tk_4 (List.mem_of_getElem? (i := 138) rfl) rfl
theorem w_866 : (Jvm.Cond.methodLink "EchoPantry" (175 : Nat) ({ cls := "EchoPantry$State", name := "isTrueByOrder", desc := "(LEchoPantry$Echo;)Z" } : Jvm.MethodName)) ∈ TBL := tk_4 (List.mem_of_getElem? (i := 146) rfl) rfl
theorem w_889 : (Jvm.Cond.methodLink "EchoPantry" (190 : Nat) ({ cls := "EchoPantry$State", name := "hearFault", desc := "(IC)I" } : Jvm.MethodName)) ∈ TBL := tk_4 (List.mem_of_getElem? (i := 169) rfl) rfl
theorem w_890 : (Jvm.Cond.instanceMethod ({ cls := "EchoPantry$State", name := "hearFault", desc := "(IC)I" } : Jvm.MethodName)) ∈ TBL := tk_4 (List.mem_of_getElem? (i := 170) rfl) rfl
theorem w_891 : (Jvm.Cond.selects "EchoPantry$State" ({ cls := "EchoPantry$State", name := "hearFault", desc := "(IC)I" } : Jvm.MethodName) ({ cls := "EchoPantry$State", name := "hearFault", desc := "(IC)I" } : Jvm.MethodName)) ∈ TBL := tk_4 (List.mem_of_getElem? (i := 171) rfl) rfl
theorem w_892 : (Jvm.Cond.code ({ cls := "EchoPantry$State", name := "hearFault", desc := "(IC)I" } : Jvm.MethodName) prog_8_method_12_code (3 : Nat) (Option.some Jvm.ClassFile.FieldType.int)) ∈ TBL := tk_4 (List.mem_of_getElem? (i := 172) rfl) rfl
theorem w_893 : (Jvm.Cond.methodLink "EchoPantry$State" (81 : Nat) ({ cls := "EchoPantry$State", name := "findShelf", desc := "(I)LEchoPantry$Shelf;" } : Jvm.MethodName)) ∈ TBL := tk_4 (List.mem_of_getElem? (i := 173) rfl) rfl
theorem w_894 : (Jvm.Cond.methodLink "EchoPantry$State" (85 : Nat) ({ cls := "EchoPantry$State", name := "jarFault", desc := "(C)I" } : Jvm.MethodName)) ∈ TBL := tk_4 (List.mem_of_getElem? (i := 174) rfl) rfl
theorem w_895 : (Jvm.Cond.methodLink "EchoPantry" (194 : Nat) ({ cls := "EchoPantry$State", name := "listenTo", desc := "(IC)I" } : Jvm.MethodName)) ∈ TBL := tk_4 (List.mem_of_getElem? (i := 175) rfl) rfl
theorem w_896 : (Jvm.Cond.instanceMethod ({ cls := "EchoPantry$State", name := "listenTo", desc := "(IC)I" } : Jvm.MethodName)) ∈ TBL := tk_4 (List.mem_of_getElem? (i := 176) rfl) rfl
theorem w_897 : (Jvm.Cond.selects "EchoPantry$State" ({ cls := "EchoPantry$State", name := "listenTo", desc := "(IC)I" } : Jvm.MethodName) ({ cls := "EchoPantry$State", name := "listenTo", desc := "(IC)I" } : Jvm.MethodName)) ∈ TBL := tk_4 (List.mem_of_getElem? (i := 177) rfl) rfl
theorem w_898 : (Jvm.Cond.code ({ cls := "EchoPantry$State", name := "listenTo", desc := "(IC)I" } : Jvm.MethodName) prog_8_method_27_code (8 : Nat) (Option.some Jvm.ClassFile.FieldType.int)) ∈ TBL := tk_4 (List.mem_of_getElem? (i := 178) rfl) rfl
theorem w_899 : (Jvm.Cond.methodLink "EchoPantry$State" (148 : Nat) ({ cls := "EchoPantry$Shelf", name := "outcome", desc := "(CI)C" } : Jvm.MethodName)) ∈ TBL := tk_4 (List.mem_of_getElem? (i := 179) rfl) rfl
theorem w_900 : (Jvm.Cond.instanceMethod ({ cls := "EchoPantry$Shelf", name := "outcome", desc := "(CI)C" } : Jvm.MethodName)) ∈ TBL := tk_4 (List.mem_of_getElem? (i := 180) rfl) rfl
theorem w_901 : (Jvm.Cond.selects "EchoPantry$Shelf" ({ cls := "EchoPantry$Shelf", name := "outcome", desc := "(CI)C" } : Jvm.MethodName) ({ cls := "EchoPantry$Shelf", name := "outcome", desc := "(CI)C" } : Jvm.MethodName)) ∈ TBL := tk_4 (List.mem_of_getElem? (i := 181) rfl) rfl
theorem w_902 : (Jvm.Cond.code ({ cls := "EchoPantry$Shelf", name := "outcome", desc := "(CI)C" } : Jvm.MethodName) prog_7_method_9_code (4 : Nat) (Option.some Jvm.ClassFile.FieldType.char)) ∈ TBL := tk_4 (List.mem_of_getElem? (i := 182) rfl) rfl
theorem w_903 : (Jvm.Cond.methodLink "EchoPantry$Shelf" (55 : Nat) ({ cls := "EchoPantry$Shelf", name := "hasOutlived", desc := "(LEchoPantry$Echo;I)Z" } : Jvm.MethodName)) ∈ TBL := tk_4 (List.mem_of_getElem? (i := 183) rfl) rfl
theorem w_904 : (Jvm.Cond.methodLink "EchoPantry$State" (152 : Nat) ({ cls := "EchoPantry$State", name := "countOutcome", desc := "(C)V" } : Jvm.MethodName)) ∈ TBL := tk_4 (List.mem_of_getElem? (i := 184) rfl) rfl
theorem w_905 : (Jvm.Cond.instanceMethod ({ cls := "EchoPantry$State", name := "countOutcome", desc := "(C)V" } : Jvm.MethodName)) ∈ TBL := tk_4 (List.mem_of_getElem? (i := 185) rfl) rfl
theorem w_906 : (Jvm.Cond.selects "EchoPantry$State" ({ cls := "EchoPantry$State", name := "countOutcome", desc := "(C)V" } : Jvm.MethodName) ({ cls := "EchoPantry$State", name := "countOutcome", desc := "(C)V" } : Jvm.MethodName)) ∈ TBL := tk_4 (List.mem_of_getElem? (i := 186) rfl) rfl
theorem w_907 : (Jvm.Cond.code ({ cls := "EchoPantry$State", name := "countOutcome", desc := "(C)V" } : Jvm.MethodName) prog_8_method_28_code (2 : Nat) (Option.none : Option Jvm.ClassFile.FieldType)) ∈ TBL := tk_4 (List.mem_of_getElem? (i := 187) rfl) rfl
theorem w_908 : (Jvm.Cond.methodLink "EchoPantry$State" (156 : Nat) ({ cls := "EchoPantry$Shelf", name := "hit", desc := "(LEchoPantry$Echo;I)I" } : Jvm.MethodName)) ∈ TBL := tk_4 (List.mem_of_getElem? (i := 188) rfl) rfl
theorem w_909 : (Jvm.Cond.instanceMethod ({ cls := "EchoPantry$Shelf", name := "hit", desc := "(LEchoPantry$Echo;I)I" } : Jvm.MethodName)) ∈ TBL := tk_4 (List.mem_of_getElem? (i := 189) rfl) rfl
theorem w_910 : (Jvm.Cond.selects "EchoPantry$Shelf" ({ cls := "EchoPantry$Shelf", name := "hit", desc := "(LEchoPantry$Echo;I)I" } : Jvm.MethodName) ({ cls := "EchoPantry$Shelf", name := "hit", desc := "(LEchoPantry$Echo;I)I" } : Jvm.MethodName)) ∈ TBL := tk_4 (List.mem_of_getElem? (i := 190) rfl) rfl
theorem w_911 : (Jvm.Cond.code ({ cls := "EchoPantry$Shelf", name := "hit", desc := "(LEchoPantry$Echo;I)I" } : Jvm.MethodName) prog_7_method_16_code (3 : Nat) (Option.some Jvm.ClassFile.FieldType.int)) ∈ TBL := tk_4 (List.mem_of_getElem? (i := 191) rfl) rfl
theorem w_912 : (Jvm.Cond.methodLink "EchoPantry$State" (160 : Nat) ({ cls := "EchoPantry$State", name := "fetch", desc := "(IC)Z" } : Jvm.MethodName)) ∈ TBL := tk_4 (List.mem_of_getElem? (i := 192) rfl) rfl
theorem w_913 : (Jvm.Cond.instanceMethod ({ cls := "EchoPantry$State", name := "fetch", desc := "(IC)Z" } : Jvm.MethodName)) ∈ TBL := tk_4 (List.mem_of_getElem? (i := 193) rfl) rfl
theorem w_914 : (Jvm.Cond.selects "EchoPantry$State" ({ cls := "EchoPantry$State", name := "fetch", desc := "(IC)Z" } : Jvm.MethodName) ({ cls := "EchoPantry$State", name := "fetch", desc := "(IC)Z" } : Jvm.MethodName)) ∈ TBL := tk_4 (List.mem_of_getElem? (i := 194) rfl) rfl
theorem w_915 : (Jvm.Cond.code ({ cls := "EchoPantry$State", name := "fetch", desc := "(IC)Z" } : Jvm.MethodName) prog_8_method_29_code (5 : Nat) (Option.some Jvm.ClassFile.FieldType.boolean)) ∈ TBL := tk_4 (List.mem_of_getElem? (i := 195) rfl) rfl
theorem w_916 : (Jvm.Cond.methodLink "EchoPantry$State" (164 : Nat) ({ cls := "EchoPantry$Shelf", name := "fetch", desc := "(CLEchoPantry$Jar;II)V" } : Jvm.MethodName)) ∈ TBL := tk_4 (List.mem_of_getElem? (i := 196) rfl) rfl
theorem w_917 : (Jvm.Cond.instanceMethod ({ cls := "EchoPantry$Shelf", name := "fetch", desc := "(CLEchoPantry$Jar;II)V" } : Jvm.MethodName)) ∈ TBL := tk_4 (List.mem_of_getElem? (i := 197) rfl) rfl
theorem w_918 : (Jvm.Cond.selects "EchoPantry$Shelf" ({ cls := "EchoPantry$Shelf", name := "fetch", desc := "(CLEchoPantry$Jar;II)V" } : Jvm.MethodName) ({ cls := "EchoPantry$Shelf", name := "fetch", desc := "(CLEchoPantry$Jar;II)V" } : Jvm.MethodName)) ∈ TBL := tk_4 (List.mem_of_getElem? (i := 198) rfl) rfl
theorem w_919 : (Jvm.Cond.code ({ cls := "EchoPantry$Shelf", name := "fetch", desc := "(CLEchoPantry$Jar;II)V" } : Jvm.MethodName) prog_7_method_15_code (10 : Nat) (Option.none : Option Jvm.ClassFile.FieldType)) ∈ TBL := tk_4 (List.mem_of_getElem? (i := 199) rfl) rfl
theorem w_920 : (Jvm.Cond.methodLink "EchoPantry$Shelf" (76 : Nat) ({ cls := "EchoPantry$Shelf", name := "countEchoes", desc := "()I" } : Jvm.MethodName)) ∈ TBL := tk_4 (List.mem_of_getElem? (i := 200) rfl) rfl
theorem w_921 : (Jvm.Cond.methodLink "EchoPantry$Shelf" (80 : Nat) ({ cls := "EchoPantry$Shelf", name := "firstInOrder", desc := "()LEchoPantry$Echo;" } : Jvm.MethodName)) ∈ TBL := tk_4 (List.mem_of_getElem? (i := 201) rfl) rfl
theorem w_922 : (Jvm.Cond.methodLink "EchoPantry$Shelf" (84 : Nat) ({ cls := "EchoPantry$Echo", name := "fill", desc := "(CLEchoPantry$Jar;II)V" } : Jvm.MethodName)) ∈ TBL := tk_4 (List.mem_of_getElem? (i := 202) rfl) rfl
theorem w_923 : (Jvm.Cond.instanceMethod ({ cls := "EchoPantry$Echo", name := "fill", desc := "(CLEchoPantry$Jar;II)V" } : Jvm.MethodName)) ∈ TBL := tk_4 (List.mem_of_getElem? (i := 203) rfl) rfl
theorem w_924 : (Jvm.Cond.selects "EchoPantry$Echo" ({ cls := "EchoPantry$Echo", name := "fill", desc := "(CLEchoPantry$Jar;II)V" } : Jvm.MethodName) ({ cls := "EchoPantry$Echo", name := "fill", desc := "(CLEchoPantry$Jar;II)V" } : Jvm.MethodName)) ∈ TBL := tk_4 (List.mem_of_getElem? (i := 204) rfl) rfl
theorem w_925 : (Jvm.Cond.code ({ cls := "EchoPantry$Echo", name := "fill", desc := "(CLEchoPantry$Jar;II)V" } : Jvm.MethodName) prog_4_method_3_code (5 : Nat) (Option.none : Option Jvm.ClassFile.FieldType)) ∈ TBL := tk_4 (List.mem_of_getElem? (i := 205) rfl) rfl
theorem w_933 : (Jvm.Cond.methodLink "EchoPantry" (197 : Nat) ({ cls := "EchoPantry$Shelf", name := "outcome", desc := "(CI)C" } : Jvm.MethodName)) ∈ TBL := tk_4 (List.mem_of_getElem? (i := 213) rfl) rfl
theorem w_941 : (Jvm.Cond.methodLink "EchoPantry" (201 : Nat) ({ cls := "EchoPantry$State", name := "warmFault", desc := "(ICI)I" } : Jvm.MethodName)) ∈ TBL := tk_4 (List.mem_of_getElem? (i := 221) rfl) rfl
theorem w_942 : (Jvm.Cond.instanceMethod ({ cls := "EchoPantry$State", name := "warmFault", desc := "(ICI)I" } : Jvm.MethodName)) ∈ TBL := tk_4 (List.mem_of_getElem? (i := 222) rfl) rfl
theorem w_943 : (Jvm.Cond.selects "EchoPantry$State" ({ cls := "EchoPantry$State", name := "warmFault", desc := "(ICI)I" } : Jvm.MethodName) ({ cls := "EchoPantry$State", name := "warmFault", desc := "(ICI)I" } : Jvm.MethodName)) ∈ TBL := tk_4 (List.mem_of_getElem? (i := 223) rfl) rfl
theorem w_944 : (Jvm.Cond.code ({ cls := "EchoPantry$State", name := "warmFault", desc := "(ICI)I" } : Jvm.MethodName) prog_8_method_13_code (5 : Nat) (Option.some Jvm.ClassFile.FieldType.int)) ∈ TBL := tk_4 (List.mem_of_getElem? (i := 224) rfl) rfl
theorem w_945 : (Jvm.Cond.methodLink "EchoPantry$State" (89 : Nat) ({ cls := "EchoPantry$State", name := "hearFault", desc := "(IC)I" } : Jvm.MethodName)) ∈ TBL := tk_4 (List.mem_of_getElem? (i := 225) rfl) rfl
theorem w_946 : (Jvm.Cond.methodLink "EchoPantry$State" (93 : Nat) ({ cls := "EchoPantry$State", name := "countWarmings", desc := "()I" } : Jvm.MethodName)) ∈ TBL := tk_4 (List.mem_of_getElem? (i := 226) rfl) rfl
theorem w_947 : (Jvm.Cond.methodLink "EchoPantry" (205 : Nat) ({ cls := "EchoPantry$State", name := "planWarming", desc := "(ICI)I" } : Jvm.MethodName)) ∈ TBL := tk_4 (List.mem_of_getElem? (i := 227) rfl) rfl
theorem w_948 : (Jvm.Cond.instanceMethod ({ cls := "EchoPantry$State", name := "planWarming", desc := "(ICI)I" } : Jvm.MethodName)) ∈ TBL := tk_4 (List.mem_of_getElem? (i := 228) rfl) rfl
theorem w_949 : (Jvm.Cond.selects "EchoPantry$State" ({ cls := "EchoPantry$State", name := "planWarming", desc := "(ICI)I" } : Jvm.MethodName) ({ cls := "EchoPantry$State", name := "planWarming", desc := "(ICI)I" } : Jvm.MethodName)) ∈ TBL := tk_4 (List.mem_of_getElem? (i := 229) rfl) rfl
theorem w_950 : (Jvm.Cond.code ({ cls := "EchoPantry$State", name := "planWarming", desc := "(ICI)I" } : Jvm.MethodName) prog_8_method_31_code (10 : Nat) (Option.some Jvm.ClassFile.FieldType.int)) ∈ TBL := tk_4 (List.mem_of_getElem? (i := 230) rfl) rfl
theorem w_951 : (Jvm.Cond.methodLink "EchoPantry$State" (172 : Nat) ({ cls := "EchoPantry$State", name := "sortWarmings", desc := "()V" } : Jvm.MethodName)) ∈ TBL := tk_4 (List.mem_of_getElem? (i := 231) rfl) rfl
theorem w_952 : (Jvm.Cond.instanceMethod ({ cls := "EchoPantry$State", name := "sortWarmings", desc := "()V" } : Jvm.MethodName)) ∈ TBL := tk_4 (List.mem_of_getElem? (i := 232) rfl) rfl
theorem w_953 : (Jvm.Cond.selects "EchoPantry$State" ({ cls := "EchoPantry$State", name := "sortWarmings", desc := "()V" } : Jvm.MethodName) ({ cls := "EchoPantry$State", name := "sortWarmings", desc := "()V" } : Jvm.MethodName)) ∈ TBL := tk_4 (List.mem_of_getElem? (i := 233) rfl) rfl
theorem w_954 : (Jvm.Cond.code ({ cls := "EchoPantry$State", name := "sortWarmings", desc := "()V" } : Jvm.MethodName) prog_8_method_33_code (5 : Nat) (Option.none : Option Jvm.ClassFile.FieldType)) ∈ TBL := tk_4 (List.mem_of_getElem? (i := 234) rfl) rfl
theorem w_955 : (Jvm.Cond.methodLink "EchoPantry$State" (175 : Nat) ({ cls := "EchoPantry$Warming", name := "isBefore", desc := "(LEchoPantry$Warming;)Z" } : Jvm.MethodName)) ∈ TBL := tk_4 (List.mem_of_getElem? (i := 235) rfl) rfl
theorem w_956 : (Jvm.Cond.instanceMethod ({ cls := "EchoPantry$Warming", name := "isBefore", desc := "(LEchoPantry$Warming;)Z" } : Jvm.MethodName)) ∈ TBL := tk_4 (List.mem_of_getElem? (i := 236) rfl) rfl
theorem w_957 : (Jvm.Cond.selects "EchoPantry$Warming" ({ cls := "EchoPantry$Warming", name := "isBefore", desc := "(LEchoPantry$Warming;)Z" } : Jvm.MethodName) ({ cls := "EchoPantry$Warming", name := "isBefore", desc := "(LEchoPantry$Warming;)Z" } : Jvm.MethodName)) ∈ TBL := tk_4 (List.mem_of_getElem? (i := 237) rfl) rfl
theorem w_958 : (Jvm.Cond.code ({ cls := "EchoPantry$Warming", name := "isBefore", desc := "(LEchoPantry$Warming;)Z" } : Jvm.MethodName) prog_9_method_3_code (2 : Nat) (Option.some Jvm.ClassFile.FieldType.boolean)) ∈ TBL := tk_4 (List.mem_of_getElem? (i := 238) rfl) rfl
theorem w_966 : (Jvm.Cond.methodLink "EchoPantry" (208 : Nat) ({ cls := "EchoPantry", name := "wantWarming", desc := "(I)LEchoPantry$Warming;" } : Jvm.MethodName)) ∈ TBL := tk_5 (List.mem_of_getElem? (i := 6) rfl) rfl
theorem w_968 : (Jvm.Cond.instanceMethod ({ cls := "EchoPantry", name := "wantWarming", desc := "(I)LEchoPantry$Warming;" } : Jvm.MethodName)) ∈ TBL := tk_5 (List.mem_of_getElem? (i := 8) rfl) rfl
theorem w_969 : (Jvm.Cond.code ({ cls := "EchoPantry", name := "wantWarming", desc := "(I)LEchoPantry$Warming;" } : Jvm.MethodName) prog_1_method_54_code (3 : Nat) (Option.some (Jvm.ClassFile.FieldType.object "EchoPantry$Warming"))) ∈ TBL := tk_5 (List.mem_of_getElem? (i := 9) rfl) rfl
theorem w_970 : (Jvm.Cond.methodLink "EchoPantry" (366 : Nat) ({ cls := "EchoPantry$State", name := "findWarming", desc := "(I)LEchoPantry$Warming;" } : Jvm.MethodName)) ∈ TBL := tk_5 (List.mem_of_getElem? (i := 10) rfl) rfl
theorem w_971 : (Jvm.Cond.instanceMethod ({ cls := "EchoPantry$State", name := "findWarming", desc := "(I)LEchoPantry$Warming;" } : Jvm.MethodName)) ∈ TBL := tk_5 (List.mem_of_getElem? (i := 11) rfl) rfl
theorem w_972 : (Jvm.Cond.selects "EchoPantry$State" ({ cls := "EchoPantry$State", name := "findWarming", desc := "(I)LEchoPantry$Warming;" } : Jvm.MethodName) ({ cls := "EchoPantry$State", name := "findWarming", desc := "(I)LEchoPantry$Warming;" } : Jvm.MethodName)) ∈ TBL := tk_5 (List.mem_of_getElem? (i := 12) rfl) rfl
theorem w_973 : (Jvm.Cond.code ({ cls := "EchoPantry$State", name := "findWarming", desc := "(I)LEchoPantry$Warming;" } : Jvm.MethodName) prog_8_method_6_code (3 : Nat) (Option.some (Jvm.ClassFile.FieldType.object "EchoPantry$Warming"))) ∈ TBL := tk_5 (List.mem_of_getElem? (i := 13) rfl) rfl
theorem w_975 : (Jvm.Cond.methodLink "EchoPantry" (212 : Nat) ({ cls := "EchoPantry$State", name := "removeWarming", desc := "(LEchoPantry$Warming;)V" } : Jvm.MethodName)) ∈ TBL := tk_5 (List.mem_of_getElem? (i := 15) rfl) rfl
theorem w_976 : (Jvm.Cond.instanceMethod ({ cls := "EchoPantry$State", name := "removeWarming", desc := "(LEchoPantry$Warming;)V" } : Jvm.MethodName)) ∈ TBL := tk_5 (List.mem_of_getElem? (i := 16) rfl) rfl
theorem w_977 : (Jvm.Cond.selects "EchoPantry$State" ({ cls := "EchoPantry$State", name := "removeWarming", desc := "(LEchoPantry$Warming;)V" } : Jvm.MethodName) ({ cls := "EchoPantry$State", name := "removeWarming", desc := "(LEchoPantry$Warming;)V" } : Jvm.MethodName)) ∈ TBL := tk_5 (List.mem_of_getElem? (i := 17) rfl) rfl
theorem w_978 : (Jvm.Cond.code ({ cls := "EchoPantry$State", name := "removeWarming", desc := "(LEchoPantry$Warming;)V" } : Jvm.MethodName) prog_8_method_32_code (2 : Nat) (Option.none : Option Jvm.ClassFile.FieldType)) ∈ TBL := tk_5 (List.mem_of_getElem? (i := 18) rfl) rfl
theorem w_986 : (Jvm.Cond.methodLink "EchoPantry" (219 : Nat) ({ cls := "EchoPantry$State", name := "passFault", desc := "(I)I" } : Jvm.MethodName)) ∈ TBL := tk_5 (List.mem_of_getElem? (i := 26) rfl) rfl
theorem w_987 : (Jvm.Cond.instanceMethod ({ cls := "EchoPantry$State", name := "passFault", desc := "(I)I" } : Jvm.MethodName)) ∈ TBL := tk_5 (List.mem_of_getElem? (i := 27) rfl) rfl
theorem w_988 : (Jvm.Cond.selects "EchoPantry$State" ({ cls := "EchoPantry$State", name := "passFault", desc := "(I)I" } : Jvm.MethodName) ({ cls := "EchoPantry$State", name := "passFault", desc := "(I)I" } : Jvm.MethodName)) ∈ TBL := tk_5 (List.mem_of_getElem? (i := 28) rfl) rfl
theorem w_989 : (Jvm.Cond.code ({ cls := "EchoPantry$State", name := "passFault", desc := "(I)I" } : Jvm.MethodName) prog_8_method_14_code (2 : Nat) (Option.some Jvm.ClassFile.FieldType.int)) ∈ TBL := tk_5 (List.mem_of_getElem? (i := 29) rfl) rfl
theorem w_990 : (Jvm.Cond.methodLink "EchoPantry" (222 : Nat) ({ cls := "EchoPantry$State", name := "letPass", desc := "(I)I" } : Jvm.MethodName)) ∈ TBL := tk_5 (List.mem_of_getElem? (i := 30) rfl) rfl
theorem w_991 : (Jvm.Cond.instanceMethod ({ cls := "EchoPantry$State", name := "letPass", desc := "(I)I" } : Jvm.MethodName)) ∈ TBL := tk_5 (List.mem_of_getElem? (i := 31) rfl) rfl
theorem w_992 : (Jvm.Cond.selects "EchoPantry$State" ({ cls := "EchoPantry$State", name := "letPass", desc := "(I)I" } : Jvm.MethodName) ({ cls := "EchoPantry$State", name := "letPass", desc := "(I)I" } : Jvm.MethodName)) ∈ TBL := tk_5 (List.mem_of_getElem? (i := 32) rfl) rfl
theorem w_993 : (Jvm.Cond.code ({ cls := "EchoPantry$State", name := "letPass", desc := "(I)I" } : Jvm.MethodName) prog_8_method_34_code (8 : Nat) (Option.some Jvm.ClassFile.FieldType.int)) ∈ TBL := tk_5 (List.mem_of_getElem? (i := 33) rfl) rfl
theorem w_1037 : (Jvm.Cond.classLink "EchoPantry" (246 : Nat) "java/lang/ArithmeticException") ∈ TBL := tk_5 (List.mem_of_getElem? (i := 77) rfl) rfl
theorem w_1047 : (Jvm.Cond.methodLink "EchoPantry" (255 : Nat) ({ cls := "EchoPantry$Shelf", name := "sumOfAges", desc := "(I)I" } : Jvm.MethodName)) ∈ TBL := tk_5 (List.mem_of_getElem? (i := 87) rfl) rfl
theorem w_1048 : (Jvm.Cond.instanceMethod ({ cls := "EchoPantry$Shelf", name := "sumOfAges", desc := "(I)I" } : Jvm.MethodName)) ∈ TBL := tk_5 (List.mem_of_getElem? (i := 88) rfl) rfl
theorem w_1049 : (Jvm.Cond.selects "EchoPantry$Shelf" ({ cls := "EchoPantry$Shelf", name := "sumOfAges", desc := "(I)I" } : Jvm.MethodName) ({ cls := "EchoPantry$Shelf", name := "sumOfAges", desc := "(I)I" } : Jvm.MethodName)) ∈ TBL := tk_5 (List.mem_of_getElem? (i := 89) rfl) rfl
theorem w_1050 : (Jvm.Cond.code ({ cls := "EchoPantry$Shelf", name := "sumOfAges", desc := "(I)I" } : Jvm.MethodName) prog_7_method_7_code (7 : Nat) (Option.some Jvm.ClassFile.FieldType.int)) ∈ TBL := tk_5 (List.mem_of_getElem? (i := 90) rfl) rfl
theorem w_1059 : (Jvm.Cond.methodLink "EchoPantry" (263 : Nat) ({ cls := "EchoPantry$State", name := "rankByHits", desc := "(I)I" } : Jvm.MethodName)) ∈ TBL := tk_5 (List.mem_of_getElem? (i := 99) rfl) rfl
theorem w_1060 : (Jvm.Cond.instanceMethod ({ cls := "EchoPantry$State", name := "rankByHits", desc := "(I)I" } : Jvm.MethodName)) ∈ TBL := tk_5 (List.mem_of_getElem? (i := 100) rfl) rfl
theorem w_1061 : (Jvm.Cond.selects "EchoPantry$State" ({ cls := "EchoPantry$State", name := "rankByHits", desc := "(I)I" } : Jvm.MethodName) ({ cls := "EchoPantry$State", name := "rankByHits", desc := "(I)I" } : Jvm.MethodName)) ∈ TBL := tk_5 (List.mem_of_getElem? (i := 101) rfl) rfl
theorem w_1062 : (Jvm.Cond.code ({ cls := "EchoPantry$State", name := "rankByHits", desc := "(I)I" } : Jvm.MethodName) prog_8_method_23_code (6 : Nat) (Option.some Jvm.ClassFile.FieldType.int)) ∈ TBL := tk_5 (List.mem_of_getElem? (i := 102) rfl) rfl
theorem w_1071 : (Jvm.Cond.methodLink "EchoPantry" (268 : Nat) ({ cls := "java/lang/StringBuilder", name := "setLength", desc := "(I)V" } : Jvm.MethodName)) ∈ TBL := tk_5 (List.mem_of_getElem? (i := 111) rfl) rfl
theorem w_1072 : (Jvm.Cond.instanceMethod ({ cls := "java/lang/StringBuilder", name := "setLength", desc := "(I)V" } : Jvm.MethodName)) ∈ TBL := tk_5 (List.mem_of_getElem? (i := 112) rfl) rfl
theorem w_1073 : (Jvm.Cond.selects "java/lang/StringBuilder" ({ cls := "java/lang/StringBuilder", name := "setLength", desc := "(I)V" } : Jvm.MethodName) ({ cls := "java/lang/StringBuilder", name := "setLength", desc := "(I)V" } : Jvm.MethodName)) ∈ TBL := tk_5 (List.mem_of_getElem? (i := 113) rfl) rfl
theorem w_1074 : (Jvm.Cond.code ({ cls := "java/lang/StringBuilder", name := "setLength", desc := "(I)V" } : Jvm.MethodName) prog_29_method_89_code (2 : Nat) (Option.none : Option Jvm.ClassFile.FieldType)) ∈ TBL := tk_5 (List.mem_of_getElem? (i := 114) rfl) rfl
theorem w_1109 : (Jvm.Cond.static ({ cls := "java/lang/Math", name := "max", desc := "(II)I" } : Jvm.MethodName)) ∈ TBL := tk_5 (List.mem_of_getElem? (i := 149) rfl) rfl
theorem w_1110 : (Jvm.Cond.code ({ cls := "java/lang/Math", name := "max", desc := "(II)I" } : Jvm.MethodName) prog_25_method_65_code (2 : Nat) (Option.some Jvm.ClassFile.FieldType.int)) ∈ TBL := tk_5 (List.mem_of_getElem? (i := 150) rfl) rfl
theorem w_1130 : (Jvm.Cond.static ({ cls := "java/lang/System", name := "arraycopy", desc := "(Ljava/lang/Object;ILjava/lang/Object;II)V" } : Jvm.MethodName)) ∈ TBL := tk_5 (List.mem_of_getElem? (i := 170) rfl) rfl
theorem w_1131 : (Jvm.Cond.native ({ cls := "java/lang/System", name := "arraycopy", desc := "(Ljava/lang/Object;ILjava/lang/Object;II)V" } : Jvm.MethodName)) ∈ TBL := tk_5 (List.mem_of_getElem? (i := 171) rfl) rfl
theorem w_1166 : (Jvm.Cond.code ({ cls := "java/lang/String", name := "length", desc := "()I" } : Jvm.MethodName) prog_28_method_54_code (1 : Nat) (Option.some Jvm.ClassFile.FieldType.int)) ∈ TBL := tk_5 (List.mem_of_getElem? (i := 206) rfl) rfl
theorem w_1207 : (Jvm.Cond.instanceMethod ({ cls := "java/lang/StringBuilder", name := "append", desc := "(I)Ljava/lang/StringBuilder;" } : Jvm.MethodName)) ∈ TBL := tk_6 (List.mem_of_getElem? (i := 7) rfl) rfl
theorem w_1208 : (Jvm.Cond.selects "java/lang/StringBuilder" ({ cls := "java/lang/StringBuilder", name := "append", desc := "(I)Ljava/lang/StringBuilder;" } : Jvm.MethodName) ({ cls := "java/lang/StringBuilder", name := "append", desc := "(I)Ljava/lang/StringBuilder;" } : Jvm.MethodName)) ∈ TBL := tk_6 (List.mem_of_getElem? (i := 8) rfl) rfl
theorem w_1209 : (Jvm.Cond.code ({ cls := "java/lang/StringBuilder", name := "append", desc := "(I)Ljava/lang/StringBuilder;" } : Jvm.MethodName) prog_29_method_15_code (2 : Nat) (Option.some (Jvm.ClassFile.FieldType.object "java/lang/StringBuilder"))) ∈ TBL := tk_6 (List.mem_of_getElem? (i := 9) rfl) rfl
theorem w_1252 : (Jvm.Cond.instanceMethod ({ cls := "java/lang/StringBuilder", name := "length", desc := "()I" } : Jvm.MethodName)) ∈ TBL := tk_6 (List.mem_of_getElem? (i := 52) rfl) rfl
theorem w_1253 : (Jvm.Cond.code ({ cls := "java/lang/StringBuilder", name := "length", desc := "()I" } : Jvm.MethodName) prog_29_method_93_code (1 : Nat) (Option.some Jvm.ClassFile.FieldType.int)) ∈ TBL := tk_6 (List.mem_of_getElem? (i := 53) rfl) rfl
theorem w_1328 : (Jvm.Cond.methodLink "EchoPantry" (271 : Nat) ({ cls := "EchoPantry", name := "writeEcho", desc := "(LEchoPantry$Echo;Z)V" } : Jvm.MethodName)) ∈ TBL := tk_6 (List.mem_of_getElem? (i := 128) rfl) rfl
theorem w_1330 : (Jvm.Cond.instanceMethod ({ cls := "EchoPantry", name := "writeEcho", desc := "(LEchoPantry$Echo;Z)V" } : Jvm.MethodName)) ∈ TBL := tk_6 (List.mem_of_getElem? (i := 130) rfl) rfl
theorem w_1331 : (Jvm.Cond.code ({ cls := "EchoPantry", name := "writeEcho", desc := "(LEchoPantry$Echo;Z)V" } : Jvm.MethodName) prog_1_method_56_code (3 : Nat) (Option.none : Option Jvm.ClassFile.FieldType)) ∈ TBL := tk_6 (List.mem_of_getElem? (i := 131) rfl) rfl
theorem w_1332 : (Jvm.Cond.methodLink "EchoPantry" (275 : Nat) ({ cls := "java/lang/StringBuilder", name := "length", desc := "()I" } : Jvm.MethodName)) ∈ TBL := tk_6 (List.mem_of_getElem? (i := 132) rfl) rfl
theorem w_1333 : (Jvm.Cond.methodLink "EchoPantry" (375 : Nat) ({ cls := "java/lang/StringBuilder", name := "append", desc := "(C)Ljava/lang/StringBuilder;" } : Jvm.MethodName)) ∈ TBL := tk_6 (List.mem_of_getElem? (i := 133) rfl) rfl
theorem w_1334 : (Jvm.Cond.instanceMethod ({ cls := "java/lang/StringBuilder", name := "append", desc := "(C)Ljava/lang/StringBuilder;" } : Jvm.MethodName)) ∈ TBL := tk_6 (List.mem_of_getElem? (i := 134) rfl) rfl
theorem w_1335 : (Jvm.Cond.selects "java/lang/StringBuilder" ({ cls := "java/lang/StringBuilder", name := "append", desc := "(C)Ljava/lang/StringBuilder;" } : Jvm.MethodName) ({ cls := "java/lang/StringBuilder", name := "append", desc := "(C)Ljava/lang/StringBuilder;" } : Jvm.MethodName)) ∈ TBL := tk_6 (List.mem_of_getElem? (i := 135) rfl) rfl
theorem w_1336 : (Jvm.Cond.code ({ cls := "java/lang/StringBuilder", name := "append", desc := "(C)Ljava/lang/StringBuilder;" } : Jvm.MethodName) prog_29_method_14_code (2 : Nat) (Option.some (Jvm.ClassFile.FieldType.object "java/lang/StringBuilder"))) ∈ TBL := tk_6 (List.mem_of_getElem? (i := 136) rfl) rfl
theorem w_1355 : (Jvm.Cond.methodLink "EchoPantry" (378 : Nat) ({ cls := "java/lang/StringBuilder", name := "append", desc := "(I)Ljava/lang/StringBuilder;" } : Jvm.MethodName)) ∈ TBL := tk_6 (List.mem_of_getElem? (i := 155) rfl) rfl
theorem w_1364 : (Jvm.Cond.methodLink "EchoPantry" (280 : Nat) ({ cls := "java/lang/StringBuilder", name := "charAt", desc := "(I)C" } : Jvm.MethodName)) ∈ TBL := tk_6 (List.mem_of_getElem? (i := 164) rfl) rfl
theorem w_1365 : (Jvm.Cond.instanceMethod ({ cls := "java/lang/StringBuilder", name := "charAt", desc := "(I)C" } : Jvm.MethodName)) ∈ TBL := tk_6 (List.mem_of_getElem? (i := 165) rfl) rfl
theorem w_1366 : (Jvm.Cond.selects "java/lang/StringBuilder" ({ cls := "java/lang/StringBuilder", name := "charAt", desc := "(I)C" } : Jvm.MethodName) ({ cls := "java/lang/StringBuilder", name := "charAt", desc := "(I)C" } : Jvm.MethodName)) ∈ TBL := tk_6 (List.mem_of_getElem? (i := 166) rfl) rfl
theorem w_1367 : (Jvm.Cond.code ({ cls := "java/lang/StringBuilder", name := "charAt", desc := "(I)C" } : Jvm.MethodName) prog_29_method_88_code (2 : Nat) (Option.some Jvm.ClassFile.FieldType.char)) ∈ TBL := tk_6 (List.mem_of_getElem? (i := 167) rfl) rfl
theorem w_1383 : (Jvm.Cond.methodLink "EchoPantry" (302 : Nat) ({ cls := "EchoPantry$CommandText", name := "append", desc := "(C)I" } : Jvm.MethodName)) ∈ TBL := tk_6 (List.mem_of_getElem? (i := 183) rfl) rfl
theorem w_1384 : (Jvm.Cond.instanceMethod ({ cls := "EchoPantry$CommandText", name := "append", desc := "(C)I" } : Jvm.MethodName)) ∈ TBL := tk_6 (List.mem_of_getElem? (i := 184) rfl) rfl
theorem w_1385 : (Jvm.Cond.selects "EchoPantry$CommandText" ({ cls := "EchoPantry$CommandText", name := "append", desc := "(C)I" } : Jvm.MethodName) ({ cls := "EchoPantry$CommandText", name := "append", desc := "(C)I" } : Jvm.MethodName)) ∈ TBL := tk_6 (List.mem_of_getElem? (i := 185) rfl) rfl
theorem w_1386 : (Jvm.Cond.code ({ cls := "EchoPantry$CommandText", name := "append", desc := "(C)I" } : Jvm.MethodName) prog_3_method_2_code (2 : Nat) (Option.some Jvm.ClassFile.FieldType.int)) ∈ TBL := tk_6 (List.mem_of_getElem? (i := 186) rfl) rfl
theorem w_1394 : (Jvm.Cond.methodLink "EchoPantry" (305 : Nat) ({ cls := "EchoPantry$CommandText", name := "parse", desc := "()Z" } : Jvm.MethodName)) ∈ TBL := tk_6 (List.mem_of_getElem? (i := 194) rfl) rfl
theorem w_1395 : (Jvm.Cond.instanceMethod ({ cls := "EchoPantry$CommandText", name := "parse", desc := "()Z" } : Jvm.MethodName)) ∈ TBL := tk_6 (List.mem_of_getElem? (i := 195) rfl) rfl
theorem w_1396 : (Jvm.Cond.selects "EchoPantry$CommandText" ({ cls := "EchoPantry$CommandText", name := "parse", desc := "()Z" } : Jvm.MethodName) ({ cls := "EchoPantry$CommandText", name := "parse", desc := "()Z" } : Jvm.MethodName)) ∈ TBL := tk_6 (List.mem_of_getElem? (i := 196) rfl) rfl
theorem w_1397 : (Jvm.Cond.code ({ cls := "EchoPantry$CommandText", name := "parse", desc := "()Z" } : Jvm.MethodName) prog_3_method_4_code (5 : Nat) (Option.some Jvm.ClassFile.FieldType.boolean)) ∈ TBL := tk_6 (List.mem_of_getElem? (i := 197) rfl) rfl
theorem w_1398 : (Jvm.Cond.methodLink "EchoPantry$CommandText" (32 : Nat) ({ cls := "EchoPantry$CommandText", name := "readCommand", desc := "(LEchoPantry$Command;)Z" } : Jvm.MethodName)) ∈ TBL := tk_6 (List.mem_of_getElem? (i := 198) rfl) rfl
theorem w_1399 : (Jvm.Cond.instanceMethod ({ cls := "EchoPantry$CommandText", name := "readCommand", desc := "(LEchoPantry$Command;)Z" } : Jvm.MethodName)) ∈ TBL := tk_6 (List.mem_of_getElem? (i := 199) rfl) rfl
theorem w_1400 : (Jvm.Cond.selects "EchoPantry$CommandText" ({ cls := "EchoPantry$CommandText", name := "readCommand", desc := "(LEchoPantry$Command;)Z" } : Jvm.MethodName) ({ cls := "EchoPantry$CommandText", name := "readCommand", desc := "(LEchoPantry$Command;)Z" } : Jvm.MethodName)) ∈ TBL := tk_6 (List.mem_of_getElem? (i := 200) rfl) rfl
theorem w_1401 : (Jvm.Cond.code ({ cls := "EchoPantry$CommandText", name := "readCommand", desc := "(LEchoPantry$Command;)Z" } : Jvm.MethodName) prog_3_method_5_code (2 : Nat) (Option.some Jvm.ClassFile.FieldType.boolean)) ∈ TBL := tk_6 (List.mem_of_getElem? (i := 201) rfl) rfl
theorem w_1402 : (Jvm.Cond.methodLink "EchoPantry$CommandText" (40 : Nat) ({ cls := "EchoPantry$CommandText", name := "readKeyword", desc := "()I" } : Jvm.MethodName)) ∈ TBL := tk_6 (List.mem_of_getElem? (i := 202) rfl) rfl
theorem w_1403 : (Jvm.Cond.instanceMethod ({ cls := "EchoPantry$CommandText", name := "readKeyword", desc := "()I" } : Jvm.MethodName)) ∈ TBL := tk_6 (List.mem_of_getElem? (i := 203) rfl) rfl
theorem w_1404 : (Jvm.Cond.selects "EchoPantry$CommandText" ({ cls := "EchoPantry$CommandText", name := "readKeyword", desc := "()I" } : Jvm.MethodName) ({ cls := "EchoPantry$CommandText", name := "readKeyword", desc := "()I" } : Jvm.MethodName)) ∈ TBL := tk_6 (List.mem_of_getElem? (i := 204) rfl) rfl
theorem w_1405 : (Jvm.Cond.code ({ cls := "EchoPantry$CommandText", name := "readKeyword", desc := "()I" } : Jvm.MethodName) prog_3_method_7_code (6 : Nat) (Option.some Jvm.ClassFile.FieldType.int)) ∈ TBL := tk_6 (List.mem_of_getElem? (i := 205) rfl) rfl
theorem w_1406 : (Jvm.Cond.methodLink "EchoPantry$CommandText" (59 : Nat) ({ cls := "EchoPantry$CommandText", name := "keywordOf", desc := "(I)Ljava/lang/String;" } : Jvm.MethodName)) ∈ TBL := tk_6 (List.mem_of_getElem? (i := 206) rfl) rfl
theorem w_1407 : (Jvm.Cond.static ({ cls := "EchoPantry$CommandText", name := "keywordOf", desc := "(I)Ljava/lang/String;" } : Jvm.MethodName)) ∈ TBL := tk_6 (List.mem_of_getElem? (i := 207) rfl) rfl
theorem w_1408 : (Jvm.Cond.code ({ cls := "EchoPantry$CommandText", name := "keywordOf", desc := "(I)Ljava/lang/String;" } : Jvm.MethodName) prog_3_method_9_code (1 : Nat) (Option.some (Jvm.ClassFile.FieldType.object "java/lang/String"))) ∈ TBL := tk_6 (List.mem_of_getElem? (i := 208) rfl) rfl
theorem w_1418 : (Jvm.Cond.methodLink "EchoPantry$CommandText" (63 : Nat) ({ cls := "EchoPantry$CommandText", name := "countSame", desc := "(Ljava/lang/String;I)I" } : Jvm.MethodName)) ∈ TBL := tk_6 (List.mem_of_getElem? (i := 218) rfl) rfl
theorem w_1419 : (Jvm.Cond.instanceMethod ({ cls := "EchoPantry$CommandText", name := "countSame", desc := "(Ljava/lang/String;I)I" } : Jvm.MethodName)) ∈ TBL := tk_6 (List.mem_of_getElem? (i := 219) rfl) rfl
theorem w_1420 : (Jvm.Cond.selects "EchoPantry$CommandText" ({ cls := "EchoPantry$CommandText", name := "countSame", desc := "(Ljava/lang/String;I)I" } : Jvm.MethodName) ({ cls := "EchoPantry$CommandText", name := "countSame", desc := "(Ljava/lang/String;I)I" } : Jvm.MethodName)) ∈ TBL := tk_6 (List.mem_of_getElem? (i := 220) rfl) rfl
theorem w_1421 : (Jvm.Cond.code ({ cls := "EchoPantry$CommandText", name := "countSame", desc := "(Ljava/lang/String;I)I" } : Jvm.MethodName) prog_3_method_8_code (4 : Nat) (Option.some Jvm.ClassFile.FieldType.int)) ∈ TBL := tk_6 (List.mem_of_getElem? (i := 221) rfl) rfl
theorem w_1422 : (Jvm.Cond.methodLink "EchoPantry$CommandText" (67 : Nat) ({ cls := "java/lang/String", name := "length", desc := "()I" } : Jvm.MethodName)) ∈ TBL := tk_6 (List.mem_of_getElem? (i := 222) rfl) rfl
theorem w_1423 : (Jvm.Cond.methodLink "EchoPantry$CommandText" (77 : Nat) ({ cls := "EchoPantry$CommandText", name := "next", desc := "()C" } : Jvm.MethodName)) ∈ TBL := tk_6 (List.mem_of_getElem? (i := 223) rfl) rfl
theorem w_1424 : (Jvm.Cond.instanceMethod ({ cls := "EchoPantry$CommandText", name := "next", desc := "()C" } : Jvm.MethodName)) ∈ TBL := tk_6 (List.mem_of_getElem? (i := 224) rfl) rfl
theorem w_1425 : (Jvm.Cond.selects "EchoPantry$CommandText" ({ cls := "EchoPantry$CommandText", name := "next", desc := "()C" } : Jvm.MethodName) ({ cls := "EchoPantry$CommandText", name := "next", desc := "()C" } : Jvm.MethodName)) ∈ TBL := tk_6 (List.mem_of_getElem? (i := 225) rfl) rfl
theorem w_1426 : (Jvm.Cond.code ({ cls := "EchoPantry$CommandText", name := "next", desc := "()C" } : Jvm.MethodName) prog_3_method_6_code (1 : Nat) (Option.some Jvm.ClassFile.FieldType.char)) ∈ TBL := tk_6 (List.mem_of_getElem? (i := 226) rfl) rfl
theorem w_1427 : (Jvm.Cond.methodLink "EchoPantry$CommandText" (81 : Nat) ({ cls := "java/lang/String", name := "charAt", desc := "(I)C" } : Jvm.MethodName)) ∈ TBL := tk_6 (List.mem_of_getElem? (i := 227) rfl) rfl
theorem w_1430 : (Jvm.Cond.code ({ cls := "java/lang/String", name := "charAt", desc := "(I)C" } : Jvm.MethodName) prog_28_method_56_code (2 : Nat) (Option.some Jvm.ClassFile.FieldType.char)) ∈ TBL := tk_6 (List.mem_of_getElem? (i := 230) rfl) rfl
theorem w_1442 : (Jvm.Cond.methodLink "EchoPantry$CommandText" (71 : Nat) ({ cls := "java/lang/Math", name := "max", desc := "(II)I" } : Jvm.MethodName)) ∈ TBL := tk_7 (List.mem_of_getElem? (i := 2) rfl) rfl
theorem w_1443 : (Jvm.Cond.methodLink "EchoPantry$CommandText" (47 : Nat) ({ cls := "EchoPantry$CommandText", name := "readLetter", desc := "(LEchoPantry$Command;)Z" } : Jvm.MethodName)) ∈ TBL := tk_7 (List.mem_of_getElem? (i := 3) rfl) rfl
theorem w_1444 : (Jvm.Cond.instanceMethod ({ cls := "EchoPantry$CommandText", name := "readLetter", desc := "(LEchoPantry$Command;)Z" } : Jvm.MethodName)) ∈ TBL := tk_7 (List.mem_of_getElem? (i := 4) rfl) rfl
theorem w_1445 : (Jvm.Cond.selects "EchoPantry$CommandText" ({ cls := "EchoPantry$CommandText", name := "readLetter", desc := "(LEchoPantry$Command;)Z" } : Jvm.MethodName) ({ cls := "EchoPantry$CommandText", name := "readLetter", desc := "(LEchoPantry$Command;)Z" } : Jvm.MethodName)) ∈ TBL := tk_7 (List.mem_of_getElem? (i := 5) rfl) rfl
theorem w_1446 : (Jvm.Cond.code ({ cls := "EchoPantry$CommandText", name := "readLetter", desc := "(LEchoPantry$Command;)Z" } : Jvm.MethodName) prog_3_method_11_code (3 : Nat) (Option.some Jvm.ClassFile.FieldType.boolean)) ∈ TBL := tk_7 (List.mem_of_getElem? (i := 6) rfl) rfl
theorem w_1447 : (Jvm.Cond.methodLink "EchoPantry$CommandText" (50 : Nat) ({ cls := "EchoPantry$CommandText", name := "readNumber", desc := "(LEchoPantry$Command;)Z" } : Jvm.MethodName)) ∈ TBL := tk_7 (List.mem_of_getElem? (i := 7) rfl) rfl
theorem w_1448 : (Jvm.Cond.instanceMethod ({ cls := "EchoPantry$CommandText", name := "readNumber", desc := "(LEchoPantry$Command;)Z" } : Jvm.MethodName)) ∈ TBL := tk_7 (List.mem_of_getElem? (i := 8) rfl) rfl
theorem w_1449 : (Jvm.Cond.selects "EchoPantry$CommandText" ({ cls := "EchoPantry$CommandText", name := "readNumber", desc := "(LEchoPantry$Command;)Z" } : Jvm.MethodName) ({ cls := "EchoPantry$CommandText", name := "readNumber", desc := "(LEchoPantry$Command;)Z" } : Jvm.MethodName)) ∈ TBL := tk_7 (List.mem_of_getElem? (i := 9) rfl) rfl
theorem w_1450 : (Jvm.Cond.code ({ cls := "EchoPantry$CommandText", name := "readNumber", desc := "(LEchoPantry$Command;)Z" } : Jvm.MethodName) prog_3_method_14_code (2 : Nat) (Option.some Jvm.ClassFile.FieldType.boolean)) ∈ TBL := tk_7 (List.mem_of_getElem? (i := 10) rfl) rfl
theorem w_1451 : (Jvm.Cond.methodLink "EchoPantry$CommandText" (36 : Nat) ({ cls := "EchoPantry$CommandText", name := "readSign", desc := "(C)Z" } : Jvm.MethodName)) ∈ TBL := tk_7 (List.mem_of_getElem? (i := 11) rfl) rfl
theorem w_1452 : (Jvm.Cond.instanceMethod ({ cls := "EchoPantry$CommandText", name := "readSign", desc := "(C)Z" } : Jvm.MethodName)) ∈ TBL := tk_7 (List.mem_of_getElem? (i := 12) rfl) rfl
theorem w_1453 : (Jvm.Cond.selects "EchoPantry$CommandText" ({ cls := "EchoPantry$CommandText", name := "readSign", desc := "(C)Z" } : Jvm.MethodName) ({ cls := "EchoPantry$CommandText", name := "readSign", desc := "(C)Z" } : Jvm.MethodName)) ∈ TBL := tk_7 (List.mem_of_getElem? (i := 13) rfl) rfl
theorem w_1454 : (Jvm.Cond.code ({ cls := "EchoPantry$CommandText", name := "readSign", desc := "(C)Z" } : Jvm.MethodName) prog_3_method_10_code (2 : Nat) (Option.some Jvm.ClassFile.FieldType.boolean)) ∈ TBL := tk_7 (List.mem_of_getElem? (i := 14) rfl) rfl
theorem w_1455 : (Jvm.Cond.methodLink "EchoPantry$CommandText" (110 : Nat) ({ cls := "EchoPantry$CommandText", name := "isDigit", desc := "(C)Z" } : Jvm.MethodName)) ∈ TBL := tk_7 (List.mem_of_getElem? (i := 15) rfl) rfl
theorem w_1456 : (Jvm.Cond.static ({ cls := "EchoPantry$CommandText", name := "isDigit", desc := "(C)Z" } : Jvm.MethodName)) ∈ TBL := tk_7 (List.mem_of_getElem? (i := 16) rfl) rfl
theorem w_1457 : (Jvm.Cond.code ({ cls := "EchoPantry$CommandText", name := "isDigit", desc := "(C)Z" } : Jvm.MethodName) prog_3_method_15_code (1 : Nat) (Option.some Jvm.ClassFile.FieldType.boolean)) ∈ TBL := tk_7 (List.mem_of_getElem? (i := 17) rfl) rfl
theorem w_1458 : (Jvm.Cond.methodLink "EchoPantry$CommandText" (53 : Nat) ({ cls := "EchoPantry$CommandText", name := "readDigit", desc := "(LEchoPantry$Command;)Z" } : Jvm.MethodName)) ∈ TBL := tk_7 (List.mem_of_getElem? (i := 18) rfl) rfl
theorem w_1459 : (Jvm.Cond.instanceMethod ({ cls := "EchoPantry$CommandText", name := "readDigit", desc := "(LEchoPantry$Command;)Z" } : Jvm.MethodName)) ∈ TBL := tk_7 (List.mem_of_getElem? (i := 19) rfl) rfl
theorem w_1460 : (Jvm.Cond.selects "EchoPantry$CommandText" ({ cls := "EchoPantry$CommandText", name := "readDigit", desc := "(LEchoPantry$Command;)Z" } : Jvm.MethodName) ({ cls := "EchoPantry$CommandText", name := "readDigit", desc := "(LEchoPantry$Command;)Z" } : Jvm.MethodName)) ∈ TBL := tk_7 (List.mem_of_getElem? (i := 20) rfl) rfl
theorem w_1461 : (Jvm.Cond.code ({ cls := "EchoPantry$CommandText", name := "readDigit", desc := "(LEchoPantry$Command;)Z" } : Jvm.MethodName) prog_3_method_13_code (2 : Nat) (Option.some Jvm.ClassFile.FieldType.boolean)) ∈ TBL := tk_7 (List.mem_of_getElem? (i := 21) rfl) rfl
theorem w_1462 : (Jvm.Cond.methodLink "EchoPantry$CommandText" (56 : Nat) ({ cls := "EchoPantry$CommandText", name := "readPolicy", desc := "(LEchoPantry$Command;)Z" } : Jvm.MethodName)) ∈ TBL := tk_7 (List.mem_of_getElem? (i := 22) rfl) rfl
theorem w_1463 : (Jvm.Cond.instanceMethod ({ cls := "EchoPantry$CommandText", name := "readPolicy", desc := "(LEchoPantry$Command;)Z" } : Jvm.MethodName)) ∈ TBL := tk_7 (List.mem_of_getElem? (i := 23) rfl) rfl
theorem w_1464 : (Jvm.Cond.selects "EchoPantry$CommandText" ({ cls := "EchoPantry$CommandText", name := "readPolicy", desc := "(LEchoPantry$Command;)Z" } : Jvm.MethodName) ({ cls := "EchoPantry$CommandText", name := "readPolicy", desc := "(LEchoPantry$Command;)Z" } : Jvm.MethodName)) ∈ TBL := tk_7 (List.mem_of_getElem? (i := 24) rfl) rfl
theorem w_1465 : (Jvm.Cond.code ({ cls := "EchoPantry$CommandText", name := "readPolicy", desc := "(LEchoPantry$Command;)Z" } : Jvm.MethodName) prog_3_method_12_code (3 : Nat) (Option.some Jvm.ClassFile.FieldType.boolean)) ∈ TBL := tk_7 (List.mem_of_getElem? (i := 25) rfl) rfl
theorem w_1467 : (Jvm.Cond.methodLink "EchoPantry" (314 : Nat) ({ cls := "EchoPantry$History", name := "keep", desc := "(LEchoPantry$State;)V" } : Jvm.MethodName)) ∈ TBL := tk_7 (List.mem_of_getElem? (i := 27) rfl) rfl
theorem w_1468 : (Jvm.Cond.methodLink "EchoPantry" (320 : Nat) ({ cls := "EchoPantry$CommandText", name := "command", desc := "(I)LEchoPantry$Command;" } : Jvm.MethodName)) ∈ TBL := tk_7 (List.mem_of_getElem? (i := 28) rfl) rfl
theorem w_1469 : (Jvm.Cond.instanceMethod ({ cls := "EchoPantry$CommandText", name := "command", desc := "(I)LEchoPantry$Command;" } : Jvm.MethodName)) ∈ TBL := tk_7 (List.mem_of_getElem? (i := 29) rfl) rfl
theorem w_1470 : (Jvm.Cond.selects "EchoPantry$CommandText" ({ cls := "EchoPantry$CommandText", name := "command", desc := "(I)LEchoPantry$Command;" } : Jvm.MethodName) ({ cls := "EchoPantry$CommandText", name := "command", desc := "(I)LEchoPantry$Command;" } : Jvm.MethodName)) ∈ TBL := tk_7 (List.mem_of_getElem? (i := 30) rfl) rfl
theorem w_1471 : (Jvm.Cond.code ({ cls := "EchoPantry$CommandText", name := "command", desc := "(I)LEchoPantry$Command;" } : Jvm.MethodName) prog_3_method_3_code (2 : Nat) (Option.some (Jvm.ClassFile.FieldType.object "EchoPantry$Command"))) ∈ TBL := tk_7 (List.mem_of_getElem? (i := 31) rfl) rfl
theorem w_1472 : (Jvm.Cond.methodLink "EchoPantry" (324 : Nat) ({ cls := "EchoPantry", name := "faultOf", desc := "(LEchoPantry$Command;)I" } : Jvm.MethodName)) ∈ TBL := tk_7 (List.mem_of_getElem? (i := 32) rfl) rfl
theorem w_1474 : (Jvm.Cond.instanceMethod ({ cls := "EchoPantry", name := "faultOf", desc := "(LEchoPantry$Command;)I" } : Jvm.MethodName)) ∈ TBL := tk_7 (List.mem_of_getElem? (i := 34) rfl) rfl
theorem w_1475 : (Jvm.Cond.code ({ cls := "EchoPantry", name := "faultOf", desc := "(LEchoPantry$Command;)I" } : Jvm.MethodName) prog_1_method_57_code (2 : Nat) (Option.some Jvm.ClassFile.FieldType.int)) ∈ TBL := tk_7 (List.mem_of_getElem? (i := 35) rfl) rfl
theorem w_1476 : (Jvm.Cond.methodLink "EchoPantry" (394 : Nat) ({ cls := "EchoPantry$State", name := "shelfFault", desc := "(I)I" } : Jvm.MethodName)) ∈ TBL := tk_7 (List.mem_of_getElem? (i := 36) rfl) rfl
theorem w_1477 : (Jvm.Cond.instanceMethod ({ cls := "EchoPantry$State", name := "shelfFault", desc := "(I)I" } : Jvm.MethodName)) ∈ TBL := tk_7 (List.mem_of_getElem? (i := 37) rfl) rfl
theorem w_1478 : (Jvm.Cond.selects "EchoPantry$State" ({ cls := "EchoPantry$State", name := "shelfFault", desc := "(I)I" } : Jvm.MethodName) ({ cls := "EchoPantry$State", name := "shelfFault", desc := "(I)I" } : Jvm.MethodName)) ∈ TBL := tk_7 (List.mem_of_getElem? (i := 38) rfl) rfl
theorem w_1479 : (Jvm.Cond.code ({ cls := "EchoPantry$State", name := "shelfFault", desc := "(I)I" } : Jvm.MethodName) prog_8_method_11_code (2 : Nat) (Option.some Jvm.ClassFile.FieldType.int)) ∈ TBL := tk_7 (List.mem_of_getElem? (i := 39) rfl) rfl
theorem w_1480 : (Jvm.Cond.methodLink "EchoPantry" (328 : Nat) ({ cls := "EchoPantry$History", name := "takeBack", desc := "(LEchoPantry$State;)V" } : Jvm.MethodName)) ∈ TBL := tk_7 (List.mem_of_getElem? (i := 40) rfl) rfl
theorem w_1481 : (Jvm.Cond.instanceMethod ({ cls := "EchoPantry$History", name := "takeBack", desc := "(LEchoPantry$State;)V" } : Jvm.MethodName)) ∈ TBL := tk_7 (List.mem_of_getElem? (i := 41) rfl) rfl
theorem w_1482 : (Jvm.Cond.selects "EchoPantry$History" ({ cls := "EchoPantry$History", name := "takeBack", desc := "(LEchoPantry$State;)V" } : Jvm.MethodName) ({ cls := "EchoPantry$History", name := "takeBack", desc := "(LEchoPantry$State;)V" } : Jvm.MethodName)) ∈ TBL := tk_7 (List.mem_of_getElem? (i := 42) rfl) rfl
theorem w_1483 : (Jvm.Cond.code ({ cls := "EchoPantry$History", name := "takeBack", desc := "(LEchoPantry$State;)V" } : Jvm.MethodName) prog_5_method_5_code (2 : Nat) (Option.none : Option Jvm.ClassFile.FieldType)) ∈ TBL := tk_7 (List.mem_of_getElem? (i := 43) rfl) rfl
theorem w_1485 : (Jvm.Cond.methodLink "EchoPantry" (333 : Nat) ({ cls := "EchoPantry", name := "carryOut", desc := "(LEchoPantry$Command;)V" } : Jvm.MethodName)) ∈ TBL := tk_7 (List.mem_of_getElem? (i := 45) rfl) rfl
theorem w_1487 : (Jvm.Cond.instanceMethod ({ cls := "EchoPantry", name := "carryOut", desc := "(LEchoPantry$Command;)V" } : Jvm.MethodName)) ∈ TBL := tk_7 (List.mem_of_getElem? (i := 47) rfl) rfl
theorem w_1488 : (Jvm.Cond.code ({ cls := "EchoPantry", name := "carryOut", desc := "(LEchoPantry$Command;)V" } : Jvm.MethodName) prog_1_method_58_code (2 : Nat) (Option.none : Option Jvm.ClassFile.FieldType)) ∈ TBL := tk_7 (List.mem_of_getElem? (i := 48) rfl) rfl
theorem w_1489 : (Jvm.Cond.methodLink "EchoPantry" (397 : Nat) ({ cls := "EchoPantry$State", name := "tune", desc := "(IZ)V" } : Jvm.MethodName)) ∈ TBL := tk_7 (List.mem_of_getElem? (i := 49) rfl) rfl
theorem w_1490 : (Jvm.Cond.instanceMethod ({ cls := "EchoPantry$State", name := "tune", desc := "(IZ)V" } : Jvm.MethodName)) ∈ TBL := tk_7 (List.mem_of_getElem? (i := 50) rfl) rfl
theorem w_1491 : (Jvm.Cond.selects "EchoPantry$State" ({ cls := "EchoPantry$State", name := "tune", desc := "(IZ)V" } : Jvm.MethodName) ({ cls := "EchoPantry$State", name := "tune", desc := "(IZ)V" } : Jvm.MethodName)) ∈ TBL := tk_7 (List.mem_of_getElem? (i := 51) rfl) rfl
theorem w_1492 : (Jvm.Cond.code ({ cls := "EchoPantry$State", name := "tune", desc := "(IZ)V" } : Jvm.MethodName) prog_8_method_22_code (4 : Nat) (Option.none : Option Jvm.ClassFile.FieldType)) ∈ TBL := tk_7 (List.mem_of_getElem? (i := 52) rfl) rfl
theorem w_1493 : (Jvm.Cond.methodLink "EchoPantry" (337 : Nat) ({ cls := "EchoPantry$History", name := "confirm", desc := "()V" } : Jvm.MethodName)) ∈ TBL := tk_7 (List.mem_of_getElem? (i := 53) rfl) rfl
theorem w_1518 : (Jvm.Cond.methodLink "EchoPantry" (349 : Nat) ({ cls := "EchoPantry$History", name := "goBack", desc := "(LEchoPantry$State;)V" } : Jvm.MethodName)) ∈ TBL := tk_7 (List.mem_of_getElem? (i := 78) rfl) rfl
theorem w_1519 : (Jvm.Cond.instanceMethod ({ cls := "EchoPantry$History", name := "goBack", desc := "(LEchoPantry$State;)V" } : Jvm.MethodName)) ∈ TBL := tk_7 (List.mem_of_getElem? (i := 79) rfl) rfl
theorem w_1520 : (Jvm.Cond.selects "EchoPantry$History" ({ cls := "EchoPantry$History", name := "goBack", desc := "(LEchoPantry$State;)V" } : Jvm.MethodName) ({ cls := "EchoPantry$History", name := "goBack", desc := "(LEchoPantry$State;)V" } : Jvm.MethodName)) ∈ TBL := tk_7 (List.mem_of_getElem? (i := 80) rfl) rfl
theorem w_1521 : (Jvm.Cond.code ({ cls := "EchoPantry$History", name := "goBack", desc := "(LEchoPantry$State;)V" } : Jvm.MethodName) prog_5_method_7_code (2 : Nat) (Option.none : Option Jvm.ClassFile.FieldType)) ∈ TBL := tk_7 (List.mem_of_getElem? (i := 81) rfl) rfl
theorem w_1522 : (Jvm.Cond.methodLink "EchoPantry$History" (45 : Nat) ({ cls := "EchoPantry$History", name := "takeBack", desc := "(LEchoPantry$State;)V" } : Jvm.MethodName)) ∈ TBL := tk_7 (List.mem_of_getElem? (i := 82) rfl) rfl
theorem w_1536 : (Jvm.Cond.methodLink "EchoPantryModel" (3 : Nat) ({ cls := "java/lang/Object", name := "<init>", desc := "()V" } : Jvm.MethodName)) ∈ TBL := tk_7 (List.mem_of_getElem? (i := 96) rfl) rfl
theorem w_1537 : (Jvm.Cond.fieldLink "EchoPantryModel" (9 : Nat) "EchoPantryModel" "s" "[I") ∈ TBL := tk_7 (List.mem_of_getElem? (i := 97) rfl) rfl
theorem w_1538 : (Jvm.Cond.fieldLink "EchoPantryModel" (13 : Nat) "EchoPantryModel" "before" "[I") ∈ TBL := tk_7 (List.mem_of_getElem? (i := 98) rfl) rfl
theorem w_1539 : (Jvm.Cond.fieldLink "EchoPantryModel" (16 : Nat) "EchoPantryModel" "saved" "[I") ∈ TBL := tk_7 (List.mem_of_getElem? (i := 99) rfl) rfl
theorem w_1540 : (Jvm.Cond.fieldLink "EchoPantryModel" (239 : Nat) "EchoPantryModel" "isSaved" "Z") ∈ TBL := tk_7 (List.mem_of_getElem? (i := 100) rfl) rfl
theorem w_1541 : (Jvm.Cond.fieldLink "EchoPantryModel" (19 : Nat) "EchoPantryModel" "past" "[I") ∈ TBL := tk_7 (List.mem_of_getElem? (i := 101) rfl) rfl
theorem w_1542 : (Jvm.Cond.fieldLink "EchoPantryModel" (48 : Nat) "EchoPantryModel" "pastMany" "I") ∈ TBL := tk_7 (List.mem_of_getElem? (i := 102) rfl) rfl
theorem w_1543 : (Jvm.Cond.fieldLink "EchoPantryModel" (39 : Nat) "EchoPantryModel" "thrown" "I") ∈ TBL := tk_7 (List.mem_of_getElem? (i := 103) rfl) rfl
theorem w_1544 : (Jvm.Cond.fieldLink "EchoPantryModel" (22 : Nat) "EchoPantryModel" "line" "[C") ∈ TBL := tk_7 (List.mem_of_getElem? (i := 104) rfl) rfl
theorem w_1545 : (Jvm.Cond.fieldLink "EchoPantryModel" (163 : Nat) "EchoPantryModel" "lineMany" "I") ∈ TBL := tk_7 (List.mem_of_getElem? (i := 105) rfl) rfl
theorem w_1546 : (Jvm.Cond.fieldLink "EchoPantryModel" (26 : Nat) "EchoPantryModel" "text" "[C") ∈ TBL := tk_7 (List.mem_of_getElem? (i := 106) rfl) rfl
theorem w_1547 : (Jvm.Cond.fieldLink "EchoPantryModel" (173 : Nat) "EchoPantryModel" "length" "I") ∈ TBL := tk_7 (List.mem_of_getElem? (i := 107) rfl) rfl
theorem w_1548 : (Jvm.Cond.fieldLink "EchoPantryModel" (176 : Nat) "EchoPantryModel" "at" "I") ∈ TBL := tk_7 (List.mem_of_getElem? (i := 108) rfl) rfl
theorem w_1549 : (Jvm.Cond.fieldLink "EchoPantryModel" (183 : Nat) "EchoPantryModel" "isWrong" "Z") ∈ TBL := tk_7 (List.mem_of_getElem? (i := 109) rfl) rfl
theorem w_1550 : (Jvm.Cond.fieldLink "EchoPantryModel" (29 : Nat) "EchoPantryModel" "errorAt" "I") ∈ TBL := tk_7 (List.mem_of_getElem? (i := 110) rfl) rfl
theorem w_1551 : (Jvm.Cond.fieldLink "EchoPantryModel" (33 : Nat) "EchoPantryModel" "failedAt" "I") ∈ TBL := tk_7 (List.mem_of_getElem? (i := 111) rfl) rfl
theorem w_1552 : (Jvm.Cond.fieldLink "EchoPantryModel" (36 : Nat) "EchoPantryModel" "commands" "[I") ∈ TBL := tk_7 (List.mem_of_getElem? (i := 112) rfl) rfl
theorem w_1553 : (Jvm.Cond.fieldLink "EchoPantryModel" (203 : Nat) "EchoPantryModel" "commandMany" "I") ∈ TBL := tk_7 (List.mem_of_getElem? (i := 113) rfl) rfl
theorem w_1589 : (Jvm.Cond.arrayClass Jvm.ClassFile.FieldType.int) ∈ TBL := tk_7 (List.mem_of_getElem? (i := 149) rfl) rfl
theorem w_1598 : (Jvm.Cond.methodLink "EchoPantryModel" (99 : Nat) ({ cls := "EchoPantryModel", name := "keep", desc := "()V" } : Jvm.MethodName)) ∈ TBL := tk_7 (List.mem_of_getElem? (i := 158) rfl) rfl
theorem w_1600 : (Jvm.Cond.instanceMethod ({ cls := "EchoPantryModel", name := "keep", desc := "()V" } : Jvm.MethodName)) ∈ TBL := tk_7 (List.mem_of_getElem? (i := 160) rfl) rfl
theorem w_1601 : (Jvm.Cond.code ({ cls := "EchoPantryModel", name := "keep", desc := "()V" } : Jvm.MethodName) prog_11_method_4_code (1 : Nat) (Option.none : Option Jvm.ClassFile.FieldType)) ∈ TBL := tk_7 (List.mem_of_getElem? (i := 161) rfl) rfl
theorem w_1602 : (Jvm.Cond.methodLink "EchoPantryModel" (42 : Nat) ({ cls := "java/lang/System", name := "arraycopy", desc := "(Ljava/lang/Object;ILjava/lang/Object;II)V" } : Jvm.MethodName)) ∈ TBL := tk_7 (List.mem_of_getElem? (i := 162) rfl) rfl
theorem w_1603 : (Jvm.Cond.methodLink "EchoPantryModel" (102 : Nat) ({ cls := "EchoPantryModel", name := "doAddJar", desc := "(II)I" } : Jvm.MethodName)) ∈ TBL := tk_7 (List.mem_of_getElem? (i := 163) rfl) rfl
theorem w_1605 : (Jvm.Cond.instanceMethod ({ cls := "EchoPantryModel", name := "doAddJar", desc := "(II)I" } : Jvm.MethodName)) ∈ TBL := tk_7 (List.mem_of_getElem? (i := 165) rfl) rfl
theorem w_1606 : (Jvm.Cond.code ({ cls := "EchoPantryModel", name := "doAddJar", desc := "(II)I" } : Jvm.MethodName) prog_11_method_23_code (3 : Nat) (Option.some Jvm.ClassFile.FieldType.int)) ∈ TBL := tk_7 (List.mem_of_getElem? (i := 166) rfl) rfl
theorem w_1607 : (Jvm.Cond.methodLink "EchoPantryModel" (55 : Nat) ({ cls := "EchoPantryModel", name := "isLetter", desc := "(I)Z" } : Jvm.MethodName)) ∈ TBL := tk_7 (List.mem_of_getElem? (i := 167) rfl) rfl
theorem w_1608 : (Jvm.Cond.static ({ cls := "EchoPantryModel", name := "isLetter", desc := "(I)Z" } : Jvm.MethodName)) ∈ TBL := tk_7 (List.mem_of_getElem? (i := 168) rfl) rfl
theorem w_1609 : (Jvm.Cond.code ({ cls := "EchoPantryModel", name := "isLetter", desc := "(I)Z" } : Jvm.MethodName) prog_11_method_8_code (1 : Nat) (Option.some Jvm.ClassFile.FieldType.boolean)) ∈ TBL := tk_7 (List.mem_of_getElem? (i := 169) rfl) rfl
theorem w_1610 : (Jvm.Cond.methodLink "EchoPantryModel" (51 : Nat) ({ cls := "EchoPantryModel", name := "in", desc := "(III)Z" } : Jvm.MethodName)) ∈ TBL := tk_7 (List.mem_of_getElem? (i := 170) rfl) rfl
theorem w_1611 : (Jvm.Cond.static ({ cls := "EchoPantryModel", name := "in", desc := "(III)Z" } : Jvm.MethodName)) ∈ TBL := tk_7 (List.mem_of_getElem? (i := 171) rfl) rfl
theorem w_1612 : (Jvm.Cond.code ({ cls := "EchoPantryModel", name := "in", desc := "(III)Z" } : Jvm.MethodName) prog_11_method_3_code (3 : Nat) (Option.some Jvm.ClassFile.FieldType.boolean)) ∈ TBL := tk_7 (List.mem_of_getElem? (i := 172) rfl) rfl
theorem w_1613 : (Jvm.Cond.methodLink "EchoPantryModel" (92 : Nat) ({ cls := "EchoPantryModel", name := "fails", desc := "(I)I" } : Jvm.MethodName)) ∈ TBL := tk_7 (List.mem_of_getElem? (i := 173) rfl) rfl
theorem w_1615 : (Jvm.Cond.instanceMethod ({ cls := "EchoPantryModel", name := "fails", desc := "(I)I" } : Jvm.MethodName)) ∈ TBL := tk_7 (List.mem_of_getElem? (i := 175) rfl) rfl
theorem w_1616 : (Jvm.Cond.code ({ cls := "EchoPantryModel", name := "fails", desc := "(I)I" } : Jvm.MethodName) prog_11_method_6_code (2 : Nat) (Option.some Jvm.ClassFile.FieldType.int)) ∈ TBL := tk_7 (List.mem_of_getElem? (i := 176) rfl) rfl
theorem w_1617 : (Jvm.Cond.methodLink "EchoPantryModel" (95 : Nat) ({ cls := "EchoPantryModel", name := "jars", desc := "()I" } : Jvm.MethodName)) ∈ TBL := tk_7 (List.mem_of_getElem? (i := 177) rfl) rfl
theorem w_1619 : (Jvm.Cond.instanceMethod ({ cls := "EchoPantryModel", name := "jars", desc := "()I" } : Jvm.MethodName)) ∈ TBL := tk_7 (List.mem_of_getElem? (i := 179) rfl) rfl
theorem w_1620 : (Jvm.Cond.code ({ cls := "EchoPantryModel", name := "jars", desc := "()I" } : Jvm.MethodName) prog_11_method_11_code (3 : Nat) (Option.some Jvm.ClassFile.FieldType.int)) ∈ TBL := tk_7 (List.mem_of_getElem? (i := 180) rfl) rfl
theorem w_1621 : (Jvm.Cond.methodLink "EchoPantryModel" (63 : Nat) ({ cls := "EchoPantryModel", name := "isJar", desc := "(I)Z" } : Jvm.MethodName)) ∈ TBL := tk_7 (List.mem_of_getElem? (i := 181) rfl) rfl
theorem w_1623 : (Jvm.Cond.instanceMethod ({ cls := "EchoPantryModel", name := "isJar", desc := "(I)Z" } : Jvm.MethodName)) ∈ TBL := tk_7 (List.mem_of_getElem? (i := 183) rfl) rfl
theorem w_1624 : (Jvm.Cond.code ({ cls := "EchoPantryModel", name := "isJar", desc := "(I)Z" } : Jvm.MethodName) prog_11_method_10_code (2 : Nat) (Option.some Jvm.ClassFile.FieldType.boolean)) ∈ TBL := tk_7 (List.mem_of_getElem? (i := 184) rfl) rfl
theorem w_1625 : (Jvm.Cond.methodLink "EchoPantryModel" (59 : Nat) ({ cls := "EchoPantryModel", name := "jar", desc := "(I)I" } : Jvm.MethodName)) ∈ TBL := tk_7 (List.mem_of_getElem? (i := 185) rfl) rfl
theorem w_1626 : (Jvm.Cond.static ({ cls := "EchoPantryModel", name := "jar", desc := "(I)I" } : Jvm.MethodName)) ∈ TBL := tk_7 (List.mem_of_getElem? (i := 186) rfl) rfl
theorem w_1627 : (Jvm.Cond.code ({ cls := "EchoPantryModel", name := "jar", desc := "(I)I" } : Jvm.MethodName) prog_11_method_9_code (1 : Nat) (Option.some Jvm.ClassFile.FieldType.int)) ∈ TBL := tk_7 (List.mem_of_getElem? (i := 187) rfl) rfl
theorem w_1628 : (Jvm.Cond.methodLink "EchoPantryModel" (105 : Nat) ({ cls := "EchoPantryModel", name := "ends", desc := "(I)I" } : Jvm.MethodName)) ∈ TBL := tk_7 (List.mem_of_getElem? (i := 188) rfl) rfl
theorem w_1630 : (Jvm.Cond.instanceMethod ({ cls := "EchoPantryModel", name := "ends", desc := "(I)I" } : Jvm.MethodName)) ∈ TBL := tk_7 (List.mem_of_getElem? (i := 190) rfl) rfl
theorem w_1631 : (Jvm.Cond.code ({ cls := "EchoPantryModel", name := "ends", desc := "(I)I" } : Jvm.MethodName) prog_11_method_5_code (2 : Nat) (Option.some Jvm.ClassFile.FieldType.int)) ∈ TBL := tk_7 (List.mem_of_getElem? (i := 191) rfl) rfl
theorem w_1636 : (Jvm.Cond.methodLink "EchoPantryModel" (108 : Nat) ({ cls := "EchoPantryModel", name := "doRemoveJar", desc := "(I)I" } : Jvm.MethodName)) ∈ TBL := tk_7 (List.mem_of_getElem? (i := 196) rfl) rfl
theorem w_1638 : (Jvm.Cond.instanceMethod ({ cls := "EchoPantryModel", name := "doRemoveJar", desc := "(I)I" } : Jvm.MethodName)) ∈ TBL := tk_7 (List.mem_of_getElem? (i := 198) rfl) rfl
theorem w_1639 : (Jvm.Cond.code ({ cls := "EchoPantryModel", name := "doRemoveJar", desc := "(I)I" } : Jvm.MethodName) prog_11_method_25_code (4 : Nat) (Option.some Jvm.ClassFile.FieldType.int)) ∈ TBL := tk_7 (List.mem_of_getElem? (i := 199) rfl) rfl
theorem w_1640 : (Jvm.Cond.methodLink "EchoPantryModel" (66 : Nat) ({ cls := "EchoPantryModel", name := "echo", desc := "(II)I" } : Jvm.MethodName)) ∈ TBL := tk_7 (List.mem_of_getElem? (i := 200) rfl) rfl
theorem w_1641 : (Jvm.Cond.static ({ cls := "EchoPantryModel", name := "echo", desc := "(II)I" } : Jvm.MethodName)) ∈ TBL := tk_7 (List.mem_of_getElem? (i := 201) rfl) rfl
theorem w_1642 : (Jvm.Cond.code ({ cls := "EchoPantryModel", name := "echo", desc := "(II)I" } : Jvm.MethodName) prog_11_method_14_code (2 : Nat) (Option.some Jvm.ClassFile.FieldType.int)) ∈ TBL := tk_7 (List.mem_of_getElem? (i := 202) rfl) rfl
theorem w_1647 : (Jvm.Cond.methodLink "EchoPantryModel" (111 : Nat) ({ cls := "EchoPantryModel", name := "doSay", desc := "(II)I" } : Jvm.MethodName)) ∈ TBL := tk_7 (List.mem_of_getElem? (i := 207) rfl) rfl
theorem w_1649 : (Jvm.Cond.instanceMethod ({ cls := "EchoPantryModel", name := "doSay", desc := "(II)I" } : Jvm.MethodName)) ∈ TBL := tk_7 (List.mem_of_getElem? (i := 209) rfl) rfl
theorem w_1650 : (Jvm.Cond.code ({ cls := "EchoPantryModel", name := "doSay", desc := "(II)I" } : Jvm.MethodName) prog_11_method_27_code (7 : Nat) (Option.some Jvm.ClassFile.FieldType.int)) ∈ TBL := tk_7 (List.mem_of_getElem? (i := 210) rfl) rfl
theorem w_1651 : (Jvm.Cond.methodLink "EchoPantryModel" (77 : Nat) ({ cls := "EchoPantryModel", name := "of", desc := "(II)I" } : Jvm.MethodName)) ∈ TBL := tk_7 (List.mem_of_getElem? (i := 211) rfl) rfl
theorem w_1653 : (Jvm.Cond.instanceMethod ({ cls := "EchoPantryModel", name := "of", desc := "(II)I" } : Jvm.MethodName)) ∈ TBL := tk_7 (List.mem_of_getElem? (i := 213) rfl) rfl
theorem w_1654 : (Jvm.Cond.code ({ cls := "EchoPantryModel", name := "of", desc := "(II)I" } : Jvm.MethodName) prog_11_method_13_code (3 : Nat) (Option.some Jvm.ClassFile.FieldType.int)) ∈ TBL := tk_7 (List.mem_of_getElem? (i := 214) rfl) rfl
theorem w_1663 : (Jvm.Cond.methodLink "EchoPantryModel" (114 : Nat) ({ cls := "EchoPantryModel", name := "isThere", desc := "(Z)Z" } : Jvm.MethodName)) ∈ TBL := tk_7 (List.mem_of_getElem? (i := 223) rfl) rfl
theorem w_1665 : (Jvm.Cond.instanceMethod ({ cls := "EchoPantryModel", name := "isThere", desc := "(Z)Z" } : Jvm.MethodName)) ∈ TBL := tk_7 (List.mem_of_getElem? (i := 225) rfl) rfl
theorem w_1666 : (Jvm.Cond.code ({ cls := "EchoPantryModel", name := "isThere", desc := "(Z)Z" } : Jvm.MethodName) prog_11_method_7_code (2 : Nat) (Option.some Jvm.ClassFile.FieldType.boolean)) ∈ TBL := tk_7 (List.mem_of_getElem? (i := 226) rfl) rfl
theorem w_1675 : (Jvm.Cond.methodLink "EchoPantryModel" (118 : Nat) ({ cls := "EchoPantryModel", name := "doAddShelf", desc := "(III)I" } : Jvm.MethodName)) ∈ TBL := tk_7 (List.mem_of_getElem? (i := 235) rfl) rfl
theorem w_1677 : (Jvm.Cond.instanceMethod ({ cls := "EchoPantryModel", name := "doAddShelf", desc := "(III)I" } : Jvm.MethodName)) ∈ TBL := tk_7 (List.mem_of_getElem? (i := 237) rfl) rfl
theorem w_1678 : (Jvm.Cond.code ({ cls := "EchoPantryModel", name := "doAddShelf", desc := "(III)I" } : Jvm.MethodName) prog_11_method_32_code (8 : Nat) (Option.some Jvm.ClassFile.FieldType.int)) ∈ TBL := tk_7 (List.mem_of_getElem? (i := 238) rfl) rfl
theorem w_1683 : (Jvm.Cond.methodLink "EchoPantryModel" (125 : Nat) ({ cls := "EchoPantryModel", name := "doListen", desc := "(IZ)I" } : Jvm.MethodName)) ∈ TBL := tk_8 (List.mem_of_getElem? (i := 3) rfl) rfl
theorem w_1685 : (Jvm.Cond.instanceMethod ({ cls := "EchoPantryModel", name := "doListen", desc := "(IZ)I" } : Jvm.MethodName)) ∈ TBL := tk_8 (List.mem_of_getElem? (i := 5) rfl) rfl
theorem w_1686 : (Jvm.Cond.code ({ cls := "EchoPantryModel", name := "doListen", desc := "(IZ)I" } : Jvm.MethodName) prog_11_method_34_code (4 : Nat) (Option.some Jvm.ClassFile.FieldType.int)) ∈ TBL := tk_8 (List.mem_of_getElem? (i := 6) rfl) rfl
theorem w_1687 : (Jvm.Cond.methodLink "EchoPantryModel" (122 : Nat) ({ cls := "EchoPantryModel", name := "isShelf", desc := "(I)Z" } : Jvm.MethodName)) ∈ TBL := tk_8 (List.mem_of_getElem? (i := 7) rfl) rfl
theorem w_1689 : (Jvm.Cond.instanceMethod ({ cls := "EchoPantryModel", name := "isShelf", desc := "(I)Z" } : Jvm.MethodName)) ∈ TBL := tk_8 (List.mem_of_getElem? (i := 9) rfl) rfl
theorem w_1690 : (Jvm.Cond.code ({ cls := "EchoPantryModel", name := "isShelf", desc := "(I)Z" } : Jvm.MethodName) prog_11_method_12_code (2 : Nat) (Option.some Jvm.ClassFile.FieldType.boolean)) ∈ TBL := tk_8 (List.mem_of_getElem? (i := 10) rfl) rfl
theorem w_1715 : (Jvm.Cond.methodLink "EchoPantryModel" (83 : Nat) ({ cls := "EchoPantryModel", name := "echoes", desc := "(I)I" } : Jvm.MethodName)) ∈ TBL := tk_8 (List.mem_of_getElem? (i := 35) rfl) rfl
theorem w_1717 : (Jvm.Cond.instanceMethod ({ cls := "EchoPantryModel", name := "echoes", desc := "(I)I" } : Jvm.MethodName)) ∈ TBL := tk_8 (List.mem_of_getElem? (i := 37) rfl) rfl
theorem w_1718 : (Jvm.Cond.code ({ cls := "EchoPantryModel", name := "echoes", desc := "(I)I" } : Jvm.MethodName) prog_11_method_16_code (4 : Nat) (Option.some Jvm.ClassFile.FieldType.int)) ∈ TBL := tk_8 (List.mem_of_getElem? (i := 38) rfl) rfl
theorem w_1719 : (Jvm.Cond.methodLink "EchoPantryModel" (70 : Nat) ({ cls := "EchoPantryModel", name := "isEcho", desc := "(II)Z" } : Jvm.MethodName)) ∈ TBL := tk_8 (List.mem_of_getElem? (i := 39) rfl) rfl
theorem w_1721 : (Jvm.Cond.instanceMethod ({ cls := "EchoPantryModel", name := "isEcho", desc := "(II)Z" } : Jvm.MethodName)) ∈ TBL := tk_8 (List.mem_of_getElem? (i := 41) rfl) rfl
theorem w_1722 : (Jvm.Cond.code ({ cls := "EchoPantryModel", name := "isEcho", desc := "(II)Z" } : Jvm.MethodName) prog_11_method_15_code (3 : Nat) (Option.some Jvm.ClassFile.FieldType.boolean)) ∈ TBL := tk_8 (List.mem_of_getElem? (i := 42) rfl) rfl
theorem w_1735 : (Jvm.Cond.methodLink "EchoPantryModel" (129 : Nat) ({ cls := "EchoPantryModel", name := "asks", desc := "(II)Z" } : Jvm.MethodName)) ∈ TBL := tk_8 (List.mem_of_getElem? (i := 55) rfl) rfl
theorem w_1737 : (Jvm.Cond.instanceMethod ({ cls := "EchoPantryModel", name := "asks", desc := "(II)Z" } : Jvm.MethodName)) ∈ TBL := tk_8 (List.mem_of_getElem? (i := 57) rfl) rfl
theorem w_1738 : (Jvm.Cond.code ({ cls := "EchoPantryModel", name := "asks", desc := "(II)Z" } : Jvm.MethodName) prog_11_method_44_code (3 : Nat) (Option.some Jvm.ClassFile.FieldType.boolean)) ∈ TBL := tk_8 (List.mem_of_getElem? (i := 58) rfl) rfl
theorem w_1743 : (Jvm.Cond.methodLink "EchoPantryModel" (74 : Nat) ({ cls := "EchoPantryModel", name := "age", desc := "(II)I" } : Jvm.MethodName)) ∈ TBL := tk_8 (List.mem_of_getElem? (i := 63) rfl) rfl
theorem w_1745 : (Jvm.Cond.instanceMethod ({ cls := "EchoPantryModel", name := "age", desc := "(II)I" } : Jvm.MethodName)) ∈ TBL := tk_8 (List.mem_of_getElem? (i := 65) rfl) rfl
theorem w_1746 : (Jvm.Cond.code ({ cls := "EchoPantryModel", name := "age", desc := "(II)I" } : Jvm.MethodName) prog_11_method_17_code (3 : Nat) (Option.some Jvm.ClassFile.FieldType.int)) ∈ TBL := tk_8 (List.mem_of_getElem? (i := 66) rfl) rfl
theorem w_1755 : (Jvm.Cond.methodLink "EchoPantryModel" (89 : Nat) ({ cls := "EchoPantryModel", name := "isOver", desc := "(II)Z" } : Jvm.MethodName)) ∈ TBL := tk_8 (List.mem_of_getElem? (i := 75) rfl) rfl
theorem w_1757 : (Jvm.Cond.instanceMethod ({ cls := "EchoPantryModel", name := "isOver", desc := "(II)Z" } : Jvm.MethodName)) ∈ TBL := tk_8 (List.mem_of_getElem? (i := 77) rfl) rfl
theorem w_1758 : (Jvm.Cond.code ({ cls := "EchoPantryModel", name := "isOver", desc := "(II)Z" } : Jvm.MethodName) prog_11_method_18_code (3 : Nat) (Option.some Jvm.ClassFile.FieldType.boolean)) ∈ TBL := tk_8 (List.mem_of_getElem? (i := 78) rfl) rfl
theorem w_1764 : (Jvm.Cond.instanceMethod ({ cls := "EchoPantryModel", name := "isTrue", desc := "(IC)Z" } : Jvm.MethodName)) ∈ TBL := tk_8 (List.mem_of_getElem? (i := 84) rfl) rfl
theorem w_1765 : (Jvm.Cond.selects "EchoPantryModel" ({ cls := "EchoPantryModel", name := "isTrue", desc := "(IC)Z" } : Jvm.MethodName) ({ cls := "EchoPantryModel", name := "isTrue", desc := "(IC)Z" } : Jvm.MethodName)) ∈ TBL := tk_8 (List.mem_of_getElem? (i := 85) rfl) rfl
theorem w_1766 : (Jvm.Cond.code ({ cls := "EchoPantryModel", name := "isTrue", desc := "(IC)Z" } : Jvm.MethodName) prog_11_method_50_code (3 : Nat) (Option.some Jvm.ClassFile.FieldType.boolean)) ∈ TBL := tk_8 (List.mem_of_getElem? (i := 86) rfl) rfl
theorem w_1771 : (Jvm.Cond.methodLink "EchoPantryModel" (132 : Nat) ({ cls := "EchoPantryModel", name := "isTrue", desc := "(IC)Z" } : Jvm.MethodName)) ∈ TBL := tk_8 (List.mem_of_getElem? (i := 91) rfl) rfl
theorem w_1773 : (Jvm.Cond.instanceMethod ({ cls := "EchoPantryModel", name := "victimOf", desc := "(I)C" } : Jvm.MethodName)) ∈ TBL := tk_8 (List.mem_of_getElem? (i := 93) rfl) rfl
theorem w_1774 : (Jvm.Cond.selects "EchoPantryModel" ({ cls := "EchoPantryModel", name := "victimOf", desc := "(I)C" } : Jvm.MethodName) ({ cls := "EchoPantryModel", name := "victimOf", desc := "(I)C" } : Jvm.MethodName)) ∈ TBL := tk_8 (List.mem_of_getElem? (i := 94) rfl) rfl
theorem w_1775 : (Jvm.Cond.code ({ cls := "EchoPantryModel", name := "victimOf", desc := "(I)C" } : Jvm.MethodName) prog_11_method_52_code (2 : Nat) (Option.some Jvm.ClassFile.FieldType.char)) ∈ TBL := tk_8 (List.mem_of_getElem? (i := 95) rfl) rfl
theorem w_1776 : (Jvm.Cond.methodLink "EchoPantryModel" (86 : Nat) ({ cls := "EchoPantryModel", name := "victim", desc := "(I)I" } : Jvm.MethodName)) ∈ TBL := tk_8 (List.mem_of_getElem? (i := 96) rfl) rfl
theorem w_1778 : (Jvm.Cond.instanceMethod ({ cls := "EchoPantryModel", name := "victim", desc := "(I)I" } : Jvm.MethodName)) ∈ TBL := tk_8 (List.mem_of_getElem? (i := 98) rfl) rfl
theorem w_1779 : (Jvm.Cond.code ({ cls := "EchoPantryModel", name := "victim", desc := "(I)I" } : Jvm.MethodName) prog_11_method_20_code (4 : Nat) (Option.some Jvm.ClassFile.FieldType.int)) ∈ TBL := tk_8 (List.mem_of_getElem? (i := 99) rfl) rfl
theorem w_1780 : (Jvm.Cond.methodLink "EchoPantryModel" (80 : Nat) ({ cls := "EchoPantryModel", name := "goesFirst", desc := "(III)Z" } : Jvm.MethodName)) ∈ TBL := tk_8 (List.mem_of_getElem? (i := 100) rfl) rfl
theorem w_1782 : (Jvm.Cond.instanceMethod ({ cls := "EchoPantryModel", name := "goesFirst", desc := "(III)Z" } : Jvm.MethodName)) ∈ TBL := tk_8 (List.mem_of_getElem? (i := 102) rfl) rfl
theorem w_1783 : (Jvm.Cond.code ({ cls := "EchoPantryModel", name := "goesFirst", desc := "(III)Z" } : Jvm.MethodName) prog_11_method_19_code (7 : Nat) (Option.some Jvm.ClassFile.FieldType.boolean)) ∈ TBL := tk_8 (List.mem_of_getElem? (i := 103) rfl) rfl
theorem w_1788 : (Jvm.Cond.methodLink "EchoPantryModel" (136 : Nat) ({ cls := "EchoPantryModel", name := "victimOf", desc := "(I)C" } : Jvm.MethodName)) ∈ TBL := tk_8 (List.mem_of_getElem? (i := 108) rfl) rfl
theorem w_1793 : (Jvm.Cond.methodLink "EchoPantryModel" (148 : Nat) ({ cls := "EchoPantryModel", name := "doHear", desc := "(II)I" } : Jvm.MethodName)) ∈ TBL := tk_8 (List.mem_of_getElem? (i := 113) rfl) rfl
theorem w_1795 : (Jvm.Cond.instanceMethod ({ cls := "EchoPantryModel", name := "doHear", desc := "(II)I" } : Jvm.MethodName)) ∈ TBL := tk_8 (List.mem_of_getElem? (i := 115) rfl) rfl
theorem w_1796 : (Jvm.Cond.code ({ cls := "EchoPantryModel", name := "doHear", desc := "(II)I" } : Jvm.MethodName) prog_11_method_54_code (4 : Nat) (Option.some Jvm.ClassFile.FieldType.int)) ∈ TBL := tk_8 (List.mem_of_getElem? (i := 116) rfl) rfl
theorem w_1797 : (Jvm.Cond.methodLink "EchoPantryModel" (140 : Nat) ({ cls := "EchoPantryModel", name := "outcome", desc := "(II)C" } : Jvm.MethodName)) ∈ TBL := tk_8 (List.mem_of_getElem? (i := 117) rfl) rfl
theorem w_1799 : (Jvm.Cond.instanceMethod ({ cls := "EchoPantryModel", name := "outcome", desc := "(II)C" } : Jvm.MethodName)) ∈ TBL := tk_8 (List.mem_of_getElem? (i := 119) rfl) rfl
theorem w_1800 : (Jvm.Cond.code ({ cls := "EchoPantryModel", name := "outcome", desc := "(II)C" } : Jvm.MethodName) prog_11_method_22_code (3 : Nat) (Option.some Jvm.ClassFile.FieldType.char)) ∈ TBL := tk_8 (List.mem_of_getElem? (i := 120) rfl) rfl
theorem w_1801 : (Jvm.Cond.methodLink "EchoPantryModel" (144 : Nat) ({ cls := "EchoPantryModel", name := "fetches", desc := "(II)V" } : Jvm.MethodName)) ∈ TBL := tk_8 (List.mem_of_getElem? (i := 121) rfl) rfl
theorem w_1803 : (Jvm.Cond.instanceMethod ({ cls := "EchoPantryModel", name := "fetches", desc := "(II)V" } : Jvm.MethodName)) ∈ TBL := tk_8 (List.mem_of_getElem? (i := 123) rfl) rfl
theorem w_1804 : (Jvm.Cond.code ({ cls := "EchoPantryModel", name := "fetches", desc := "(II)V" } : Jvm.MethodName) prog_11_method_21_code (4 : Nat) (Option.none : Option Jvm.ClassFile.FieldType)) ∈ TBL := tk_8 (List.mem_of_getElem? (i := 124) rfl) rfl
theorem w_1813 : (Jvm.Cond.methodLink "EchoPantryModel" (151 : Nat) ({ cls := "EchoPantryModel", name := "doWarm", desc := "(III)I" } : Jvm.MethodName)) ∈ TBL := tk_8 (List.mem_of_getElem? (i := 133) rfl) rfl
theorem w_1815 : (Jvm.Cond.instanceMethod ({ cls := "EchoPantryModel", name := "doWarm", desc := "(III)I" } : Jvm.MethodName)) ∈ TBL := tk_8 (List.mem_of_getElem? (i := 135) rfl) rfl
theorem w_1816 : (Jvm.Cond.code ({ cls := "EchoPantryModel", name := "doWarm", desc := "(III)I" } : Jvm.MethodName) prog_11_method_57_code (6 : Nat) (Option.some Jvm.ClassFile.FieldType.int)) ∈ TBL := tk_8 (List.mem_of_getElem? (i := 136) rfl) rfl
theorem w_1821 : (Jvm.Cond.methodLink "EchoPantryModel" (157 : Nat) ({ cls := "EchoPantryModel", name := "doCancel", desc := "(I)I" } : Jvm.MethodName)) ∈ TBL := tk_8 (List.mem_of_getElem? (i := 141) rfl) rfl
theorem w_1823 : (Jvm.Cond.instanceMethod ({ cls := "EchoPantryModel", name := "doCancel", desc := "(I)I" } : Jvm.MethodName)) ∈ TBL := tk_8 (List.mem_of_getElem? (i := 143) rfl) rfl
theorem w_1824 : (Jvm.Cond.code ({ cls := "EchoPantryModel", name := "doCancel", desc := "(I)I" } : Jvm.MethodName) prog_11_method_60_code (3 : Nat) (Option.some Jvm.ClassFile.FieldType.int)) ∈ TBL := tk_8 (List.mem_of_getElem? (i := 144) rfl) rfl
theorem w_1825 : (Jvm.Cond.methodLink "EchoPantryModel" (154 : Nat) ({ cls := "EchoPantryModel", name := "isWarming", desc := "(I)Z" } : Jvm.MethodName)) ∈ TBL := tk_8 (List.mem_of_getElem? (i := 145) rfl) rfl
theorem w_1827 : (Jvm.Cond.instanceMethod ({ cls := "EchoPantryModel", name := "isWarming", desc := "(I)Z" } : Jvm.MethodName)) ∈ TBL := tk_8 (List.mem_of_getElem? (i := 147) rfl) rfl
theorem w_1828 : (Jvm.Cond.code ({ cls := "EchoPantryModel", name := "isWarming", desc := "(I)Z" } : Jvm.MethodName) prog_11_method_59_code (2 : Nat) (Option.some Jvm.ClassFile.FieldType.boolean)) ∈ TBL := tk_8 (List.mem_of_getElem? (i := 148) rfl) rfl
theorem w_1833 : (Jvm.Cond.methodLink "EchoPantryModel" (160 : Nat) ({ cls := "EchoPantryModel", name := "doPass", desc := "(I)I" } : Jvm.MethodName)) ∈ TBL := tk_8 (List.mem_of_getElem? (i := 153) rfl) rfl
theorem w_1835 : (Jvm.Cond.instanceMethod ({ cls := "EchoPantryModel", name := "doPass", desc := "(I)I" } : Jvm.MethodName)) ∈ TBL := tk_8 (List.mem_of_getElem? (i := 155) rfl) rfl
theorem w_1836 : (Jvm.Cond.code ({ cls := "EchoPantryModel", name := "doPass", desc := "(I)I" } : Jvm.MethodName) prog_11_method_62_code (7 : Nat) (Option.some Jvm.ClassFile.FieldType.int)) ∈ TBL := tk_8 (List.mem_of_getElem? (i := 156) rfl) rfl
theorem w_1881 : (Jvm.Cond.methodLink "EchoPantryModel" (170 : Nat) ({ cls := "EchoPantryModel", name := "says", desc := "(I)V" } : Jvm.MethodName)) ∈ TBL := tk_8 (List.mem_of_getElem? (i := 201) rfl) rfl
theorem w_1883 : (Jvm.Cond.instanceMethod ({ cls := "EchoPantryModel", name := "says", desc := "(I)V" } : Jvm.MethodName)) ∈ TBL := tk_8 (List.mem_of_getElem? (i := 203) rfl) rfl
theorem w_1884 : (Jvm.Cond.code ({ cls := "EchoPantryModel", name := "says", desc := "(I)V" } : Jvm.MethodName) prog_11_method_74_code (2 : Nat) (Option.none : Option Jvm.ClassFile.FieldType)) ∈ TBL := tk_8 (List.mem_of_getElem? (i := 204) rfl) rfl
theorem w_1885 : (Jvm.Cond.methodLink "EchoPantryModel" (166 : Nat) ({ cls := "EchoPantryModel", name := "saysNumber", desc := "(I)V" } : Jvm.MethodName)) ∈ TBL := tk_8 (List.mem_of_getElem? (i := 205) rfl) rfl
theorem w_1887 : (Jvm.Cond.instanceMethod ({ cls := "EchoPantryModel", name := "saysNumber", desc := "(I)V" } : Jvm.MethodName)) ∈ TBL := tk_8 (List.mem_of_getElem? (i := 207) rfl) rfl
theorem w_1888 : (Jvm.Cond.code ({ cls := "EchoPantryModel", name := "saysNumber", desc := "(I)V" } : Jvm.MethodName) prog_11_method_75_code (2 : Nat) (Option.none : Option Jvm.ClassFile.FieldType)) ∈ TBL := tk_8 (List.mem_of_getElem? (i := 208) rfl) rfl
theorem w_1901 : (Jvm.Cond.methodLink "EchoPantryModel" (233 : Nat) ({ cls := "EchoPantryModel", name := "readCommand", desc := "()V" } : Jvm.MethodName)) ∈ TBL := tk_8 (List.mem_of_getElem? (i := 221) rfl) rfl
theorem w_1903 : (Jvm.Cond.instanceMethod ({ cls := "EchoPantryModel", name := "readCommand", desc := "()V" } : Jvm.MethodName)) ∈ TBL := tk_8 (List.mem_of_getElem? (i := 223) rfl) rfl
theorem w_1904 : (Jvm.Cond.code ({ cls := "EchoPantryModel", name := "readCommand", desc := "()V" } : Jvm.MethodName) prog_11_method_85_code (3 : Nat) (Option.none : Option Jvm.ClassFile.FieldType)) ∈ TBL := tk_8 (List.mem_of_getElem? (i := 224) rfl) rfl
theorem w_1905 : (Jvm.Cond.methodLink "EchoPantryModel" (187 : Nat) ({ cls := "EchoPantryModel", name := "behind", desc := "(I)I" } : Jvm.MethodName)) ∈ TBL := tk_8 (List.mem_of_getElem? (i := 225) rfl) rfl
theorem w_1907 : (Jvm.Cond.instanceMethod ({ cls := "EchoPantryModel", name := "behind", desc := "(I)I" } : Jvm.MethodName)) ∈ TBL := tk_8 (List.mem_of_getElem? (i := 227) rfl) rfl
theorem w_1908 : (Jvm.Cond.code ({ cls := "EchoPantryModel", name := "behind", desc := "(I)I" } : Jvm.MethodName) prog_11_method_79_code (2 : Nat) (Option.some Jvm.ClassFile.FieldType.int)) ∈ TBL := tk_8 (List.mem_of_getElem? (i := 228) rfl) rfl
theorem w_1909 : (Jvm.Cond.methodLink "EchoPantryModel" (206 : Nat) ({ cls := "EchoPantryModel", name := "word", desc := "()I" } : Jvm.MethodName)) ∈ TBL := tk_8 (List.mem_of_getElem? (i := 229) rfl) rfl
theorem w_1911 : (Jvm.Cond.instanceMethod ({ cls := "EchoPantryModel", name := "word", desc := "()I" } : Jvm.MethodName)) ∈ TBL := tk_8 (List.mem_of_getElem? (i := 231) rfl) rfl
theorem w_1912 : (Jvm.Cond.code ({ cls := "EchoPantryModel", name := "word", desc := "()I" } : Jvm.MethodName) prog_11_method_84_code (3 : Nat) (Option.some Jvm.ClassFile.FieldType.int)) ∈ TBL := tk_8 (List.mem_of_getElem? (i := 232) rfl) rfl
theorem w_1919 : (Jvm.Cond.methodLink "EchoPantryModel" (179 : Nat) ({ cls := "java/lang/String", name := "length", desc := "()I" } : Jvm.MethodName)) ∈ TBL := tk_8 (List.mem_of_getElem? (i := 239) rfl) rfl
theorem w_1920 : (Jvm.Cond.methodLink "EchoPantryModel" (190 : Nat) ({ cls := "java/lang/String", name := "charAt", desc := "(I)C" } : Jvm.MethodName)) ∈ TBL := tk_9 (List.mem_of_getElem? (i := 0) rfl) rfl
theorem w_1921 : (Jvm.Cond.methodLink "EchoPantryModel" (213 : Nat) ({ cls := "EchoPantryModel", name := "readNumber", desc := "(I)I" } : Jvm.MethodName)) ∈ TBL := tk_9 (List.mem_of_getElem? (i := 1) rfl) rfl
theorem w_1923 : (Jvm.Cond.instanceMethod ({ cls := "EchoPantryModel", name := "readNumber", desc := "(I)I" } : Jvm.MethodName)) ∈ TBL := tk_9 (List.mem_of_getElem? (i := 3) rfl) rfl
theorem w_1924 : (Jvm.Cond.code ({ cls := "EchoPantryModel", name := "readNumber", desc := "(I)I" } : Jvm.MethodName) prog_11_method_82_code (4 : Nat) (Option.some Jvm.ClassFile.FieldType.int)) ∈ TBL := tk_9 (List.mem_of_getElem? (i := 4) rfl) rfl
theorem w_1926 : (Jvm.Cond.methodLink "EchoPantryModel" (199 : Nat) ({ cls := "EchoPantryModel", name := "isDigit", desc := "()Z" } : Jvm.MethodName)) ∈ TBL := tk_9 (List.mem_of_getElem? (i := 6) rfl) rfl
theorem w_1928 : (Jvm.Cond.instanceMethod ({ cls := "EchoPantryModel", name := "isDigit", desc := "()Z" } : Jvm.MethodName)) ∈ TBL := tk_9 (List.mem_of_getElem? (i := 8) rfl) rfl
theorem w_1929 : (Jvm.Cond.code ({ cls := "EchoPantryModel", name := "isDigit", desc := "()Z" } : Jvm.MethodName) prog_11_method_81_code (1 : Nat) (Option.some Jvm.ClassFile.FieldType.boolean)) ∈ TBL := tk_9 (List.mem_of_getElem? (i := 9) rfl) rfl
theorem w_1930 : (Jvm.Cond.methodLink "EchoPantryModel" (216 : Nat) ({ cls := "EchoPantryModel", name := "readLetter", desc := "(Z)I" } : Jvm.MethodName)) ∈ TBL := tk_9 (List.mem_of_getElem? (i := 10) rfl) rfl
theorem w_1932 : (Jvm.Cond.instanceMethod ({ cls := "EchoPantryModel", name := "readLetter", desc := "(Z)I" } : Jvm.MethodName)) ∈ TBL := tk_9 (List.mem_of_getElem? (i := 12) rfl) rfl
theorem w_1933 : (Jvm.Cond.code ({ cls := "EchoPantryModel", name := "readLetter", desc := "(Z)I" } : Jvm.MethodName) prog_11_method_83_code (3 : Nat) (Option.some Jvm.ClassFile.FieldType.int)) ∈ TBL := tk_9 (List.mem_of_getElem? (i := 13) rfl) rfl
theorem w_1941 : (Jvm.Cond.methodLink "EchoPantryModel" (236 : Nat) ({ cls := "EchoPantryModel", name := "does", desc := "(I)V" } : Jvm.MethodName)) ∈ TBL := tk_9 (List.mem_of_getElem? (i := 21) rfl) rfl
theorem w_1943 : (Jvm.Cond.instanceMethod ({ cls := "EchoPantryModel", name := "does", desc := "(I)V" } : Jvm.MethodName)) ∈ TBL := tk_9 (List.mem_of_getElem? (i := 23) rfl) rfl
theorem w_1944 : (Jvm.Cond.code ({ cls := "EchoPantryModel", name := "does", desc := "(I)V" } : Jvm.MethodName) prog_11_method_86_code (6 : Nat) (Option.none : Option Jvm.ClassFile.FieldType)) ∈ TBL := tk_9 (List.mem_of_getElem? (i := 24) rfl) rfl
theorem w_1977 : (Jvm.Cond.selects "java/lang/StringBuilder" ({ cls := "java/lang/StringBuilder", name := "length", desc := "()I" } : Jvm.MethodName) ({ cls := "java/lang/StringBuilder", name := "length", desc := "()I" } : Jvm.MethodName)) ∈ TBL := tk_9 (List.mem_of_getElem? (i := 57) rfl) rfl
theorem wp_1 : Cond.selects "EchoPantry" ({ cls := "EchoPantry", name := "wantJar", desc := "(C)LEchoPantry$Jar;" } : MethodName) ({ cls := "EchoPantry", name := "wantJar", desc := "(C)LEchoPantry$Jar;" } : MethodName) ∈ TBL := tb_in 1 (by decide +kernel) (by decide +kernel)
theorem wp_2 : Cond.selects "EchoPantry" ({ cls := "EchoPantry", name := "wantShelf", desc := "(I)LEchoPantry$Shelf;" } : MethodName) ({ cls := "EchoPantry", name := "wantShelf", desc := "(I)LEchoPantry$Shelf;" } : MethodName) ∈ TBL := tb_in 2 (by decide +kernel) (by decide +kernel)
theorem wp_3 : Cond.selects "EchoPantry" ({ cls := "EchoPantry", name := "wantEcho", desc := "(IC)LEchoPantry$Echo;" } : MethodName) ({ cls := "EchoPantry", name := "wantEcho", desc := "(IC)LEchoPantry$Echo;" } : MethodName) ∈ TBL := tb_in 3 (by decide +kernel) (by decide +kernel)
theorem wp_4 : Cond.selects "EchoPantry" ({ cls := "EchoPantry", name := "wantWarming", desc := "(I)LEchoPantry$Warming;" } : MethodName) ({ cls := "EchoPantry", name := "wantWarming", desc := "(I)LEchoPantry$Warming;" } : MethodName) ∈ TBL := tb_in 4 (by decide +kernel) (by decide +kernel)
theorem wp_5 : Cond.selects "EchoPantry" ({ cls := "EchoPantry", name := "writeEcho", desc := "(LEchoPantry$Echo;Z)V" } : MethodName) ({ cls := "EchoPantry", name := "writeEcho", desc := "(LEchoPantry$Echo;Z)V" } : MethodName) ∈ TBL := tb_in 5 (by decide +kernel) (by decide +kernel)
theorem wp_6 : Cond.selects "EchoPantry" ({ cls := "EchoPantry", name := "faultOf", desc := "(LEchoPantry$Command;)I" } : MethodName) ({ cls := "EchoPantry", name := "faultOf", desc := "(LEchoPantry$Command;)I" } : MethodName) ∈ TBL := tb_in 6 (by decide +kernel) (by decide +kernel)
theorem wp_7 : Cond.selects "EchoPantry" ({ cls := "EchoPantry", name := "carryOut", desc := "(LEchoPantry$Command;)V" } : MethodName) ({ cls := "EchoPantry", name := "carryOut", desc := "(LEchoPantry$Command;)V" } : MethodName) ∈ TBL := tb_in 7 (by decide +kernel) (by decide +kernel)
theorem wp_8 : Cond.selects "EchoPantryModel" ({ cls := "EchoPantryModel", name := "keep", desc := "()V" } : MethodName) ({ cls := "EchoPantryModel", name := "keep", desc := "()V" } : MethodName) ∈ TBL := tb_in 8 (by decide +kernel) (by decide +kernel)
theorem wp_9 : Cond.selects "EchoPantryModel" ({ cls := "EchoPantryModel", name := "doAddJar", desc := "(II)I" } : MethodName) ({ cls := "EchoPantryModel", name := "doAddJar", desc := "(II)I" } : MethodName) ∈ TBL := tb_in 9 (by decide +kernel) (by decide +kernel)
theorem wp_10 : Cond.selects "EchoPantryModel" ({ cls := "EchoPantryModel", name := "fails", desc := "(I)I" } : MethodName) ({ cls := "EchoPantryModel", name := "fails", desc := "(I)I" } : MethodName) ∈ TBL := tb_in 10 (by decide +kernel) (by decide +kernel)
theorem wp_11 : Cond.selects "EchoPantryModel" ({ cls := "EchoPantryModel", name := "jars", desc := "()I" } : MethodName) ({ cls := "EchoPantryModel", name := "jars", desc := "()I" } : MethodName) ∈ TBL := tb_in 11 (by decide +kernel) (by decide +kernel)
theorem wp_12 : Cond.selects "EchoPantryModel" ({ cls := "EchoPantryModel", name := "isJar", desc := "(I)Z" } : MethodName) ({ cls := "EchoPantryModel", name := "isJar", desc := "(I)Z" } : MethodName) ∈ TBL := tb_in 12 (by decide +kernel) (by decide +kernel)
theorem wp_13 : Cond.selects "EchoPantryModel" ({ cls := "EchoPantryModel", name := "ends", desc := "(I)I" } : MethodName) ({ cls := "EchoPantryModel", name := "ends", desc := "(I)I" } : MethodName) ∈ TBL := tb_in 13 (by decide +kernel) (by decide +kernel)
theorem wp_14 : Cond.selects "EchoPantryModel" ({ cls := "EchoPantryModel", name := "doRemoveJar", desc := "(I)I" } : MethodName) ({ cls := "EchoPantryModel", name := "doRemoveJar", desc := "(I)I" } : MethodName) ∈ TBL := tb_in 14 (by decide +kernel) (by decide +kernel)
theorem wp_15 : Cond.selects "EchoPantryModel" ({ cls := "EchoPantryModel", name := "doSay", desc := "(II)I" } : MethodName) ({ cls := "EchoPantryModel", name := "doSay", desc := "(II)I" } : MethodName) ∈ TBL := tb_in 15 (by decide +kernel) (by decide +kernel)
theorem wp_16 : Cond.selects "EchoPantryModel" ({ cls := "EchoPantryModel", name := "of", desc := "(II)I" } : MethodName) ({ cls := "EchoPantryModel", name := "of", desc := "(II)I" } : MethodName) ∈ TBL := tb_in 16 (by decide +kernel) (by decide +kernel)
theorem wp_17 : Cond.selects "EchoPantryModel" ({ cls := "EchoPantryModel", name := "isThere", desc := "(Z)Z" } : MethodName) ({ cls := "EchoPantryModel", name := "isThere", desc := "(Z)Z" } : MethodName) ∈ TBL := tb_in 17 (by decide +kernel) (by decide +kernel)
theorem wp_18 : Cond.selects "EchoPantryModel" ({ cls := "EchoPantryModel", name := "doAddShelf", desc := "(III)I" } : MethodName) ({ cls := "EchoPantryModel", name := "doAddShelf", desc := "(III)I" } : MethodName) ∈ TBL := tb_in 18 (by decide +kernel) (by decide +kernel)
theorem wp_19 : Cond.selects "EchoPantryModel" ({ cls := "EchoPantryModel", name := "doListen", desc := "(IZ)I" } : MethodName) ({ cls := "EchoPantryModel", name := "doListen", desc := "(IZ)I" } : MethodName) ∈ TBL := tb_in 19 (by decide +kernel) (by decide +kernel)
theorem wp_20 : Cond.selects "EchoPantryModel" ({ cls := "EchoPantryModel", name := "isShelf", desc := "(I)Z" } : MethodName) ({ cls := "EchoPantryModel", name := "isShelf", desc := "(I)Z" } : MethodName) ∈ TBL := tb_in 20 (by decide +kernel) (by decide +kernel)
theorem wp_21 : Cond.selects "EchoPantryModel" ({ cls := "EchoPantryModel", name := "echoes", desc := "(I)I" } : MethodName) ({ cls := "EchoPantryModel", name := "echoes", desc := "(I)I" } : MethodName) ∈ TBL := tb_in 21 (by decide +kernel) (by decide +kernel)
theorem wp_22 : Cond.selects "EchoPantryModel" ({ cls := "EchoPantryModel", name := "isEcho", desc := "(II)Z" } : MethodName) ({ cls := "EchoPantryModel", name := "isEcho", desc := "(II)Z" } : MethodName) ∈ TBL := tb_in 22 (by decide +kernel) (by decide +kernel)
theorem wp_23 : Cond.selects "EchoPantryModel" ({ cls := "EchoPantryModel", name := "asks", desc := "(II)Z" } : MethodName) ({ cls := "EchoPantryModel", name := "asks", desc := "(II)Z" } : MethodName) ∈ TBL := tb_in 23 (by decide +kernel) (by decide +kernel)
theorem wp_24 : Cond.selects "EchoPantryModel" ({ cls := "EchoPantryModel", name := "age", desc := "(II)I" } : MethodName) ({ cls := "EchoPantryModel", name := "age", desc := "(II)I" } : MethodName) ∈ TBL := tb_in 24 (by decide +kernel) (by decide +kernel)
theorem wp_25 : Cond.selects "EchoPantryModel" ({ cls := "EchoPantryModel", name := "isOver", desc := "(II)Z" } : MethodName) ({ cls := "EchoPantryModel", name := "isOver", desc := "(II)Z" } : MethodName) ∈ TBL := tb_in 25 (by decide +kernel) (by decide +kernel)
theorem wp_26 : Cond.selects "EchoPantryModel" ({ cls := "EchoPantryModel", name := "victim", desc := "(I)I" } : MethodName) ({ cls := "EchoPantryModel", name := "victim", desc := "(I)I" } : MethodName) ∈ TBL := tb_in 26 (by decide +kernel) (by decide +kernel)
theorem wp_27 : Cond.selects "EchoPantryModel" ({ cls := "EchoPantryModel", name := "goesFirst", desc := "(III)Z" } : MethodName) ({ cls := "EchoPantryModel", name := "goesFirst", desc := "(III)Z" } : MethodName) ∈ TBL := tb_in 27 (by decide +kernel) (by decide +kernel)
theorem wp_28 : Cond.selects "EchoPantryModel" ({ cls := "EchoPantryModel", name := "doHear", desc := "(II)I" } : MethodName) ({ cls := "EchoPantryModel", name := "doHear", desc := "(II)I" } : MethodName) ∈ TBL := tb_in 28 (by decide +kernel) (by decide +kernel)
theorem wp_29 : Cond.selects "EchoPantryModel" ({ cls := "EchoPantryModel", name := "outcome", desc := "(II)C" } : MethodName) ({ cls := "EchoPantryModel", name := "outcome", desc := "(II)C" } : MethodName) ∈ TBL := tb_in 29 (by decide +kernel) (by decide +kernel)
theorem wp_30 : Cond.selects "EchoPantryModel" ({ cls := "EchoPantryModel", name := "fetches", desc := "(II)V" } : MethodName) ({ cls := "EchoPantryModel", name := "fetches", desc := "(II)V" } : MethodName) ∈ TBL := tb_in 30 (by decide +kernel) (by decide +kernel)
theorem wp_31 : Cond.selects "EchoPantryModel" ({ cls := "EchoPantryModel", name := "doWarm", desc := "(III)I" } : MethodName) ({ cls := "EchoPantryModel", name := "doWarm", desc := "(III)I" } : MethodName) ∈ TBL := tb_in 31 (by decide +kernel) (by decide +kernel)
theorem wp_32 : Cond.selects "EchoPantryModel" ({ cls := "EchoPantryModel", name := "doCancel", desc := "(I)I" } : MethodName) ({ cls := "EchoPantryModel", name := "doCancel", desc := "(I)I" } : MethodName) ∈ TBL := tb_in 32 (by decide +kernel) (by decide +kernel)
theorem wp_33 : Cond.selects "EchoPantryModel" ({ cls := "EchoPantryModel", name := "isWarming", desc := "(I)Z" } : MethodName) ({ cls := "EchoPantryModel", name := "isWarming", desc := "(I)Z" } : MethodName) ∈ TBL := tb_in 33 (by decide +kernel) (by decide +kernel)
theorem wp_34 : Cond.selects "EchoPantryModel" ({ cls := "EchoPantryModel", name := "doPass", desc := "(I)I" } : MethodName) ({ cls := "EchoPantryModel", name := "doPass", desc := "(I)I" } : MethodName) ∈ TBL := tb_in 34 (by decide +kernel) (by decide +kernel)
theorem wp_35 : Cond.selects "EchoPantryModel" ({ cls := "EchoPantryModel", name := "says", desc := "(I)V" } : MethodName) ({ cls := "EchoPantryModel", name := "says", desc := "(I)V" } : MethodName) ∈ TBL := tb_in 35 (by decide +kernel) (by decide +kernel)
theorem wp_36 : Cond.selects "EchoPantryModel" ({ cls := "EchoPantryModel", name := "saysNumber", desc := "(I)V" } : MethodName) ({ cls := "EchoPantryModel", name := "saysNumber", desc := "(I)V" } : MethodName) ∈ TBL := tb_in 36 (by decide +kernel) (by decide +kernel)
theorem wp_37 : Cond.selects "EchoPantryModel" ({ cls := "EchoPantryModel", name := "readCommand", desc := "()V" } : MethodName) ({ cls := "EchoPantryModel", name := "readCommand", desc := "()V" } : MethodName) ∈ TBL := tb_in 37 (by decide +kernel) (by decide +kernel)
theorem wp_38 : Cond.selects "EchoPantryModel" ({ cls := "EchoPantryModel", name := "behind", desc := "(I)I" } : MethodName) ({ cls := "EchoPantryModel", name := "behind", desc := "(I)I" } : MethodName) ∈ TBL := tb_in 38 (by decide +kernel) (by decide +kernel)
theorem wp_39 : Cond.selects "EchoPantryModel" ({ cls := "EchoPantryModel", name := "word", desc := "()I" } : MethodName) ({ cls := "EchoPantryModel", name := "word", desc := "()I" } : MethodName) ∈ TBL := tb_in 39 (by decide +kernel) (by decide +kernel)
theorem wp_41 : Cond.selects "EchoPantryModel" ({ cls := "EchoPantryModel", name := "readNumber", desc := "(I)I" } : MethodName) ({ cls := "EchoPantryModel", name := "readNumber", desc := "(I)I" } : MethodName) ∈ TBL := tb_in 41 (by decide +kernel) (by decide +kernel)
theorem wp_42 : Cond.selects "EchoPantryModel" ({ cls := "EchoPantryModel", name := "isDigit", desc := "()Z" } : MethodName) ({ cls := "EchoPantryModel", name := "isDigit", desc := "()Z" } : MethodName) ∈ TBL := tb_in 42 (by decide +kernel) (by decide +kernel)
theorem wp_43 : Cond.selects "EchoPantryModel" ({ cls := "EchoPantryModel", name := "readLetter", desc := "(Z)I" } : MethodName) ({ cls := "EchoPantryModel", name := "readLetter", desc := "(Z)I" } : MethodName) ∈ TBL := tb_in 43 (by decide +kernel) (by decide +kernel)
theorem wp_44 : Cond.selects "EchoPantryModel" ({ cls := "EchoPantryModel", name := "does", desc := "(I)V" } : MethodName) ({ cls := "EchoPantryModel", name := "does", desc := "(I)V" } : MethodName) ∈ TBL := tb_in 44 (by decide +kernel) (by decide +kernel)
theorem fX0_9 : fOk RX0 9 0 0 := ⟨by decide, by decide, w_255⟩
theorem fX0_15 : fOk RX0 15 0 1 := ⟨by decide, by decide, w_258⟩
theorem fX0_19 : fOk RX0 19 0 2 := ⟨by decide, by decide, w_261⟩
theorem fX0_22 : fOk RX0 22 0 3 := ⟨by decide, by decide, w_264⟩
theorem fX0_25 : fOk RX0 25 0 4 := ⟨by decide, by decide, w_267⟩
theorem fX2_9 : fOk RX2 9 2 0 := ⟨by decide, by decide, w_90⟩
theorem fX2_15 : fOk RX2 15 2 1 := ⟨by decide, by decide, w_93⟩
theorem fX2_19 : fOk RX2 19 2 2 := ⟨by decide, by decide, w_97⟩
theorem fX2_23 : fOk RX2 23 2 3 := ⟨by decide, by decide, w_101⟩
theorem fX2_26 : fOk RX2 26 2 4 := ⟨by decide, by decide, w_102⟩
theorem fX2_29 : fOk RX2 29 2 5 := ⟨by decide, by decide, w_105⟩
theorem fX2_32 : fOk RX2 32 2 6 := ⟨by decide, by decide, w_107⟩
theorem fX2_35 : fOk RX2 35 2 7 := ⟨by decide, by decide, w_110⟩
theorem fX2_38 : fOk RX2 38 2 8 := ⟨by decide, by decide, w_112⟩
theorem fX2_41 : fOk RX2 41 4 1 := ⟨by decide, by decide, w_61⟩
theorem fX2_44 : fOk RX2 44 4 2 := ⟨by decide, by decide, w_65⟩
theorem fX4_7 : fOk RX4 7 4 0 := ⟨by decide, by decide, w_58⟩
theorem fX4_13 : fOk RX4 13 4 1 := ⟨by decide, by decide, w_60⟩
theorem fX4_17 : fOk RX4 17 4 2 := ⟨by decide, by decide, w_64⟩
theorem fX4_20 : fOk RX4 20 4 3 := ⟨by decide, by decide, w_67⟩
theorem fX5_9 : fOk RX5 9 5 0 := ⟨by decide, by decide, w_134⟩
theorem fX5_15 : fOk RX5 15 5 1 := ⟨by decide, by decide, w_136⟩
theorem fX5_19 : fOk RX5 19 5 2 := ⟨by decide, by decide, w_138⟩
theorem fX5_22 : fOk RX5 22 5 3 := ⟨by decide, by decide, w_140⟩
theorem fX5_26 : fOk RX5 26 5 4 := ⟨by decide, by decide, w_142⟩
theorem fX5_29 : fOk RX5 29 5 5 := ⟨by decide, by decide, w_145⟩
theorem fX5_34 : fOk RX5 34 5 6 := ⟨by decide, by decide, w_147⟩
theorem fX5_43 : fOk RX5 43 2 0 := ⟨by decide, by decide, w_91⟩
theorem fX5_44 : fOk RX5 44 2 1 := ⟨by decide, by decide, w_94⟩
theorem fX5_59 : fOk RX5 59 2 8 := ⟨by decide, by decide, w_113⟩
theorem fX5_70 : fOk RX5 70 2 4 := ⟨by decide, by decide, w_103⟩
theorem fX5_69 : fOk RX5 69 2 6 := ⟨by decide, by decide, w_108⟩
theorem fX5_66 : fOk RX5 66 2 5 := ⟨by decide, by decide, w_106⟩
theorem fX5_88 : fOk RX5 88 2 2 := ⟨by decide, by decide, w_98⟩
theorem fX7_9 : fOk RX7 9 7 0 := ⟨by decide, by decide, w_169⟩
theorem fX7_15 : fOk RX7 15 7 1 := ⟨by decide, by decide, w_171⟩
theorem fX7_19 : fOk RX7 19 7 2 := ⟨by decide, by decide, w_174⟩
theorem fX7_22 : fOk RX7 22 7 3 := ⟨by decide, by decide, w_176⟩
theorem fX3_11 : fOk RX3 11 3 0 := ⟨by decide, by decide, w_231⟩
theorem fX3_17 : fOk RX3 17 3 1 := ⟨by decide, by decide, w_232⟩
theorem fX3_21 : fOk RX3 21 3 2 := ⟨by decide, by decide, w_233⟩
theorem fX6_11 : fOk RX6 11 6 0 := ⟨by decide, by decide, w_188⟩
theorem fX6_19 : fOk RX6 19 6 1 := ⟨by decide, by decide, w_189⟩
theorem fX6_25 : fOk RX6 25 6 2 := ⟨by decide, by decide, w_191⟩
theorem fX6_29 : fOk RX6 29 6 3 := ⟨by decide, by decide, w_192⟩
theorem fX6_33 : fOk RX6 33 6 4 := ⟨by decide, by decide, w_194⟩
theorem fX6_36 : fOk RX6 36 6 5 := ⟨by decide, by decide, w_195⟩
theorem fX6_39 : fOk RX6 39 6 6 := ⟨by decide, by decide, w_197⟩
theorem fX6_42 : fOk RX6 42 6 7 := ⟨by decide, by decide, w_199⟩
theorem fX6_45 : fOk RX6 45 6 8 := ⟨by decide, by decide, w_201⟩
theorem fX6_65 : fOk RX6 65 4 0 := ⟨by decide, by decide, w_59⟩
theorem fX6_69 : fOk RX6 69 5 0 := ⟨by decide, by decide, w_135⟩
theorem fX6_70 : fOk RX6 70 7 0 := ⟨by decide, by decide, w_170⟩
theorem fX6_96 : fOk RX6 96 4 2 := ⟨by decide, by decide, w_66⟩
theorem fX6_111 : fOk RX6 111 5 4 := ⟨by decide, by decide, w_144⟩
theorem fX6_122 : fOk RX6 122 5 5 := ⟨by decide, by decide, w_146⟩
theorem fX6_125 : fOk RX6 125 2 1 := ⟨by decide, by decide, w_95⟩
theorem fX6_131 : fOk RX6 131 2 7 := ⟨by decide, by decide, w_111⟩
theorem fX6_132 : fOk RX6 132 2 4 := ⟨by decide, by decide, w_104⟩
theorem fX6_135 : fOk RX6 135 4 3 := ⟨by decide, by decide, w_68⟩
theorem fX6_144 : fOk RX6 144 4 1 := ⟨by decide, by decide, w_63⟩
theorem fX6_147 : fOk RX6 147 2 2 := ⟨by decide, by decide, w_100⟩
theorem fX6_167 : fOk RX6 167 7 1 := ⟨by decide, by decide, w_172⟩
theorem fX6_168 : fOk RX6 168 7 2 := ⟨by decide, by decide, w_175⟩
theorem fX6_171 : fOk RX6 171 7 3 := ⟨by decide, by decide, w_177⟩
theorem fX8_10 : fOk RX8 10 8 0 := ⟨by decide, by decide, w_334⟩
theorem fX8_19 : fOk RX8 19 8 1 := ⟨by decide, by decide, w_335⟩
theorem fX8_23 : fOk RX8 23 8 2 := ⟨by decide, by decide, w_336⟩
theorem fX8_26 : fOk RX8 26 8 3 := ⟨by decide, by decide, w_337⟩
theorem fX8_33 : fOk RX8 33 8 4 := ⟨by decide, by decide, w_338⟩
theorem fX8_37 : fOk RX8 37 8 5 := ⟨by decide, by decide, w_339⟩
theorem fX8_41 : fOk RX8 41 8 6 := ⟨by decide, by decide, w_340⟩
theorem fX8_47 : fOk RX8 47 8 7 := ⟨by decide, by decide, w_341⟩
theorem fX8_98 : fOk RX8 98 4 1 := ⟨by decide, by decide, w_62⟩
theorem fX8_114 : fOk RX8 114 5 4 := ⟨by decide, by decide, w_143⟩
theorem fX8_122 : fOk RX8 122 5 1 := ⟨by decide, by decide, w_137⟩
theorem fX8_125 : fOk RX8 125 5 2 := ⟨by decide, by decide, w_139⟩
theorem fX8_128 : fOk RX8 128 5 3 := ⟨by decide, by decide, w_141⟩
theorem fX8_151 : fOk RX8 151 2 2 := ⟨by decide, by decide, w_99⟩
theorem fX8_154 : fOk RX8 154 6 3 := ⟨by decide, by decide, w_193⟩
theorem fX8_161 : fOk RX8 161 2 6 := ⟨by decide, by decide, w_109⟩
theorem fX8_168 : fOk RX8 168 2 8 := ⟨by decide, by decide, w_114⟩
theorem fX8_184 : fOk RX8 184 2 1 := ⟨by decide, by decide, w_96⟩
theorem fX8_225 : fOk RX8 225 7 1 := ⟨by decide, by decide, w_173⟩
theorem fX8_228 : fOk RX8 228 7 3 := ⟨by decide, by decide, w_178⟩
theorem fX8_229 : fOk RX8 229 6 5 := ⟨by decide, by decide, w_196⟩
theorem fX8_238 : fOk RX8 238 6 8 := ⟨by decide, by decide, w_202⟩
theorem fX8_235 : fOk RX8 235 6 7 := ⟨by decide, by decide, w_200⟩
theorem fX8_232 : fOk RX8 232 6 6 := ⟨by decide, by decide, w_198⟩
theorem fX8_251 : fOk RX8 251 6 1 := ⟨by decide, by decide, w_190⟩
theorem fX8_283 : fOk RX8 283 5 6 := ⟨by decide, by decide, w_148⟩
theorem fX8_287 : fOk RX8 287 2 0 := ⟨by decide, by decide, w_92⟩
theorem fX8_295 : fOk RX8 295 1 1 := ⟨by decide, by decide, w_284⟩
theorem fX8_309 : fOk RX8 309 1 2 := ⟨by decide, by decide, w_286⟩
theorem fX8_317 : fOk RX8 317 1 4 := ⟨by decide, by decide, w_289⟩
theorem fX8_344 : fOk RX8 344 3 2 := ⟨by decide, by decide, w_234⟩
theorem fX8_381 : fOk RX8 381 0 0 := ⟨by decide, by decide, w_257⟩
theorem fX8_386 : fOk RX8 386 0 1 := ⟨by decide, by decide, w_260⟩
theorem fX8_387 : fOk RX8 387 0 3 := ⟨by decide, by decide, w_266⟩
theorem fX8_390 : fOk RX8 390 0 2 := ⟨by decide, by decide, w_263⟩
theorem fX8_393 : fOk RX8 393 0 4 := ⟨by decide, by decide, w_269⟩
theorem fX9_9 : fOk RX9 9 9 0 := ⟨by decide, by decide, w_1537⟩
theorem fX9_13 : fOk RX9 13 9 1 := ⟨by decide, by decide, w_1538⟩
theorem fX9_16 : fOk RX9 16 9 2 := ⟨by decide, by decide, w_1539⟩
theorem fX9_19 : fOk RX9 19 9 4 := ⟨by decide, by decide, w_1541⟩
theorem fX9_22 : fOk RX9 22 9 7 := ⟨by decide, by decide, w_1544⟩
theorem fX9_26 : fOk RX9 26 9 9 := ⟨by decide, by decide, w_1546⟩
theorem fX9_29 : fOk RX9 29 9 13 := ⟨by decide, by decide, w_1550⟩
theorem fX9_33 : fOk RX9 33 9 14 := ⟨by decide, by decide, w_1551⟩
theorem fX9_36 : fOk RX9 36 9 15 := ⟨by decide, by decide, w_1552⟩
theorem fX9_39 : fOk RX9 39 9 6 := ⟨by decide, by decide, w_1543⟩
theorem fX9_48 : fOk RX9 48 9 5 := ⟨by decide, by decide, w_1542⟩
theorem fX9_163 : fOk RX9 163 9 8 := ⟨by decide, by decide, w_1545⟩
theorem fX9_173 : fOk RX9 173 9 10 := ⟨by decide, by decide, w_1547⟩
theorem fX9_176 : fOk RX9 176 9 11 := ⟨by decide, by decide, w_1548⟩
theorem fX9_183 : fOk RX9 183 9 12 := ⟨by decide, by decide, w_1549⟩
theorem fX9_203 : fOk RX9 203 9 16 := ⟨by decide, by decide, w_1553⟩
theorem fX9_239 : fOk RX9 239 9 3 := ⟨by decide, by decide, w_1540⟩
theorem fX1_9 : fOk RX1 9 1 0 := ⟨by decide, by decide, w_282⟩
theorem fX1_15 : fOk RX1 15 1 1 := ⟨by decide, by decide, w_283⟩
theorem fX1_19 : fOk RX1 19 1 2 := ⟨by decide, by decide, w_285⟩
theorem fX1_24 : fOk RX1 24 1 3 := ⟨by decide, by decide, w_287⟩
theorem fX1_28 : fOk RX1 28 1 4 := ⟨by decide, by decide, w_288⟩
theorem fX1_44 : fOk RX1 44 0 0 := ⟨by decide, by decide, w_256⟩
theorem fX1_103 : fOk RX1 103 0 1 := ⟨by decide, by decide, w_259⟩
theorem fX1_107 : fOk RX1 107 0 4 := ⟨by decide, by decide, w_268⟩
theorem fX1_113 : fOk RX1 113 0 2 := ⟨by decide, by decide, w_262⟩
theorem fX1_116 : fOk RX1 116 0 3 := ⟨by decide, by decide, w_265⟩
theorem gX5_39 : yOk RX5 39 1 mX2_copyFrom := ⟨w_447, w_450, w_5, ⟨by decide, by decide⟩, by decide +kernel⟩
theorem gX5_47 : yOk RX5 47 1 mX5_find := ⟨w_666, w_638, w_4, ⟨by decide, by decide⟩, by decide +kernel⟩
theorem gX5_51 : yOk RX5 51 1 mX2_age := ⟨w_843, w_824, w_5, ⟨by decide, by decide⟩, by decide +kernel⟩
theorem gX5_55 : yOk RX5 55 2 mX5_hasOutlived := ⟨w_903, w_842, w_4, ⟨by decide, by decide⟩, by decide +kernel⟩
theorem gX5_62 : yOk RX5 62 2 mX5_isBefore := ⟨w_403, w_406, w_4, ⟨by decide, by decide⟩, by decide +kernel⟩
theorem gX5_73 : yOk RX5 73 0 mX5_sort := ⟨w_643, w_646, w_4, ⟨by decide, by decide⟩, by decide +kernel⟩
theorem gX5_76 : yOk RX5 76 0 mX5_countEchoes := ⟨w_920, w_410, w_4, ⟨by decide, by decide⟩, by decide +kernel⟩
theorem gX5_80 : yOk RX5 80 0 mX5_firstInOrder := ⟨w_921, w_398, w_4, ⟨by decide, by decide⟩, by decide +kernel⟩
theorem gX5_84 : yOk RX5 84 4 mX2_fill := ⟨w_922, w_925, w_5, ⟨by decide, by decide⟩, by decide +kernel⟩
theorem gX3_24 : yOk RX3 24 0 mX6_init := ⟨w_230, w_45, w_2, ⟨by decide, by decide⟩, by decide +kernel⟩
theorem gX3_25 : yOk RX3 25 2 mJ9_floorMod_7cf53 := ⟨w_603, w_605, w_22, ⟨by decide, by decide⟩, by decide +kernel⟩
theorem gX3_31 : yOk RX3 31 1 mX3_keep := ⟨w_595, w_598, w_7, ⟨by decide, by decide⟩, by decide +kernel⟩
theorem gX3_35 : yOk RX3 35 0 mX3_confirm := ⟨w_607, w_610, w_7, ⟨by decide, by decide⟩, by decide +kernel⟩
theorem gX3_38 : yOk RX3 38 1 mX3_row := ⟨w_599, w_602, w_7, ⟨by decide, by decide⟩, by decide +kernel⟩
theorem gX3_42 : yOk RX3 42 1 mX6_copyFrom := ⟨w_606, w_438, w_2, ⟨by decide, by decide⟩, by decide +kernel⟩
theorem gX3_45 : yOk RX3 45 1 mX3_takeBack := ⟨w_1522, w_1483, w_7, ⟨by decide, by decide⟩, by decide +kernel⟩
theorem gX6_49 : yOk RX6 49 0 mX5_init := ⟨w_79, w_81, w_4, ⟨by decide, by decide⟩, by decide +kernel⟩
theorem gX6_51 : yOk RX6 51 1 mX4_copyFrom := ⟨w_439, w_442, w_3, ⟨by decide, by decide⟩, by decide +kernel⟩
theorem gX6_55 : yOk RX6 55 1 mX5_copyFrom := ⟨w_443, w_446, w_4, ⟨by decide, by decide⟩, by decide +kernel⟩
theorem gX6_58 : yOk RX6 58 1 mX7_copyFrom := ⟨w_451, w_454, w_6, ⟨by decide, by decide⟩, by decide +kernel⟩
theorem gX6_61 : yOk RX6 61 1 mX6_jarRow := ⟨w_423, w_426, w_2, ⟨by decide, by decide⟩, by decide +kernel⟩
theorem gX6_71 : yOk RX6 71 0 mX6_countJars := ⟨w_468, w_366, w_2, ⟨by decide, by decide⟩, by decide +kernel⟩
theorem gX6_75 : yOk RX6 75 1 mX6_findJar := ⟨w_419, w_422, w_2, ⟨by decide, by decide⟩, by decide +kernel⟩
theorem gX6_78 : yOk RX6 78 0 mX6_countShelves := ⟨w_723, w_374, w_2, ⟨by decide, by decide⟩, by decide +kernel⟩
theorem gX6_81 : yOk RX6 81 1 mX6_findShelf := ⟨w_893, w_746, w_2, ⟨by decide, by decide⟩, by decide +kernel⟩
theorem gX6_85 : yOk RX6 85 1 mX6_jarFault := ⟨w_894, w_630, w_2, ⟨by decide, by decide⟩, by decide +kernel⟩
theorem gX6_89 : yOk RX6 89 2 mX6_hearFault := ⟨w_945, w_892, w_2, ⟨by decide, by decide⟩, by decide +kernel⟩
theorem gX6_93 : yOk RX6 93 0 mX6_countWarmings := ⟨w_946, w_386, w_2, ⟨by decide, by decide⟩, by decide +kernel⟩
theorem gX6_99 : yOk RX6 99 2 mX4_speak := ⟨w_615, w_618, w_3, ⟨by decide, by decide⟩, by decide +kernel⟩
theorem gX6_103 : yOk RX6 103 1 mX5_find := ⟨w_635, w_638, w_4, ⟨by decide, by decide⟩, by decide +kernel⟩
theorem gX6_107 : yOk RX6 107 1 mX5_remove := ⟨w_639, w_642, w_4, ⟨by decide, by decide⟩, by decide +kernel⟩
theorem gX6_114 : yOk RX6 114 1 mX5_openLid := ⟨w_662, w_665, w_4, ⟨by decide, by decide⟩, by decide +kernel⟩
theorem gX6_118 : yOk RX6 118 3 mX5_fill := ⟨w_728, w_731, w_4, ⟨by decide, by decide⟩, by decide +kernel⟩
theorem gX6_138 : yOk RX6 138 1 mX6_isTrueByCount := ⟨w_415, w_418, w_2, ⟨by decide, by decide⟩, by decide +kernel⟩
theorem gX6_141 : yOk RX6 141 1 mX6_isTrueByOrder := ⟨w_427, w_430, w_2, ⟨by decide, by decide⟩, by decide +kernel⟩
theorem gX6_148 : yOk RX6 148 2 mX5_outcome := ⟨w_899, w_902, w_4, ⟨by decide, by decide⟩, by decide +kernel⟩
theorem gX6_152 : yOk RX6 152 1 mX6_countOutcome := ⟨w_904, w_907, w_2, ⟨by decide, by decide⟩, by decide +kernel⟩
theorem gX6_160 : yOk RX6 160 2 mX6_fetch := ⟨w_912, w_915, w_2, ⟨by decide, by decide⟩, by decide +kernel⟩
theorem gX6_156 : yOk RX6 156 2 mX5_hit := ⟨w_908, w_911, w_4, ⟨by decide, by decide⟩, by decide +kernel⟩
theorem gX6_164 : yOk RX6 164 4 mX5_fetch := ⟨w_916, w_919, w_4, ⟨by decide, by decide⟩, by decide +kernel⟩
theorem gX6_172 : yOk RX6 172 0 mX6_sortWarmings := ⟨w_951, w_954, w_2, ⟨by decide, by decide⟩, by decide +kernel⟩
theorem gX6_175 : yOk RX6 175 1 mX7_isBefore := ⟨w_955, w_958, w_6, ⟨by decide, by decide⟩, by decide +kernel⟩
theorem gX8_9 : yOk RX8 9 0 mX6_init := ⟨w_43, w_45, w_2, ⟨by decide, by decide⟩, by decide +kernel⟩
theorem gX8_18 : yOk RX8 18 0 mX3_init := ⟨w_224, w_226, w_7, ⟨by decide, by decide⟩, by decide +kernel⟩
theorem gX8_32 : yOk RX8 32 0 mX1_init := ⟨w_244, w_246, w_8, ⟨by decide, by decide⟩, by decide +kernel⟩
theorem gX8_46 : yOk RX8 46 0 mJ4_init_da8c8 := ⟨w_303, w_305, w_11, ⟨by decide, by decide⟩, by decide +kernel⟩
theorem gX8_51 : yOk RX8 51 2 mX6_newJarFault := ⟨w_464, w_467, w_2, ⟨by decide, by decide⟩, by decide +kernel⟩
theorem gX8_55 : yOk RX8 55 1 mX8_refuse := ⟨w_469, w_471, w_1, ⟨by decide, by decide⟩, by decide +kernel⟩
theorem gX8_59 : yOk RX8 59 1 mX3_note := ⟨w_591, w_594, w_7, ⟨by decide, by decide⟩, by decide +kernel⟩
theorem gX8_63 : yOk RX8 63 2 mX6_putJar := ⟨w_611, w_614, w_2, ⟨by decide, by decide⟩, by decide +kernel⟩
theorem gX8_66 : yOk RX8 66 1 mX6_jarFault := ⟨w_627, w_630, w_2, ⟨by decide, by decide⟩, by decide +kernel⟩
theorem gX8_70 : yOk RX8 70 1 mX6_dropJar := ⟨w_631, w_634, w_2, ⟨by decide, by decide⟩, by decide +kernel⟩
theorem gX8_73 : yOk RX8 73 2 mX6_wordFault := ⟨w_654, w_657, w_2, ⟨by decide, by decide⟩, by decide +kernel⟩
theorem gX8_76 : yOk RX8 76 2 mX6_speak := ⟨w_658, w_661, w_2, ⟨by decide, by decide⟩, by decide +kernel⟩
theorem gX8_79 : yOk RX8 79 0 mX6_countJars := ⟨w_363, w_366, w_2, ⟨by decide, by decide⟩, by decide +kernel⟩
theorem gX8_83 : yOk RX8 83 1 mX6_jarLetter := ⟨w_695, w_698, w_2, ⟨by decide, by decide⟩, by decide +kernel⟩
theorem gX8_94 : yOk RX8 94 1 mX8_wantJar := ⟨w_707, w_710, w_1, ⟨by decide, by decide⟩, by decide +kernel⟩
theorem gX8_103 : yOk RX8 103 3 mX6_newShelfFault := ⟨w_719, w_722, w_2, ⟨by decide, by decide⟩, by decide +kernel⟩
theorem gX8_107 : yOk RX8 107 3 mX6_putShelf := ⟨w_724, w_727, w_2, ⟨by decide, by decide⟩, by decide +kernel⟩
theorem gX8_110 : yOk RX8 110 1 mX8_wantShelf := ⟨w_739, w_742, w_1, ⟨by decide, by decide⟩, by decide +kernel⟩
theorem gX8_119 : yOk RX8 119 0 mX6_countShelves := ⟨w_371, w_374, w_2, ⟨by decide, by decide⟩, by decide +kernel⟩
theorem gX8_132 : yOk RX8 132 0 mX5_countEchoes := ⟨w_407, w_410, w_4, ⟨by decide, by decide⟩, by decide +kernel⟩
theorem gX8_135 : yOk RX8 135 1 mX5_letterAt := ⟨w_789, w_792, w_4, ⟨by decide, by decide⟩, by decide +kernel⟩
theorem gX8_143 : yOk RX8 143 1 mX5_find := ⟨w_801, w_638, w_4, ⟨by decide, by decide⟩, by decide +kernel⟩
theorem gX8_147 : yOk RX8 147 2 mX8_wantEcho := ⟨w_809, w_812, w_1, ⟨by decide, by decide⟩, by decide +kernel⟩
theorem gX8_157 : yOk RX8 157 1 mX2_age := ⟨w_821, w_824, w_5, ⟨by decide, by decide⟩, by decide +kernel⟩
theorem gX8_164 : yOk RX8 164 2 mX5_hasOutlived := ⟨w_839, w_842, w_4, ⟨by decide, by decide⟩, by decide +kernel⟩
theorem gX8_171 : yOk RX8 171 1 mX6_isTrueByCount := ⟨w_858, w_418, w_2, ⟨by decide, by decide⟩, by decide +kernel⟩
theorem gX8_175 : yOk RX8 175 1 mX6_isTrueByOrder := ⟨w_866, w_430, w_2, ⟨by decide, by decide⟩, by decide +kernel⟩
theorem gX8_178 : yOk RX8 178 0 mX5_firstInOrder := ⟨w_395, w_398, w_4, ⟨by decide, by decide⟩, by decide +kernel⟩
theorem gX8_187 : yOk RX8 187 0 mX5_firstByScan := ⟨w_399, w_402, w_4, ⟨by decide, by decide⟩, by decide +kernel⟩
theorem gX8_190 : yOk RX8 190 2 mX6_hearFault := ⟨w_889, w_892, w_2, ⟨by decide, by decide⟩, by decide +kernel⟩
theorem gX8_194 : yOk RX8 194 2 mX6_listenTo := ⟨w_895, w_898, w_2, ⟨by decide, by decide⟩, by decide +kernel⟩
theorem gX8_197 : yOk RX8 197 2 mX5_outcome := ⟨w_933, w_902, w_4, ⟨by decide, by decide⟩, by decide +kernel⟩
theorem gX8_201 : yOk RX8 201 3 mX6_warmFault := ⟨w_941, w_944, w_2, ⟨by decide, by decide⟩, by decide +kernel⟩
theorem gX8_205 : yOk RX8 205 3 mX6_planWarming := ⟨w_947, w_950, w_2, ⟨by decide, by decide⟩, by decide +kernel⟩
theorem gX8_208 : yOk RX8 208 1 mX8_wantWarming := ⟨w_966, w_969, w_1, ⟨by decide, by decide⟩, by decide +kernel⟩
theorem gX8_212 : yOk RX8 212 1 mX6_removeWarming := ⟨w_975, w_978, w_2, ⟨by decide, by decide⟩, by decide +kernel⟩
theorem gX8_216 : yOk RX8 216 0 mX6_countWarmings := ⟨w_383, w_386, w_2, ⟨by decide, by decide⟩, by decide +kernel⟩
theorem gX8_219 : yOk RX8 219 1 mX6_passFault := ⟨w_986, w_989, w_2, ⟨by decide, by decide⟩, by decide +kernel⟩
theorem gX8_222 : yOk RX8 222 1 mX6_letPass := ⟨w_990, w_993, w_2, ⟨by decide, by decide⟩, by decide +kernel⟩
theorem gX8_255 : yOk RX8 255 1 mX5_sumOfAges := ⟨w_1047, w_1050, w_4, ⟨by decide, by decide⟩, by decide +kernel⟩
theorem gX8_260 : yOk RX8 260 1 mX6_findShelf := ⟨w_743, w_746, w_2, ⟨by decide, by decide⟩, by decide +kernel⟩
theorem gX8_263 : yOk RX8 263 1 mX6_rankByHits := ⟨w_1059, w_1062, w_2, ⟨by decide, by decide⟩, by decide +kernel⟩
theorem gX8_268 : yOk RX8 268 1 mJ4_setLength_d00df := ⟨w_1071, w_1074, w_11, ⟨by decide, by decide⟩, by decide +kernel⟩
theorem gX8_275 : yOk RX8 275 0 mJ4_length_8abf5 := ⟨w_1332, w_1253, w_11, ⟨by decide, by decide⟩, by decide +kernel⟩
theorem gX8_271 : yOk RX8 271 2 mX8_writeEcho := ⟨w_1328, w_1331, w_1, ⟨by decide, by decide⟩, by decide +kernel⟩
theorem gX8_280 : yOk RX8 280 1 mJ4_charAt_5068e := ⟨w_1364, w_1367, w_11, ⟨by decide, by decide⟩, by decide +kernel⟩
theorem gX8_290 : yOk RX8 290 1 mX6_isSound := ⟨w_411, w_414, w_2, ⟨by decide, by decide⟩, by decide +kernel⟩
theorem gX8_302 : yOk RX8 302 1 mX1_append := ⟨w_1383, w_1386, w_8, ⟨by decide, by decide⟩, by decide +kernel⟩
theorem gX8_305 : yOk RX8 305 0 mX1_parse := ⟨w_1394, w_1397, w_8, ⟨by decide, by decide⟩, by decide +kernel⟩
theorem gX8_314 : yOk RX8 314 1 mX3_keep := ⟨w_1467, w_598, w_7, ⟨by decide, by decide⟩, by decide +kernel⟩
theorem gX8_337 : yOk RX8 337 0 mX3_confirm := ⟨w_1493, w_610, w_7, ⟨by decide, by decide⟩, by decide +kernel⟩
theorem gX8_320 : yOk RX8 320 1 mX1_command := ⟨w_1468, w_1471, w_8, ⟨by decide, by decide⟩, by decide +kernel⟩
theorem gX8_328 : yOk RX8 328 1 mX3_takeBack := ⟨w_1480, w_1483, w_7, ⟨by decide, by decide⟩, by decide +kernel⟩
theorem gX8_324 : yOk RX8 324 1 mX8_faultOf := ⟨w_1472, w_1475, w_1, ⟨by decide, by decide⟩, by decide +kernel⟩
theorem gX8_333 : yOk RX8 333 1 mX8_carryOut := ⟨w_1485, w_1488, w_1, ⟨by decide, by decide⟩, by decide +kernel⟩
theorem gX8_349 : yOk RX8 349 1 mX3_goBack := ⟨w_1518, w_1521, w_7, ⟨by decide, by decide⟩, by decide +kernel⟩
theorem gX8_352 : yOk RX8 352 1 mX6_copyFrom := ⟨w_435, w_438, w_2, ⟨by decide, by decide⟩, by decide +kernel⟩
theorem gX8_357 : yOk RX8 357 1 mX6_findJar := ⟨w_711, w_422, w_2, ⟨by decide, by decide⟩, by decide +kernel⟩
theorem gX8_366 : yOk RX8 366 1 mX6_findWarming := ⟨w_970, w_973, w_2, ⟨by decide, by decide⟩, by decide +kernel⟩
theorem gX8_375 : yOk RX8 375 1 mJ4_append_cf468 := ⟨w_1333, w_1336, w_11, ⟨by decide, by decide⟩, by decide +kernel⟩
theorem gX8_378 : yOk RX8 378 1 mJ4_append_bf812 := ⟨w_1355, w_1209, w_11, ⟨by decide, by decide⟩, by decide +kernel⟩
theorem gX8_394 : yOk RX8 394 1 mX6_shelfFault := ⟨w_1476, w_1479, w_2, ⟨by decide, by decide⟩, by decide +kernel⟩
theorem gX8_397 : yOk RX8 397 2 mX6_tune := ⟨w_1489, w_1492, w_2, ⟨by decide, by decide⟩, by decide +kernel⟩
theorem gX9_51 : yOk RX9 51 3 mX9_in := ⟨w_1610, w_1612, w_14, ⟨by decide, by decide⟩, by decide +kernel⟩
theorem gX9_55 : yOk RX9 55 1 mX9_isLetter := ⟨w_1607, w_1609, w_14, ⟨by decide, by decide⟩, by decide +kernel⟩
theorem gX9_59 : yOk RX9 59 1 mX9_jar := ⟨w_1625, w_1627, w_14, ⟨by decide, by decide⟩, by decide +kernel⟩
theorem gX9_63 : yOk RX9 63 1 mX9_isJar := ⟨w_1621, w_1624, w_14, ⟨by decide, by decide⟩, by decide +kernel⟩
theorem gX9_66 : yOk RX9 66 2 mX9_echo := ⟨w_1640, w_1642, w_14, ⟨by decide, by decide⟩, by decide +kernel⟩
theorem gX9_70 : yOk RX9 70 2 mX9_isEcho := ⟨w_1719, w_1722, w_14, ⟨by decide, by decide⟩, by decide +kernel⟩
theorem gX9_74 : yOk RX9 74 2 mX9_age := ⟨w_1743, w_1746, w_14, ⟨by decide, by decide⟩, by decide +kernel⟩
theorem gX9_77 : yOk RX9 77 2 mX9_of := ⟨w_1651, w_1654, w_14, ⟨by decide, by decide⟩, by decide +kernel⟩
theorem gX9_80 : yOk RX9 80 3 mX9_goesFirst := ⟨w_1780, w_1783, w_14, ⟨by decide, by decide⟩, by decide +kernel⟩
theorem gX9_83 : yOk RX9 83 1 mX9_echoes := ⟨w_1715, w_1718, w_14, ⟨by decide, by decide⟩, by decide +kernel⟩
theorem gX9_86 : yOk RX9 86 1 mX9_victim := ⟨w_1776, w_1779, w_14, ⟨by decide, by decide⟩, by decide +kernel⟩
theorem gX9_89 : yOk RX9 89 2 mX9_isOver := ⟨w_1755, w_1758, w_14, ⟨by decide, by decide⟩, by decide +kernel⟩
theorem gX9_92 : yOk RX9 92 1 mX9_fails := ⟨w_1613, w_1616, w_14, ⟨by decide, by decide⟩, by decide +kernel⟩
theorem gX9_95 : yOk RX9 95 0 mX9_jars := ⟨w_1617, w_1620, w_14, ⟨by decide, by decide⟩, by decide +kernel⟩
theorem gX9_99 : yOk RX9 99 0 mX9_keep := ⟨w_1598, w_1601, w_14, ⟨by decide, by decide⟩, by decide +kernel⟩
theorem gX9_102 : yOk RX9 102 2 mX9_doAddJar := ⟨w_1603, w_1606, w_14, ⟨by decide, by decide⟩, by decide +kernel⟩
theorem gX9_105 : yOk RX9 105 1 mX9_ends := ⟨w_1628, w_1631, w_14, ⟨by decide, by decide⟩, by decide +kernel⟩
theorem gX9_108 : yOk RX9 108 1 mX9_doRemoveJar := ⟨w_1636, w_1639, w_14, ⟨by decide, by decide⟩, by decide +kernel⟩
theorem gX9_111 : yOk RX9 111 2 mX9_doSay := ⟨w_1647, w_1650, w_14, ⟨by decide, by decide⟩, by decide +kernel⟩
theorem gX9_114 : yOk RX9 114 1 mX9_isThere := ⟨w_1663, w_1666, w_14, ⟨by decide, by decide⟩, by decide +kernel⟩
theorem gX9_118 : yOk RX9 118 3 mX9_doAddShelf := ⟨w_1675, w_1678, w_14, ⟨by decide, by decide⟩, by decide +kernel⟩
theorem gX9_122 : yOk RX9 122 1 mX9_isShelf := ⟨w_1687, w_1690, w_14, ⟨by decide, by decide⟩, by decide +kernel⟩
theorem gX9_125 : yOk RX9 125 2 mX9_doListen := ⟨w_1683, w_1686, w_14, ⟨by decide, by decide⟩, by decide +kernel⟩
theorem gX9_129 : yOk RX9 129 2 mX9_asks := ⟨w_1735, w_1738, w_14, ⟨by decide, by decide⟩, by decide +kernel⟩
theorem gX9_132 : yOk RX9 132 2 mX9_isTrue := ⟨w_1771, w_1766, w_14, ⟨by decide, by decide⟩, by decide +kernel⟩
theorem gX9_136 : yOk RX9 136 1 mX9_victimOf := ⟨w_1788, w_1775, w_14, ⟨by decide, by decide⟩, by decide +kernel⟩
theorem gX9_140 : yOk RX9 140 2 mX9_outcome := ⟨w_1797, w_1800, w_14, ⟨by decide, by decide⟩, by decide +kernel⟩
theorem gX9_144 : yOk RX9 144 2 mX9_fetches := ⟨w_1801, w_1804, w_14, ⟨by decide, by decide⟩, by decide +kernel⟩
theorem gX9_148 : yOk RX9 148 2 mX9_doHear := ⟨w_1793, w_1796, w_14, ⟨by decide, by decide⟩, by decide +kernel⟩
theorem gX9_151 : yOk RX9 151 3 mX9_doWarm := ⟨w_1813, w_1816, w_14, ⟨by decide, by decide⟩, by decide +kernel⟩
theorem gX9_154 : yOk RX9 154 1 mX9_isWarming := ⟨w_1825, w_1828, w_14, ⟨by decide, by decide⟩, by decide +kernel⟩
theorem gX9_157 : yOk RX9 157 1 mX9_doCancel := ⟨w_1821, w_1824, w_14, ⟨by decide, by decide⟩, by decide +kernel⟩
theorem gX9_160 : yOk RX9 160 1 mX9_doPass := ⟨w_1833, w_1836, w_14, ⟨by decide, by decide⟩, by decide +kernel⟩
theorem gX9_170 : yOk RX9 170 1 mX9_says := ⟨w_1881, w_1884, w_14, ⟨by decide, by decide⟩, by decide +kernel⟩
theorem gX9_166 : yOk RX9 166 1 mX9_saysNumber := ⟨w_1885, w_1888, w_14, ⟨by decide, by decide⟩, by decide +kernel⟩
theorem gX9_179 : yOk RX9 179 0 mJ0_length_8abf5 := ⟨w_1919, w_1166, w_12, ⟨by decide, by decide⟩, by decide +kernel⟩
theorem gX9_187 : yOk RX9 187 1 mX9_behind := ⟨w_1905, w_1908, w_14, ⟨by decide, by decide⟩, by decide +kernel⟩
theorem gX9_190 : yOk RX9 190 1 mJ0_charAt_5068e := ⟨w_1920, w_1430, w_12, ⟨by decide, by decide⟩, by decide +kernel⟩
theorem gX9_199 : yOk RX9 199 0 mX9_isDigit := ⟨w_1926, w_1929, w_14, ⟨by decide, by decide⟩, by decide +kernel⟩
theorem gX9_206 : yOk RX9 206 0 mX9_word := ⟨w_1909, w_1912, w_14, ⟨by decide, by decide⟩, by decide +kernel⟩
theorem gX9_213 : yOk RX9 213 1 mX9_readNumber := ⟨w_1921, w_1924, w_14, ⟨by decide, by decide⟩, by decide +kernel⟩
theorem gX9_216 : yOk RX9 216 1 mX9_readLetter := ⟨w_1930, w_1933, w_14, ⟨by decide, by decide⟩, by decide +kernel⟩
theorem gX9_233 : yOk RX9 233 0 mX9_readCommand := ⟨w_1901, w_1904, w_14, ⟨by decide, by decide⟩, by decide +kernel⟩
theorem gX9_236 : yOk RX9 236 1 mX9_does := ⟨w_1941, w_1944, w_14, ⟨by decide, by decide⟩, by decide +kernel⟩
theorem gX1_32 : yOk RX1 32 1 mX1_readCommand := ⟨w_1398, w_1401, w_8, ⟨by decide, by decide⟩, by decide +kernel⟩
theorem gX1_36 : yOk RX1 36 1 mX1_readSign := ⟨w_1451, w_1454, w_8, ⟨by decide, by decide⟩, by decide +kernel⟩
theorem gX1_40 : yOk RX1 40 0 mX1_readKeyword := ⟨w_1402, w_1405, w_8, ⟨by decide, by decide⟩, by decide +kernel⟩
theorem gX1_47 : yOk RX1 47 1 mX1_readLetter := ⟨w_1443, w_1446, w_8, ⟨by decide, by decide⟩, by decide +kernel⟩
theorem gX1_53 : yOk RX1 53 1 mX1_readDigit := ⟨w_1458, w_1461, w_8, ⟨by decide, by decide⟩, by decide +kernel⟩
theorem gX1_50 : yOk RX1 50 1 mX1_readNumber := ⟨w_1447, w_1450, w_8, ⟨by decide, by decide⟩, by decide +kernel⟩
theorem gX1_56 : yOk RX1 56 1 mX1_readPolicy := ⟨w_1462, w_1465, w_8, ⟨by decide, by decide⟩, by decide +kernel⟩
theorem gX1_59 : yOk RX1 59 1 mX1_keywordOf := ⟨w_1406, w_1408, w_8, ⟨by decide, by decide⟩, by decide +kernel⟩
theorem gX1_63 : yOk RX1 63 2 mX1_countSame := ⟨w_1418, w_1421, w_8, ⟨by decide, by decide⟩, by decide +kernel⟩
theorem gX1_67 : yOk RX1 67 0 mJ0_length_8abf5 := ⟨w_1422, w_1166, w_12, ⟨by decide, by decide⟩, by decide +kernel⟩
theorem gX1_71 : yOk RX1 71 2 mJ9_max_7cf53 := ⟨w_1442, w_1110, w_22, ⟨by decide, by decide⟩, by decide +kernel⟩
theorem gX1_81 : yOk RX1 81 1 mJ0_charAt_5068e := ⟨w_1427, w_1430, w_12, ⟨by decide, by decide⟩, by decide +kernel⟩
theorem gX1_77 : yOk RX1 77 0 mX1_next := ⟨w_1423, w_1426, w_8, ⟨by decide, by decide⟩, by decide +kernel⟩
theorem gX1_110 : yOk RX1 110 1 mX1_isDigit := ⟨w_1455, w_1457, w_8, ⟨by decide, by decide⟩, by decide +kernel⟩
theorem nX5_32 : nOk RX5 32 2 := ⟨by decide, w_83, w_85, w_5⟩
theorem nX3_9 : nOk RX3 9 6 := ⟨by decide, w_228, w_42, w_2⟩
theorem nX6_9 : nOk RX6 9 4 := ⟨by decide, w_47, w_53, w_3⟩
theorem nX6_17 : nOk RX6 17 5 := ⟨by decide, w_49, w_78, w_4⟩
theorem nX6_23 : nOk RX6 23 7 := ⟨by decide, w_51, w_164, w_6⟩
theorem nX8_7 : nOk RX8 7 6 := ⟨by decide, w_41, w_42, w_2⟩
theorem nX8_16 : nOk RX8 16 3 := ⟨by decide, w_222, w_223, w_7⟩
theorem nX8_30 : nOk RX8 30 1 := ⟨by decide, w_242, w_243, w_8⟩
theorem nX8_44 : nOk RX8 44 10 := ⟨by decide, w_301, w_302, w_11⟩
theorem nX1_22 : nOk RX1 22 0 := ⟨by decide, w_248, w_250, w_9⟩
