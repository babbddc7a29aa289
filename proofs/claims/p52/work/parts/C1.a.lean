/-! ===== the methods of the law ===== -/
def mL_cell : SIG := (yL_cell, cL_cell, 2, (some FieldType.int))
def mL_execute : SIG := (yL_execute, cL_execute, 3, (some FieldType.int))
def mL_drawn : SIG := (yL_drawn, cL_drawn, 10, (some (FieldType.object "EchoPantry")))
def mL_law : SIG := (yL_law, cL_law, 2, ret)
def mL_jars : SIG := (yL_jars, cL_jars, 5, (some FieldType.boolean))
def mL_shelves : SIG := (yL_shelves, cL_shelves, 9, (some FieldType.boolean))
def mL_isEcho : SIG := (yL_isEcho, cL_isEcho, 6, (some FieldType.boolean))
def mL_isFewest : SIG := (yL_isFewest, cL_isFewest, 5, (some FieldType.boolean))
def mL_warmings : SIG := (yL_warmings, cL_warmings, 5, (some FieldType.boolean))
def mL_spells : SIG := (yL_spells, cL_spells, 5, (some FieldType.boolean))
def mL_lines : SIG := (yL_lines, cL_lines, 5, (some FieldType.boolean))
def mL_sum : SIG := (yL_sum, cL_sum, 6, (some FieldType.long))
def mL_undone : SIG := (yL_undone, cL_undone, 9, (some FieldType.boolean))
def rL_cell : Room := { frames := 0, cells := 0, slots := 0, locals := 0 }
def rL_execute : Room := { frames := 11, cells := 100, slots := 600, locals := 243 }
def rL_drawn : Room := { frames := 10, cells := 10000, slots := 200000, locals := 340 }
def rL_law : Room := room_1
def rL_jars : Room := { frames := 9, cells := 100, slots := 600, locals := 147 }
def rL_shelves : Room := { frames := 11, cells := 6000, slots := 36000, locals := 198 }
def rL_isEcho : Room := { frames := 10, cells := 20, slots := 120, locals := 173 }
def rL_isFewest : Room := { frames := 9, cells := 60, slots := 400, locals := 149 }
def rL_warmings : Room := { frames := 9, cells := 100, slots := 600, locals := 147 }
def rL_spells : Room := { frames := 17, cells := 100, slots := 600, locals := 764 }
def rL_lines : Room := { frames := 22, cells := 3000, slots := 150000, locals := 878 }
def rL_sum : Room := { frames := 9, cells := 500, slots := 3000, locals := 149 }
def rL_undone : Room := { frames := 22, cells := 12000, slots := 80000, locals := 878 }
def rJ4_append_15ec4_b : Room := { frames := 14, cells := 1, slots := 140, locals := 700 }
def rJ4_toString_0e30d_b : Room := { frames := 14, cells := 2, slots := 144, locals := 700 }
theorem w_32 : (Jvm.Cond.methodLink "EchoPantryLaw" (193 : Nat) ({ cls := "EchoPantryLaw", name := "drawn", desc := "([I)LEchoPantry;" } : Jvm.MethodName)) ∈ TBL := tk_1 (List.mem_of_getElem? (i := 32) rfl) rfl
theorem w_33 : (Jvm.Cond.static ({ cls := "EchoPantryLaw", name := "drawn", desc := "([I)LEchoPantry;" } : Jvm.MethodName)) ∈ TBL := tk_1 (List.mem_of_getElem? (i := 33) rfl) rfl
theorem w_34 : (Jvm.Cond.code ({ cls := "EchoPantryLaw", name := "drawn", desc := "([I)LEchoPantry;" } : Jvm.MethodName) method_43_code (10 : Nat) (Option.some (Jvm.ClassFile.FieldType.object "EchoPantry"))) ∈ TBL := tk_1 (List.mem_of_getElem? (i := 34) rfl) rfl
theorem w_35 : (Jvm.Cond.classLink "EchoPantryLaw" (9 : Nat) "EchoPantry") ∈ TBL := tk_1 (List.mem_of_getElem? (i := 35) rfl) rfl
theorem w_36 : (Jvm.Cond.instantiable "EchoPantry" (8 : Nat)) ∈ TBL := tk_1 (List.mem_of_getElem? (i := 36) rfl) rfl
theorem w_37 : (Jvm.Cond.methodLink "EchoPantryLaw" (165 : Nat) ({ cls := "EchoPantry", name := "<init>", desc := "()V" } : Jvm.MethodName)) ∈ TBL := tk_1 (List.mem_of_getElem? (i := 37) rfl) rfl
theorem w_38 : (Jvm.Cond.instanceMethod ({ cls := "EchoPantry", name := "<init>", desc := "()V" } : Jvm.MethodName)) ∈ TBL := tk_1 (List.mem_of_getElem? (i := 38) rfl) rfl
theorem w_361 : (Jvm.Cond.methodLink "EchoPantryLaw" (166 : Nat) ({ cls := "EchoPantryLaw", name := "cell", desc := "([II)I" } : Jvm.MethodName)) ∈ TBL := tk_2 (List.mem_of_getElem? (i := 121) rfl) rfl
theorem w_362 : (Jvm.Cond.static ({ cls := "EchoPantryLaw", name := "cell", desc := "([II)I" } : Jvm.MethodName)) ∈ TBL := tk_2 (List.mem_of_getElem? (i := 122) rfl) rfl
theorem w_363 : (Jvm.Cond.code ({ cls := "EchoPantryLaw", name := "cell", desc := "([II)I" } : Jvm.MethodName) method_2_code (2 : Nat) (Option.some Jvm.ClassFile.FieldType.int)) ∈ TBL := tk_2 (List.mem_of_getElem? (i := 123) rfl) rfl
theorem w_364 : (Jvm.Cond.constant "EchoPantryLaw" (7 : Nat) (40503 : Int32)) ∈ TBL := tk_2 (List.mem_of_getElem? (i := 124) rfl) rfl
theorem w_365 : (Jvm.Cond.methodLink "EchoPantryLaw" (170 : Nat) ({ cls := "EchoPantryLaw", name := "addJar", desc := "(LEchoPantry;CI)I" } : Jvm.MethodName)) ∈ TBL := tk_2 (List.mem_of_getElem? (i := 125) rfl) rfl
theorem w_366 : (Jvm.Cond.static ({ cls := "EchoPantryLaw", name := "addJar", desc := "(LEchoPantry;CI)I" } : Jvm.MethodName)) ∈ TBL := tk_2 (List.mem_of_getElem? (i := 126) rfl) rfl
theorem w_560 : (Jvm.Cond.methodLink "EchoPantryLaw" (153 : Nat) ({ cls := "java/lang/String", name := "charAt", desc := "(I)C" } : Jvm.MethodName)) ∈ TBL := tk_3 (List.mem_of_getElem? (i := 80) rfl) rfl
theorem w_599 : (Jvm.Cond.methodLink "EchoPantryLaw" (175 : Nat) ({ cls := "EchoPantryLaw", name := "addShelf", desc := "(LEchoPantry;IIC)I" } : Jvm.MethodName)) ∈ TBL := tk_3 (List.mem_of_getElem? (i := 119) rfl) rfl
theorem w_600 : (Jvm.Cond.static ({ cls := "EchoPantryLaw", name := "addShelf", desc := "(LEchoPantry;IIC)I" } : Jvm.MethodName)) ∈ TBL := tk_3 (List.mem_of_getElem? (i := 120) rfl) rfl
theorem w_622 : (Jvm.Cond.methodLink "EchoPantryLaw" (178 : Nat) ({ cls := "EchoPantryLaw", name := "hear", desc := "(LEchoPantry;IC)I" } : Jvm.MethodName)) ∈ TBL := tk_3 (List.mem_of_getElem? (i := 142) rfl) rfl
theorem w_623 : (Jvm.Cond.static ({ cls := "EchoPantryLaw", name := "hear", desc := "(LEchoPantry;IC)I" } : Jvm.MethodName)) ∈ TBL := tk_3 (List.mem_of_getElem? (i := 143) rfl) rfl
theorem w_720 : (Jvm.Cond.methodLink "EchoPantryLaw" (181 : Nat) ({ cls := "EchoPantryLaw", name := "say", desc := "(LEchoPantry;CI)I" } : Jvm.MethodName)) ∈ TBL := tk_4 (List.mem_of_getElem? (i := 0) rfl) rfl
theorem w_721 : (Jvm.Cond.static ({ cls := "EchoPantryLaw", name := "say", desc := "(LEchoPantry;CI)I" } : Jvm.MethodName)) ∈ TBL := tk_4 (List.mem_of_getElem? (i := 1) rfl) rfl
theorem w_739 : (Jvm.Cond.methodLink "EchoPantryLaw" (183 : Nat) ({ cls := "EchoPantryLaw", name := "warm", desc := "(LEchoPantry;ICI)I" } : Jvm.MethodName)) ∈ TBL := tk_4 (List.mem_of_getElem? (i := 19) rfl) rfl
theorem w_740 : (Jvm.Cond.static ({ cls := "EchoPantryLaw", name := "warm", desc := "(LEchoPantry;ICI)I" } : Jvm.MethodName)) ∈ TBL := tk_4 (List.mem_of_getElem? (i := 20) rfl) rfl
theorem w_767 : (Jvm.Cond.methodLink "EchoPantryLaw" (186 : Nat) ({ cls := "EchoPantryLaw", name := "pass", desc := "(LEchoPantry;I)I" } : Jvm.MethodName)) ∈ TBL := tk_4 (List.mem_of_getElem? (i := 47) rfl) rfl
theorem w_768 : (Jvm.Cond.static ({ cls := "EchoPantryLaw", name := "pass", desc := "(LEchoPantry;I)I" } : Jvm.MethodName)) ∈ TBL := tk_4 (List.mem_of_getElem? (i := 48) rfl) rfl
theorem w_782 : (Jvm.Cond.methodLink "EchoPantryLaw" (189 : Nat) ({ cls := "EchoPantryLaw", name := "listen", desc := "(LEchoPantry;IZ)I" } : Jvm.MethodName)) ∈ TBL := tk_4 (List.mem_of_getElem? (i := 62) rfl) rfl
theorem w_783 : (Jvm.Cond.static ({ cls := "EchoPantryLaw", name := "listen", desc := "(LEchoPantry;IZ)I" } : Jvm.MethodName)) ∈ TBL := tk_4 (List.mem_of_getElem? (i := 63) rfl) rfl
theorem w_794 : (Jvm.Cond.methodLink "EchoPantryLaw" (197 : Nat) ({ cls := "EchoPantryLaw", name := "jars", desc := "(LEchoPantry;)Z" } : Jvm.MethodName)) ∈ TBL := tk_4 (List.mem_of_getElem? (i := 74) rfl) rfl
theorem w_795 : (Jvm.Cond.static ({ cls := "EchoPantryLaw", name := "jars", desc := "(LEchoPantry;)Z" } : Jvm.MethodName)) ∈ TBL := tk_4 (List.mem_of_getElem? (i := 75) rfl) rfl
theorem w_796 : (Jvm.Cond.code ({ cls := "EchoPantryLaw", name := "jars", desc := "(LEchoPantry;)Z" } : Jvm.MethodName) method_45_code (5 : Nat) (Option.some Jvm.ClassFile.FieldType.boolean)) ∈ TBL := tk_4 (List.mem_of_getElem? (i := 76) rfl) rfl
theorem w_797 : (Jvm.Cond.methodLink "EchoPantryLaw" (214 : Nat) ({ cls := "EchoPantry", name := "jarCount", desc := "()I" } : Jvm.MethodName)) ∈ TBL := tk_4 (List.mem_of_getElem? (i := 77) rfl) rfl
theorem w_798 : (Jvm.Cond.instanceMethod ({ cls := "EchoPantry", name := "jarCount", desc := "()I" } : Jvm.MethodName)) ∈ TBL := tk_4 (List.mem_of_getElem? (i := 78) rfl) rfl
theorem w_799 : (Jvm.Cond.selects "EchoPantry" ({ cls := "EchoPantry", name := "jarCount", desc := "()I" } : Jvm.MethodName) ({ cls := "EchoPantry", name := "jarCount", desc := "()I" } : Jvm.MethodName)) ∈ TBL := tk_4 (List.mem_of_getElem? (i := 79) rfl) rfl
theorem w_800 : (Jvm.Cond.code ({ cls := "EchoPantry", name := "jarCount", desc := "()I" } : Jvm.MethodName) prog_1_method_5_code (1 : Nat) (Option.some Jvm.ClassFile.FieldType.int)) ∈ TBL := tk_4 (List.mem_of_getElem? (i := 80) rfl) rfl
theorem w_802 : (Jvm.Cond.methodLink "EchoPantryLaw" (217 : Nat) ({ cls := "EchoPantryLaw", name := "wordOf", desc := "(LEchoPantry;C)I" } : Jvm.MethodName)) ∈ TBL := tk_4 (List.mem_of_getElem? (i := 82) rfl) rfl
theorem w_803 : (Jvm.Cond.static ({ cls := "EchoPantryLaw", name := "wordOf", desc := "(LEchoPantry;C)I" } : Jvm.MethodName)) ∈ TBL := tk_4 (List.mem_of_getElem? (i := 83) rfl) rfl
theorem w_814 : (Jvm.Cond.methodLink "EchoPantryLaw" (219 : Nat) ({ cls := "EchoPantryLaw", name := "jarAt", desc := "(LEchoPantry;I)I" } : Jvm.MethodName)) ∈ TBL := tk_4 (List.mem_of_getElem? (i := 94) rfl) rfl
theorem w_815 : (Jvm.Cond.static ({ cls := "EchoPantryLaw", name := "jarAt", desc := "(LEchoPantry;I)I" } : Jvm.MethodName)) ∈ TBL := tk_4 (List.mem_of_getElem? (i := 95) rfl) rfl
theorem w_826 : (Jvm.Cond.methodLink "EchoPantryLaw" (201 : Nat) ({ cls := "EchoPantryLaw", name := "shelves", desc := "(LEchoPantry;)Z" } : Jvm.MethodName)) ∈ TBL := tk_4 (List.mem_of_getElem? (i := 106) rfl) rfl
theorem w_827 : (Jvm.Cond.static ({ cls := "EchoPantryLaw", name := "shelves", desc := "(LEchoPantry;)Z" } : Jvm.MethodName)) ∈ TBL := tk_4 (List.mem_of_getElem? (i := 107) rfl) rfl
theorem w_828 : (Jvm.Cond.code ({ cls := "EchoPantryLaw", name := "shelves", desc := "(LEchoPantry;)Z" } : Jvm.MethodName) method_46_code (9 : Nat) (Option.some Jvm.ClassFile.FieldType.boolean)) ∈ TBL := tk_4 (List.mem_of_getElem? (i := 108) rfl) rfl
theorem w_829 : (Jvm.Cond.methodLink "EchoPantryLaw" (221 : Nat) ({ cls := "EchoPantry", name := "shelfCount", desc := "()I" } : Jvm.MethodName)) ∈ TBL := tk_4 (List.mem_of_getElem? (i := 109) rfl) rfl
theorem w_830 : (Jvm.Cond.instanceMethod ({ cls := "EchoPantry", name := "shelfCount", desc := "()I" } : Jvm.MethodName)) ∈ TBL := tk_4 (List.mem_of_getElem? (i := 110) rfl) rfl
theorem w_831 : (Jvm.Cond.selects "EchoPantry" ({ cls := "EchoPantry", name := "shelfCount", desc := "()I" } : Jvm.MethodName) ({ cls := "EchoPantry", name := "shelfCount", desc := "()I" } : Jvm.MethodName)) ∈ TBL := tk_4 (List.mem_of_getElem? (i := 111) rfl) rfl
theorem w_832 : (Jvm.Cond.code ({ cls := "EchoPantry", name := "shelfCount", desc := "()I" } : Jvm.MethodName) prog_1_method_10_code (1 : Nat) (Option.some Jvm.ClassFile.FieldType.int)) ∈ TBL := tk_4 (List.mem_of_getElem? (i := 112) rfl) rfl
theorem w_834 : (Jvm.Cond.methodLink "EchoPantryLaw" (224 : Nat) ({ cls := "EchoPantryLaw", name := "hasEcho", desc := "(LEchoPantry;IC)I" } : Jvm.MethodName)) ∈ TBL := tk_4 (List.mem_of_getElem? (i := 114) rfl) rfl
theorem w_835 : (Jvm.Cond.static ({ cls := "EchoPantryLaw", name := "hasEcho", desc := "(LEchoPantry;IC)I" } : Jvm.MethodName)) ∈ TBL := tk_4 (List.mem_of_getElem? (i := 115) rfl) rfl
theorem w_842 : (Jvm.Cond.methodLink "EchoPantryLaw" (226 : Nat) ({ cls := "EchoPantryLaw", name := "echoOf", desc := "(LEchoPantry;IC)I" } : Jvm.MethodName)) ∈ TBL := tk_4 (List.mem_of_getElem? (i := 122) rfl) rfl
theorem w_843 : (Jvm.Cond.static ({ cls := "EchoPantryLaw", name := "echoOf", desc := "(LEchoPantry;IC)I" } : Jvm.MethodName)) ∈ TBL := tk_4 (List.mem_of_getElem? (i := 123) rfl) rfl
theorem w_854 : (Jvm.Cond.methodLink "EchoPantryLaw" (228 : Nat) ({ cls := "EchoPantryLaw", name := "ageOf", desc := "(LEchoPantry;IC)I" } : Jvm.MethodName)) ∈ TBL := tk_4 (List.mem_of_getElem? (i := 134) rfl) rfl
theorem w_855 : (Jvm.Cond.static ({ cls := "EchoPantryLaw", name := "ageOf", desc := "(LEchoPantry;IC)I" } : Jvm.MethodName)) ∈ TBL := tk_4 (List.mem_of_getElem? (i := 135) rfl) rfl
theorem w_862 : (Jvm.Cond.methodLink "EchoPantryLaw" (230 : Nat) ({ cls := "EchoPantryLaw", name := "hitsOf", desc := "(LEchoPantry;IC)I" } : Jvm.MethodName)) ∈ TBL := tk_4 (List.mem_of_getElem? (i := 142) rfl) rfl
theorem w_863 : (Jvm.Cond.static ({ cls := "EchoPantryLaw", name := "hitsOf", desc := "(LEchoPantry;IC)I" } : Jvm.MethodName)) ∈ TBL := tk_4 (List.mem_of_getElem? (i := 143) rfl) rfl
theorem w_869 : (Jvm.Cond.methodLink "EchoPantryLaw" (232 : Nat) ({ cls := "EchoPantryLaw", name := "isOpen", desc := "(LEchoPantry;IC)I" } : Jvm.MethodName)) ∈ TBL := tk_4 (List.mem_of_getElem? (i := 149) rfl) rfl
theorem w_870 : (Jvm.Cond.static ({ cls := "EchoPantryLaw", name := "isOpen", desc := "(LEchoPantry;IC)I" } : Jvm.MethodName)) ∈ TBL := tk_4 (List.mem_of_getElem? (i := 150) rfl) rfl
theorem w_876 : (Jvm.Cond.methodLink "EchoPantryLaw" (234 : Nat) ({ cls := "EchoPantryLaw", name := "echoAt", desc := "(LEchoPantry;II)I" } : Jvm.MethodName)) ∈ TBL := tk_4 (List.mem_of_getElem? (i := 156) rfl) rfl
theorem w_877 : (Jvm.Cond.static ({ cls := "EchoPantryLaw", name := "echoAt", desc := "(LEchoPantry;II)I" } : Jvm.MethodName)) ∈ TBL := tk_4 (List.mem_of_getElem? (i := 157) rfl) rfl
theorem w_888 : (Jvm.Cond.methodLink "EchoPantryLaw" (237 : Nat) ({ cls := "EchoPantryLaw", name := "isEcho", desc := "(LEchoPantry;IC)Z" } : Jvm.MethodName)) ∈ TBL := tk_4 (List.mem_of_getElem? (i := 168) rfl) rfl
theorem w_889 : (Jvm.Cond.static ({ cls := "EchoPantryLaw", name := "isEcho", desc := "(LEchoPantry;IC)Z" } : Jvm.MethodName)) ∈ TBL := tk_4 (List.mem_of_getElem? (i := 169) rfl) rfl
theorem w_890 : (Jvm.Cond.code ({ cls := "EchoPantryLaw", name := "isEcho", desc := "(LEchoPantry;IC)Z" } : Jvm.MethodName) method_47_code (6 : Nat) (Option.some Jvm.ClassFile.FieldType.boolean)) ∈ TBL := tk_4 (List.mem_of_getElem? (i := 170) rfl) rfl
theorem w_891 : (Jvm.Cond.methodLink "EchoPantryLaw" (241 : Nat) ({ cls := "EchoPantryLaw", name := "isTrue", desc := "(LEchoPantry;IC)I" } : Jvm.MethodName)) ∈ TBL := tk_4 (List.mem_of_getElem? (i := 171) rfl) rfl
theorem w_892 : (Jvm.Cond.static ({ cls := "EchoPantryLaw", name := "isTrue", desc := "(LEchoPantry;IC)I" } : Jvm.MethodName)) ∈ TBL := tk_4 (List.mem_of_getElem? (i := 172) rfl) rfl
theorem w_902 : (Jvm.Cond.methodLink "EchoPantryLaw" (273 : Nat) ({ cls := "EchoPantryLaw", name := "lifetimeOf", desc := "(LEchoPantry;I)I" } : Jvm.MethodName)) ∈ TBL := tk_4 (List.mem_of_getElem? (i := 182) rfl) rfl
theorem w_903 : (Jvm.Cond.static ({ cls := "EchoPantryLaw", name := "lifetimeOf", desc := "(LEchoPantry;I)I" } : Jvm.MethodName)) ∈ TBL := tk_4 (List.mem_of_getElem? (i := 183) rfl) rfl
theorem w_909 : (Jvm.Cond.methodLink "EchoPantryLaw" (243 : Nat) ({ cls := "EchoPantryLaw", name := "bySteps", desc := "(LEchoPantry;IC)I" } : Jvm.MethodName)) ∈ TBL := tk_4 (List.mem_of_getElem? (i := 189) rfl) rfl
theorem w_910 : (Jvm.Cond.static ({ cls := "EchoPantryLaw", name := "bySteps", desc := "(LEchoPantry;IC)I" } : Jvm.MethodName)) ∈ TBL := tk_4 (List.mem_of_getElem? (i := 190) rfl) rfl
theorem w_920 : (Jvm.Cond.methodLink "EchoPantryLaw" (246 : Nat) ({ cls := "EchoPantryLaw", name := "isExpired", desc := "(LEchoPantry;IC)I" } : Jvm.MethodName)) ∈ TBL := tk_4 (List.mem_of_getElem? (i := 200) rfl) rfl
theorem w_921 : (Jvm.Cond.static ({ cls := "EchoPantryLaw", name := "isExpired", desc := "(LEchoPantry;IC)I" } : Jvm.MethodName)) ∈ TBL := tk_4 (List.mem_of_getElem? (i := 201) rfl) rfl
theorem w_928 : (Jvm.Cond.methodLink "EchoPantryLaw" (277 : Nat) ({ cls := "EchoPantry", name := "time", desc := "()I" } : Jvm.MethodName)) ∈ TBL := tk_4 (List.mem_of_getElem? (i := 208) rfl) rfl
theorem w_929 : (Jvm.Cond.instanceMethod ({ cls := "EchoPantry", name := "time", desc := "()I" } : Jvm.MethodName)) ∈ TBL := tk_4 (List.mem_of_getElem? (i := 209) rfl) rfl
theorem w_930 : (Jvm.Cond.selects "EchoPantry" ({ cls := "EchoPantry", name := "time", desc := "()I" } : Jvm.MethodName) ({ cls := "EchoPantry", name := "time", desc := "()I" } : Jvm.MethodName)) ∈ TBL := tk_4 (List.mem_of_getElem? (i := 210) rfl) rfl
theorem w_931 : (Jvm.Cond.code ({ cls := "EchoPantry", name := "time", desc := "()I" } : Jvm.MethodName) prog_1_method_32_code (1 : Nat) (Option.some Jvm.ClassFile.FieldType.int)) ∈ TBL := tk_4 (List.mem_of_getElem? (i := 211) rfl) rfl
theorem w_932 : (Jvm.Cond.methodLink "EchoPantryLaw" (248 : Nat) ({ cls := "EchoPantryLaw", name := "outcome", desc := "(LEchoPantry;IC)I" } : Jvm.MethodName)) ∈ TBL := tk_4 (List.mem_of_getElem? (i := 212) rfl) rfl
theorem w_933 : (Jvm.Cond.static ({ cls := "EchoPantryLaw", name := "outcome", desc := "(LEchoPantry;IC)I" } : Jvm.MethodName)) ∈ TBL := tk_4 (List.mem_of_getElem? (i := 213) rfl) rfl
theorem w_940 : (Jvm.Cond.methodLink "EchoPantryLaw" (251 : Nat) ({ cls := "EchoPantryLaw", name := "victimOf", desc := "(LEchoPantry;I)I" } : Jvm.MethodName)) ∈ TBL := tk_4 (List.mem_of_getElem? (i := 220) rfl) rfl
theorem w_941 : (Jvm.Cond.static ({ cls := "EchoPantryLaw", name := "victimOf", desc := "(LEchoPantry;I)I" } : Jvm.MethodName)) ∈ TBL := tk_4 (List.mem_of_getElem? (i := 221) rfl) rfl
theorem w_949 : (Jvm.Cond.methodLink "EchoPantryLaw" (253 : Nat) ({ cls := "EchoPantryLaw", name := "echoCount", desc := "(LEchoPantry;I)I" } : Jvm.MethodName)) ∈ TBL := tk_4 (List.mem_of_getElem? (i := 229) rfl) rfl
theorem w_950 : (Jvm.Cond.static ({ cls := "EchoPantryLaw", name := "echoCount", desc := "(LEchoPantry;I)I" } : Jvm.MethodName)) ∈ TBL := tk_4 (List.mem_of_getElem? (i := 230) rfl) rfl
theorem w_957 : (Jvm.Cond.methodLink "EchoPantryLaw" (255 : Nat) ({ cls := "EchoPantryLaw", name := "capacityOf", desc := "(LEchoPantry;I)I" } : Jvm.MethodName)) ∈ TBL := tk_4 (List.mem_of_getElem? (i := 237) rfl) rfl
theorem w_958 : (Jvm.Cond.static ({ cls := "EchoPantryLaw", name := "capacityOf", desc := "(LEchoPantry;I)I" } : Jvm.MethodName)) ∈ TBL := tk_4 (List.mem_of_getElem? (i := 238) rfl) rfl
theorem w_964 : (Jvm.Cond.methodLink "EchoPantryLaw" (257 : Nat) ({ cls := "EchoPantryLaw", name := "byScan", desc := "(LEchoPantry;I)I" } : Jvm.MethodName)) ∈ TBL := tk_5 (List.mem_of_getElem? (i := 4) rfl) rfl
theorem w_965 : (Jvm.Cond.static ({ cls := "EchoPantryLaw", name := "byScan", desc := "(LEchoPantry;I)I" } : Jvm.MethodName)) ∈ TBL := tk_5 (List.mem_of_getElem? (i := 5) rfl) rfl
theorem w_975 : (Jvm.Cond.methodLink "EchoPantryLaw" (260 : Nat) ({ cls := "EchoPantryLaw", name := "policyOf", desc := "(LEchoPantry;I)I" } : Jvm.MethodName)) ∈ TBL := tk_5 (List.mem_of_getElem? (i := 15) rfl) rfl
theorem w_976 : (Jvm.Cond.static ({ cls := "EchoPantryLaw", name := "policyOf", desc := "(LEchoPantry;I)I" } : Jvm.MethodName)) ∈ TBL := tk_5 (List.mem_of_getElem? (i := 16) rfl) rfl
theorem w_982 : (Jvm.Cond.methodLink "EchoPantryLaw" (262 : Nat) ({ cls := "EchoPantryLaw", name := "isFewest", desc := "(LEchoPantry;IC)Z" } : Jvm.MethodName)) ∈ TBL := tk_5 (List.mem_of_getElem? (i := 22) rfl) rfl
theorem w_983 : (Jvm.Cond.static ({ cls := "EchoPantryLaw", name := "isFewest", desc := "(LEchoPantry;IC)Z" } : Jvm.MethodName)) ∈ TBL := tk_5 (List.mem_of_getElem? (i := 23) rfl) rfl
theorem w_984 : (Jvm.Cond.code ({ cls := "EchoPantryLaw", name := "isFewest", desc := "(LEchoPantry;IC)Z" } : Jvm.MethodName) method_48_code (5 : Nat) (Option.some Jvm.ClassFile.FieldType.boolean)) ∈ TBL := tk_5 (List.mem_of_getElem? (i := 24) rfl) rfl
theorem w_985 : (Jvm.Cond.methodLink "EchoPantryLaw" (265 : Nat) ({ cls := "EchoPantry", name := "meanAge", desc := "()D" } : Jvm.MethodName)) ∈ TBL := tk_5 (List.mem_of_getElem? (i := 25) rfl) rfl
theorem w_986 : (Jvm.Cond.instanceMethod ({ cls := "EchoPantry", name := "meanAge", desc := "()D" } : Jvm.MethodName)) ∈ TBL := tk_5 (List.mem_of_getElem? (i := 26) rfl) rfl
theorem w_987 : (Jvm.Cond.selects "EchoPantry" ({ cls := "EchoPantry", name := "meanAge", desc := "()D" } : Jvm.MethodName) ({ cls := "EchoPantry", name := "meanAge", desc := "()D" } : Jvm.MethodName)) ∈ TBL := tk_5 (List.mem_of_getElem? (i := 27) rfl) rfl
theorem w_988 : (Jvm.Cond.code ({ cls := "EchoPantry", name := "meanAge", desc := "()D" } : Jvm.MethodName) prog_1_method_39_code (7 : Nat) (Option.some Jvm.ClassFile.FieldType.double)) ∈ TBL := tk_5 (List.mem_of_getElem? (i := 28) rfl) rfl
theorem w_1009 : (Jvm.Cond.methodLink "EchoPantryLaw" (269 : Nat) ({ cls := "EchoPantry", name := "isConsistent", desc := "()Z" } : Jvm.MethodName)) ∈ TBL := tk_5 (List.mem_of_getElem? (i := 49) rfl) rfl
theorem w_1010 : (Jvm.Cond.instanceMethod ({ cls := "EchoPantry", name := "isConsistent", desc := "()Z" } : Jvm.MethodName)) ∈ TBL := tk_5 (List.mem_of_getElem? (i := 50) rfl) rfl
theorem w_1011 : (Jvm.Cond.selects "EchoPantry" ({ cls := "EchoPantry", name := "isConsistent", desc := "()Z" } : Jvm.MethodName) ({ cls := "EchoPantry", name := "isConsistent", desc := "()Z" } : Jvm.MethodName)) ∈ TBL := tk_5 (List.mem_of_getElem? (i := 51) rfl) rfl
theorem w_1012 : (Jvm.Cond.code ({ cls := "EchoPantry", name := "isConsistent", desc := "()Z" } : Jvm.MethodName) prog_1_method_43_code (9 : Nat) (Option.some Jvm.ClassFile.FieldType.boolean)) ∈ TBL := tk_5 (List.mem_of_getElem? (i := 52) rfl) rfl
theorem w_1019 : (Jvm.Cond.methodLink "EchoPantryLaw" (275 : Nat) ({ cls := "EchoPantryLaw", name := "isListening", desc := "(LEchoPantry;I)I" } : Jvm.MethodName)) ∈ TBL := tk_5 (List.mem_of_getElem? (i := 59) rfl) rfl
theorem w_1020 : (Jvm.Cond.static ({ cls := "EchoPantryLaw", name := "isListening", desc := "(LEchoPantry;I)I" } : Jvm.MethodName)) ∈ TBL := tk_5 (List.mem_of_getElem? (i := 60) rfl) rfl
theorem w_1026 : (Jvm.Cond.methodLink "EchoPantryLaw" (204 : Nat) ({ cls := "EchoPantryLaw", name := "warmings", desc := "(LEchoPantry;)Z" } : Jvm.MethodName)) ∈ TBL := tk_5 (List.mem_of_getElem? (i := 66) rfl) rfl
theorem w_1027 : (Jvm.Cond.static ({ cls := "EchoPantryLaw", name := "warmings", desc := "(LEchoPantry;)Z" } : Jvm.MethodName)) ∈ TBL := tk_5 (List.mem_of_getElem? (i := 67) rfl) rfl
theorem w_1028 : (Jvm.Cond.code ({ cls := "EchoPantryLaw", name := "warmings", desc := "(LEchoPantry;)Z" } : Jvm.MethodName) method_49_code (5 : Nat) (Option.some Jvm.ClassFile.FieldType.boolean)) ∈ TBL := tk_5 (List.mem_of_getElem? (i := 68) rfl) rfl
theorem w_1029 : (Jvm.Cond.methodLink "EchoPantryLaw" (280 : Nat) ({ cls := "EchoPantry", name := "warmingCount", desc := "()I" } : Jvm.MethodName)) ∈ TBL := tk_5 (List.mem_of_getElem? (i := 69) rfl) rfl
theorem w_1030 : (Jvm.Cond.instanceMethod ({ cls := "EchoPantry", name := "warmingCount", desc := "()I" } : Jvm.MethodName)) ∈ TBL := tk_5 (List.mem_of_getElem? (i := 70) rfl) rfl
theorem w_1031 : (Jvm.Cond.selects "EchoPantry" ({ cls := "EchoPantry", name := "warmingCount", desc := "()I" } : Jvm.MethodName) ({ cls := "EchoPantry", name := "warmingCount", desc := "()I" } : Jvm.MethodName)) ∈ TBL := tk_5 (List.mem_of_getElem? (i := 71) rfl) rfl
theorem w_1032 : (Jvm.Cond.code ({ cls := "EchoPantry", name := "warmingCount", desc := "()I" } : Jvm.MethodName) prog_1_method_33_code (1 : Nat) (Option.some Jvm.ClassFile.FieldType.int)) ∈ TBL := tk_5 (List.mem_of_getElem? (i := 72) rfl) rfl
theorem w_1034 : (Jvm.Cond.methodLink "EchoPantryLaw" (283 : Nat) ({ cls := "EchoPantryLaw", name := "minuteAt", desc := "(LEchoPantry;I)I" } : Jvm.MethodName)) ∈ TBL := tk_5 (List.mem_of_getElem? (i := 74) rfl) rfl
theorem w_1035 : (Jvm.Cond.static ({ cls := "EchoPantryLaw", name := "minuteAt", desc := "(LEchoPantry;I)I" } : Jvm.MethodName)) ∈ TBL := tk_5 (List.mem_of_getElem? (i := 75) rfl) rfl
theorem w_1050 : (Jvm.Cond.methodLink "EchoPantryLaw" (286 : Nat) ({ cls := "EchoPantryLaw", name := "warmedAt", desc := "(LEchoPantry;I)I" } : Jvm.MethodName)) ∈ TBL := tk_5 (List.mem_of_getElem? (i := 90) rfl) rfl
theorem w_1051 : (Jvm.Cond.static ({ cls := "EchoPantryLaw", name := "warmedAt", desc := "(LEchoPantry;I)I" } : Jvm.MethodName)) ∈ TBL := tk_5 (List.mem_of_getElem? (i := 91) rfl) rfl
theorem w_1057 : (Jvm.Cond.methodLink "EchoPantryLaw" (289 : Nat) ({ cls := "EchoPantry", name := "hits", desc := "()I" } : Jvm.MethodName)) ∈ TBL := tk_5 (List.mem_of_getElem? (i := 97) rfl) rfl
theorem w_1058 : (Jvm.Cond.instanceMethod ({ cls := "EchoPantry", name := "hits", desc := "()I" } : Jvm.MethodName)) ∈ TBL := tk_5 (List.mem_of_getElem? (i := 98) rfl) rfl
theorem w_1059 : (Jvm.Cond.selects "EchoPantry" ({ cls := "EchoPantry", name := "hits", desc := "()I" } : Jvm.MethodName) ({ cls := "EchoPantry", name := "hits", desc := "()I" } : Jvm.MethodName)) ∈ TBL := tk_5 (List.mem_of_getElem? (i := 99) rfl) rfl
theorem w_1060 : (Jvm.Cond.code ({ cls := "EchoPantry", name := "hits", desc := "()I" } : Jvm.MethodName) prog_1_method_36_code (1 : Nat) (Option.some Jvm.ClassFile.FieldType.int)) ∈ TBL := tk_5 (List.mem_of_getElem? (i := 100) rfl) rfl
theorem w_1061 : (Jvm.Cond.methodLink "EchoPantryLaw" (292 : Nat) ({ cls := "EchoPantryLaw", name := "misses", desc := "(LEchoPantry;C)I" } : Jvm.MethodName)) ∈ TBL := tk_5 (List.mem_of_getElem? (i := 101) rfl) rfl
theorem w_1062 : (Jvm.Cond.static ({ cls := "EchoPantryLaw", name := "misses", desc := "(LEchoPantry;C)I" } : Jvm.MethodName)) ∈ TBL := tk_5 (List.mem_of_getElem? (i := 102) rfl) rfl
theorem w_1069 : (Jvm.Cond.methodLink "EchoPantryLaw" (294 : Nat) ({ cls := "EchoPantryLaw", name := "byHits", desc := "(LEchoPantry;I)I" } : Jvm.MethodName)) ∈ TBL := tk_5 (List.mem_of_getElem? (i := 109) rfl) rfl
theorem w_1070 : (Jvm.Cond.static ({ cls := "EchoPantryLaw", name := "byHits", desc := "(LEchoPantry;I)I" } : Jvm.MethodName)) ∈ TBL := tk_5 (List.mem_of_getElem? (i := 110) rfl) rfl
theorem w_1081 : (Jvm.Cond.methodLink "EchoPantryLaw" (297 : Nat) ({ cls := "EchoPantry", name := "hitShare", desc := "()F" } : Jvm.MethodName)) ∈ TBL := tk_5 (List.mem_of_getElem? (i := 121) rfl) rfl
theorem w_1082 : (Jvm.Cond.instanceMethod ({ cls := "EchoPantry", name := "hitShare", desc := "()F" } : Jvm.MethodName)) ∈ TBL := tk_5 (List.mem_of_getElem? (i := 122) rfl) rfl
theorem w_1083 : (Jvm.Cond.selects "EchoPantry" ({ cls := "EchoPantry", name := "hitShare", desc := "()F" } : Jvm.MethodName) ({ cls := "EchoPantry", name := "hitShare", desc := "()F" } : Jvm.MethodName)) ∈ TBL := tk_5 (List.mem_of_getElem? (i := 123) rfl) rfl
theorem w_1084 : (Jvm.Cond.code ({ cls := "EchoPantry", name := "hitShare", desc := "()F" } : Jvm.MethodName) prog_1_method_38_code (2 : Nat) (Option.some Jvm.ClassFile.FieldType.float)) ∈ TBL := tk_5 (List.mem_of_getElem? (i := 124) rfl) rfl
theorem w_1086 : (Jvm.Cond.methodLink "EchoPantryLaw" (207 : Nat) ({ cls := "EchoPantryLaw", name := "lines", desc := "(LEchoPantry;)Z" } : Jvm.MethodName)) ∈ TBL := tk_5 (List.mem_of_getElem? (i := 126) rfl) rfl
theorem w_1087 : (Jvm.Cond.static ({ cls := "EchoPantryLaw", name := "lines", desc := "(LEchoPantry;)Z" } : Jvm.MethodName)) ∈ TBL := tk_5 (List.mem_of_getElem? (i := 127) rfl) rfl
theorem w_1088 : (Jvm.Cond.code ({ cls := "EchoPantryLaw", name := "lines", desc := "(LEchoPantry;)Z" } : Jvm.MethodName) method_51_code (5 : Nat) (Option.some Jvm.ClassFile.FieldType.boolean)) ∈ TBL := tk_5 (List.mem_of_getElem? (i := 128) rfl) rfl
theorem w_1090 : (Jvm.Cond.classLink "EchoPantryLaw" (305 : Nat) "java/lang/StringBuilder") ∈ TBL := tk_5 (List.mem_of_getElem? (i := 130) rfl) rfl
theorem w_1091 : (Jvm.Cond.methodLink "EchoPantryLaw" (307 : Nat) ({ cls := "java/lang/StringBuilder", name := "<init>", desc := "()V" } : Jvm.MethodName)) ∈ TBL := tk_5 (List.mem_of_getElem? (i := 131) rfl) rfl
theorem w_1092 : (Jvm.Cond.methodLink "EchoPantryLaw" (308 : Nat) ({ cls := "java/lang/StringBuilder", name := "append", desc := "(Ljava/lang/String;)Ljava/lang/StringBuilder;" } : Jvm.MethodName)) ∈ TBL := tk_5 (List.mem_of_getElem? (i := 132) rfl) rfl
theorem w_1093 : (Jvm.Cond.instanceMethod ({ cls := "java/lang/StringBuilder", name := "append", desc := "(Ljava/lang/String;)Ljava/lang/StringBuilder;" } : Jvm.MethodName)) ∈ TBL := tk_5 (List.mem_of_getElem? (i := 133) rfl) rfl
theorem w_1094 : (Jvm.Cond.selects "java/lang/StringBuilder" ({ cls := "java/lang/StringBuilder", name := "append", desc := "(Ljava/lang/String;)Ljava/lang/StringBuilder;" } : Jvm.MethodName) ({ cls := "java/lang/StringBuilder", name := "append", desc := "(Ljava/lang/String;)Ljava/lang/StringBuilder;" } : Jvm.MethodName)) ∈ TBL := tk_5 (List.mem_of_getElem? (i := 134) rfl) rfl
theorem w_1095 : (Jvm.Cond.code ({ cls := "java/lang/StringBuilder", name := "append", desc := "(Ljava/lang/String;)Ljava/lang/StringBuilder;" } : Jvm.MethodName) prog_29_method_7_code (2 : Nat) (Option.some (Jvm.ClassFile.FieldType.object "java/lang/StringBuilder"))) ∈ TBL := tk_5 (List.mem_of_getElem? (i := 135) rfl) rfl
theorem w_1201 : (Jvm.Cond.methodLink "EchoPantryLaw" (314 : Nat) ({ cls := "java/lang/StringBuilder", name := "append", desc := "(C)Ljava/lang/StringBuilder;" } : Jvm.MethodName)) ∈ TBL := tk_6 (List.mem_of_getElem? (i := 1) rfl) rfl
theorem w_1214 : (Jvm.Cond.methodLink "EchoPantryLaw" (317 : Nat) ({ cls := "java/lang/StringBuilder", name := "append", desc := "(I)Ljava/lang/StringBuilder;" } : Jvm.MethodName)) ∈ TBL := tk_6 (List.mem_of_getElem? (i := 14) rfl) rfl
theorem w_1241 : (Jvm.Cond.methodLink "EchoPantryLaw" (324 : Nat) ({ cls := "java/lang/StringBuilder", name := "toString", desc := "()Ljava/lang/String;" } : Jvm.MethodName)) ∈ TBL := tk_6 (List.mem_of_getElem? (i := 41) rfl) rfl
theorem w_1242 : (Jvm.Cond.instanceMethod ({ cls := "java/lang/StringBuilder", name := "toString", desc := "()Ljava/lang/String;" } : Jvm.MethodName)) ∈ TBL := tk_6 (List.mem_of_getElem? (i := 42) rfl) rfl
theorem w_1243 : (Jvm.Cond.selects "java/lang/StringBuilder" ({ cls := "java/lang/StringBuilder", name := "toString", desc := "()Ljava/lang/String;" } : Jvm.MethodName) ({ cls := "java/lang/StringBuilder", name := "toString", desc := "()Ljava/lang/String;" } : Jvm.MethodName)) ∈ TBL := tk_6 (List.mem_of_getElem? (i := 43) rfl) rfl
theorem w_1244 : (Jvm.Cond.code ({ cls := "java/lang/StringBuilder", name := "toString", desc := "()Ljava/lang/String;" } : Jvm.MethodName) prog_29_method_42_code (1 : Nat) (Option.some (Jvm.ClassFile.FieldType.object "java/lang/String"))) ∈ TBL := tk_6 (List.mem_of_getElem? (i := 44) rfl) rfl
theorem w_1301 : (Jvm.Cond.methodLink "EchoPantryLaw" (328 : Nat) ({ cls := "EchoPantryLaw", name := "writeShelf", desc := "(LEchoPantry;I)I" } : Jvm.MethodName)) ∈ TBL := tk_6 (List.mem_of_getElem? (i := 101) rfl) rfl
theorem w_1302 : (Jvm.Cond.static ({ cls := "EchoPantryLaw", name := "writeShelf", desc := "(LEchoPantry;I)I" } : Jvm.MethodName)) ∈ TBL := tk_6 (List.mem_of_getElem? (i := 102) rfl) rfl
theorem w_1367 : (Jvm.Cond.methodLink "EchoPantryLaw" (330 : Nat) ({ cls := "EchoPantryLaw", name := "spells", desc := "(LEchoPantry;ILjava/lang/String;)Z" } : Jvm.MethodName)) ∈ TBL := tk_6 (List.mem_of_getElem? (i := 167) rfl) rfl
theorem w_1368 : (Jvm.Cond.static ({ cls := "EchoPantryLaw", name := "spells", desc := "(LEchoPantry;ILjava/lang/String;)Z" } : Jvm.MethodName)) ∈ TBL := tk_6 (List.mem_of_getElem? (i := 168) rfl) rfl
theorem w_1369 : (Jvm.Cond.code ({ cls := "EchoPantryLaw", name := "spells", desc := "(LEchoPantry;ILjava/lang/String;)Z" } : Jvm.MethodName) method_50_code (5 : Nat) (Option.some Jvm.ClassFile.FieldType.boolean)) ∈ TBL := tk_6 (List.mem_of_getElem? (i := 169) rfl) rfl
theorem w_1370 : (Jvm.Cond.methodLink "EchoPantryLaw" (148 : Nat) ({ cls := "java/lang/String", name := "length", desc := "()I" } : Jvm.MethodName)) ∈ TBL := tk_6 (List.mem_of_getElem? (i := 170) rfl) rfl
theorem w_1371 : (Jvm.Cond.methodLink "EchoPantryLaw" (301 : Nat) ({ cls := "EchoPantryLaw", name := "lineAt", desc := "(LEchoPantry;I)I" } : Jvm.MethodName)) ∈ TBL := tk_6 (List.mem_of_getElem? (i := 171) rfl) rfl
theorem w_1372 : (Jvm.Cond.static ({ cls := "EchoPantryLaw", name := "lineAt", desc := "(LEchoPantry;I)I" } : Jvm.MethodName)) ∈ TBL := tk_6 (List.mem_of_getElem? (i := 172) rfl) rfl
theorem w_1389 : (Jvm.Cond.methodLink "EchoPantryLaw" (210 : Nat) ({ cls := "EchoPantryLaw", name := "undone", desc := "([ILEchoPantry;)Z" } : Jvm.MethodName)) ∈ TBL := tk_6 (List.mem_of_getElem? (i := 189) rfl) rfl
theorem w_1390 : (Jvm.Cond.static ({ cls := "EchoPantryLaw", name := "undone", desc := "([ILEchoPantry;)Z" } : Jvm.MethodName)) ∈ TBL := tk_6 (List.mem_of_getElem? (i := 190) rfl) rfl
theorem w_1391 : (Jvm.Cond.code ({ cls := "EchoPantryLaw", name := "undone", desc := "([ILEchoPantry;)Z" } : Jvm.MethodName) method_53_code (9 : Nat) (Option.some Jvm.ClassFile.FieldType.boolean)) ∈ TBL := tk_6 (List.mem_of_getElem? (i := 191) rfl) rfl
theorem w_1392 : (Jvm.Cond.methodLink "EchoPantryLaw" (350 : Nat) ({ cls := "EchoPantryLaw", name := "sum", desc := "(LEchoPantry;)J" } : Jvm.MethodName)) ∈ TBL := tk_6 (List.mem_of_getElem? (i := 192) rfl) rfl
theorem w_1393 : (Jvm.Cond.static ({ cls := "EchoPantryLaw", name := "sum", desc := "(LEchoPantry;)J" } : Jvm.MethodName)) ∈ TBL := tk_6 (List.mem_of_getElem? (i := 193) rfl) rfl
theorem w_1394 : (Jvm.Cond.code ({ cls := "EchoPantryLaw", name := "sum", desc := "(LEchoPantry;)J" } : Jvm.MethodName) method_52_code (6 : Nat) (Option.some Jvm.ClassFile.FieldType.long)) ∈ TBL := tk_6 (List.mem_of_getElem? (i := 194) rfl) rfl
theorem w_1395 : (Jvm.Cond.constantLong "EchoPantryLaw" (334 : Nat) (7 : Int64)) ∈ TBL := tk_6 (List.mem_of_getElem? (i := 195) rfl) rfl
theorem w_1396 : (Jvm.Cond.constantLong "EchoPantryLaw" (336 : Nat) (31 : Int64)) ∈ TBL := tk_6 (List.mem_of_getElem? (i := 196) rfl) rfl
theorem w_1397 : (Jvm.Cond.constantLong "EchoPantryLaw" (338 : Nat) (37 : Int64)) ∈ TBL := tk_6 (List.mem_of_getElem? (i := 197) rfl) rfl
theorem w_1398 : (Jvm.Cond.constantLong "EchoPantryLaw" (340 : Nat) (41 : Int64)) ∈ TBL := tk_6 (List.mem_of_getElem? (i := 198) rfl) rfl
theorem w_1399 : (Jvm.Cond.constantLong "EchoPantryLaw" (342 : Nat) (43 : Int64)) ∈ TBL := tk_6 (List.mem_of_getElem? (i := 199) rfl) rfl
theorem w_1400 : (Jvm.Cond.constantLong "EchoPantryLaw" (344 : Nat) (47 : Int64)) ∈ TBL := tk_6 (List.mem_of_getElem? (i := 200) rfl) rfl
theorem w_1401 : (Jvm.Cond.constantLong "EchoPantryLaw" (346 : Nat) (53 : Int64)) ∈ TBL := tk_6 (List.mem_of_getElem? (i := 201) rfl) rfl
theorem w_1402 : (Jvm.Cond.constantLong "EchoPantryLaw" (348 : Nat) (59 : Int64)) ∈ TBL := tk_6 (List.mem_of_getElem? (i := 202) rfl) rfl
theorem w_1403 : (Jvm.Cond.methodLink "EchoPantryLaw" (354 : Nat) ({ cls := "EchoPantryLaw", name := "removeJar", desc := "(LEchoPantry;C)I" } : Jvm.MethodName)) ∈ TBL := tk_6 (List.mem_of_getElem? (i := 203) rfl) rfl
theorem w_1404 : (Jvm.Cond.static ({ cls := "EchoPantryLaw", name := "removeJar", desc := "(LEchoPantry;C)I" } : Jvm.MethodName)) ∈ TBL := tk_6 (List.mem_of_getElem? (i := 204) rfl) rfl
theorem w_1420 : (Jvm.Cond.methodLink "EchoPantryLaw" (358 : Nat) ({ cls := "EchoPantryLaw", name := "cancel", desc := "(LEchoPantry;I)I" } : Jvm.MethodName)) ∈ TBL := tk_6 (List.mem_of_getElem? (i := 220) rfl) rfl
theorem w_1421 : (Jvm.Cond.static ({ cls := "EchoPantryLaw", name := "cancel", desc := "(LEchoPantry;I)I" } : Jvm.MethodName)) ∈ TBL := tk_6 (List.mem_of_getElem? (i := 221) rfl) rfl
theorem w_1434 : (Jvm.Cond.methodLink "EchoPantryLaw" (367 : Nat) ({ cls := "EchoPantryLaw", name := "execute", desc := "(LEchoPantry;Ljava/lang/String;)I" } : Jvm.MethodName)) ∈ TBL := tk_6 (List.mem_of_getElem? (i := 234) rfl) rfl
theorem w_1435 : (Jvm.Cond.static ({ cls := "EchoPantryLaw", name := "execute", desc := "(LEchoPantry;Ljava/lang/String;)I" } : Jvm.MethodName)) ∈ TBL := tk_6 (List.mem_of_getElem? (i := 235) rfl) rfl
theorem w_1436 : (Jvm.Cond.code ({ cls := "EchoPantryLaw", name := "execute", desc := "(LEchoPantry;Ljava/lang/String;)I" } : Jvm.MethodName) method_42_code (3 : Nat) (Option.some Jvm.ClassFile.FieldType.int)) ∈ TBL := tk_6 (List.mem_of_getElem? (i := 236) rfl) rfl
theorem w_1437 : (Jvm.Cond.methodLink "EchoPantryLaw" (156 : Nat) ({ cls := "EchoPantryLaw", name := "type", desc := "(LEchoPantry;C)I" } : Jvm.MethodName)) ∈ TBL := tk_6 (List.mem_of_getElem? (i := 237) rfl) rfl
theorem w_1438 : (Jvm.Cond.static ({ cls := "EchoPantryLaw", name := "type", desc := "(LEchoPantry;C)I" } : Jvm.MethodName)) ∈ TBL := tk_6 (List.mem_of_getElem? (i := 238) rfl) rfl
theorem w_1450 : (Jvm.Cond.methodLink "EchoPantryLaw" (161 : Nat) ({ cls := "EchoPantryLaw", name := "executes", desc := "(LEchoPantry;)I" } : Jvm.MethodName)) ∈ TBL := tk_7 (List.mem_of_getElem? (i := 10) rfl) rfl
theorem w_1451 : (Jvm.Cond.static ({ cls := "EchoPantryLaw", name := "executes", desc := "(LEchoPantry;)I" } : Jvm.MethodName)) ∈ TBL := tk_7 (List.mem_of_getElem? (i := 11) rfl) rfl
theorem w_1543 : (Jvm.Cond.methodLink "EchoPantryLaw" (370 : Nat) ({ cls := "EchoPantryLaw", name := "undo", desc := "(LEchoPantry;)I" } : Jvm.MethodName)) ∈ TBL := tk_7 (List.mem_of_getElem? (i := 103) rfl) rfl
theorem w_1544 : (Jvm.Cond.static ({ cls := "EchoPantryLaw", name := "undo", desc := "(LEchoPantry;)I" } : Jvm.MethodName)) ∈ TBL := tk_7 (List.mem_of_getElem? (i := 104) rfl) rfl
theorem w_1556 : (Jvm.Cond.arrayClass Jvm.ClassFile.FieldType.long) ∈ TBL := tk_7 (List.mem_of_getElem? (i := 116) rfl) rfl
theorem gL_214 : yOk RL 214 0 mX8_jarCount := ⟨w_797, w_800, w_1, ⟨by decide, by decide⟩, by decide +kernel⟩
theorem gL_277 : yOk RL 277 0 mX8_time := ⟨w_928, w_931, w_1, ⟨by decide, by decide⟩, by decide +kernel⟩
theorem gL_148 : yOk RL 148 0 mJ0_length_8abf5 := ⟨w_1370, w_1161, w_12, ⟨by decide, by decide⟩, by decide +kernel⟩
theorem gL_153 : yOk RL 153 1 mJ0_charAt_5068e := ⟨w_560, w_563, w_12, ⟨by decide, by decide⟩, by decide +kernel⟩
theorem gL_221 : yOk RL 221 0 mX8_shelfCount := ⟨w_829, w_832, w_1, ⟨by decide, by decide⟩, by decide +kernel⟩
theorem gL_269 : yOk RL 269 0 mX8_isConsistent := ⟨w_1009, w_1012, w_1, ⟨by decide, by decide⟩, by decide +kernel⟩
theorem gL_265 : yOk RL 265 0 mX8_meanAge := ⟨w_985, w_988, w_1, ⟨by decide, by decide⟩, by decide +kernel⟩
theorem gL_237 : yOk RL 237 3 mL_isEcho := ⟨w_888, w_890, w_0, ⟨by decide, by decide⟩, by decide +kernel⟩
theorem gL_262 : yOk RL 262 3 mL_isFewest := ⟨w_982, w_984, w_0, ⟨by decide, by decide⟩, by decide +kernel⟩
theorem gL_280 : yOk RL 280 0 mX8_warmingCount := ⟨w_1029, w_1032, w_1, ⟨by decide, by decide⟩, by decide +kernel⟩
theorem gL_289 : yOk RL 289 0 mX8_hits := ⟨w_1057, w_1060, w_1, ⟨by decide, by decide⟩, by decide +kernel⟩
theorem gL_297 : yOk RL 297 0 mX8_hitShare := ⟨w_1081, w_1084, w_1, ⟨by decide, by decide⟩, by decide +kernel⟩
theorem gL_193 : yOk RL 193 1 mL_drawn := ⟨w_32, w_34, w_0, ⟨by decide, by decide⟩, by decide +kernel⟩
theorem gL_197 : yOk RL 197 1 mL_jars := ⟨w_794, w_796, w_0, ⟨by decide, by decide⟩, by decide +kernel⟩
theorem gL_201 : yOk RL 201 1 mL_shelves := ⟨w_826, w_828, w_0, ⟨by decide, by decide⟩, by decide +kernel⟩
theorem gL_204 : yOk RL 204 1 mL_warmings := ⟨w_1026, w_1028, w_0, ⟨by decide, by decide⟩, by decide +kernel⟩
theorem gL_207 : yOk RL 207 1 mL_lines := ⟨w_1086, w_1088, w_0, ⟨by decide, by decide⟩, by decide +kernel⟩
theorem gL_210 : yOk RL 210 2 mL_undone := ⟨w_1389, w_1391, w_0, ⟨by decide, by decide⟩, by decide +kernel⟩
theorem gL_165 : yOk RL 165 0 mX8_init := ⟨w_37, w_39, w_1, ⟨by decide, by decide⟩, by decide +kernel⟩
theorem gL_166 : yOk RL 166 2 mL_cell := ⟨w_361, w_363, w_0, ⟨by decide, by decide⟩, by decide +kernel⟩
theorem gL_307 : yOk RL 307 0 mJ4_init_da8c8 := ⟨w_1091, w_307, w_11, ⟨by decide, by decide⟩, by decide +kernel⟩
theorem gL_308 : yOk RL 308 1 mJ4_append_15ec4 := ⟨w_1092, w_1095, w_11, ⟨by decide, by decide⟩, by decide +kernel⟩
theorem gL_314 : yOk RL 314 1 mJ4_append_cf468 := ⟨w_1201, w_1204, w_11, ⟨by decide, by decide⟩, by decide +kernel⟩
theorem gL_317 : yOk RL 317 1 mJ4_append_bf812 := ⟨w_1214, w_1217, w_11, ⟨by decide, by decide⟩, by decide +kernel⟩
theorem gL_324 : yOk RL 324 0 mJ4_toString_0e30d := ⟨w_1241, w_1244, w_11, ⟨by decide, by decide⟩, by decide +kernel⟩
theorem gL_330 : yOk RL 330 3 mL_spells := ⟨w_1367, w_1369, w_0, ⟨by decide, by decide⟩, by decide +kernel⟩
theorem gL_350 : yOk RL 350 1 mL_sum := ⟨w_1392, w_1394, w_0, ⟨by decide, by decide⟩, by decide +kernel⟩
theorem gL_367 : yOk RL 367 2 mL_execute := ⟨w_1434, w_1436, w_0, ⟨by decide, by decide⟩, by decide +kernel⟩
theorem nL_9 : nOk RL 9 8 := ⟨by decide, w_35, w_36, w_1⟩
theorem nL_305 : nOk RL 305 10 := ⟨by decide, w_1090, w_304, w_11⟩
theorem dL_cell_0 : decode mL_cell.2.1 0 = .ok (.iload_n 1, 1) := by decide +kernel
theorem dL_cell_1 : decode mL_cell.2.1 1 = .ok (.aload_n 0, 1) := by decide +kernel
theorem dL_cell_2 : decode mL_cell.2.1 2 = .ok (.arraylength, 1) := by decide +kernel
theorem dL_cell_3 : decode mL_cell.2.1 3 = .ok (.if_icmp .ge 9, 3) := by decide +kernel
theorem dL_cell_6 : decode mL_cell.2.1 6 = .ok (.aload_n 0, 1) := by decide +kernel
theorem dL_cell_7 : decode mL_cell.2.1 7 = .ok (.iload_n 1, 1) := by decide +kernel
theorem dL_cell_8 : decode mL_cell.2.1 8 = .ok (.iaload, 1) := by decide +kernel
theorem dL_cell_9 : decode mL_cell.2.1 9 = .ok (.goto 7, 3) := by decide +kernel
theorem dL_cell_12 : decode mL_cell.2.1 12 = .ok (.ldc 7, 2) := by decide +kernel
theorem dL_cell_14 : decode mL_cell.2.1 14 = .ok (.iload_n 1, 1) := by decide +kernel
theorem dL_cell_15 : decode mL_cell.2.1 15 = .ok (.imul, 1) := by decide +kernel
theorem dL_cell_16 : decode mL_cell.2.1 16 = .ok (.ireturn, 1) := by decide +kernel
theorem dL_execute_0 : decode mL_execute.2.1 0 = .ok (.iconst 0, 1) := by decide +kernel
theorem dL_execute_1 : decode mL_execute.2.1 1 = .ok (.istore_n 2, 1) := by decide +kernel
theorem dL_execute_2 : decode mL_execute.2.1 2 = .ok (.iload_n 2, 1) := by decide +kernel
theorem dL_execute_3 : decode mL_execute.2.1 3 = .ok (.aload_n 1, 1) := by decide +kernel
theorem dL_execute_4 : decode mL_execute.2.1 4 = .ok (.invokevirtual 148, 3) := by decide +kernel
theorem dL_execute_7 : decode mL_execute.2.1 7 = .ok (.if_icmp .ge 27, 3) := by decide +kernel
theorem dL_execute_10 : decode mL_execute.2.1 10 = .ok (.aload_n 0, 1) := by decide +kernel
theorem dL_execute_11 : decode mL_execute.2.1 11 = .ok (.aload_n 1, 1) := by decide +kernel
theorem dL_execute_12 : decode mL_execute.2.1 12 = .ok (.iload_n 2, 1) := by decide +kernel
theorem dL_execute_13 : decode mL_execute.2.1 13 = .ok (.invokevirtual 153, 3) := by decide +kernel
theorem dL_execute_16 : decode mL_execute.2.1 16 = .ok (.invokestatic 156, 3) := by decide +kernel
theorem dL_execute_19 : decode mL_execute.2.1 19 = .ok (.iload_n 2, 1) := by decide +kernel
theorem dL_execute_20 : decode mL_execute.2.1 20 = .ok (.iconst 1, 1) := by decide +kernel
theorem dL_execute_21 : decode mL_execute.2.1 21 = .ok (.iadd, 1) := by decide +kernel
theorem dL_execute_22 : decode mL_execute.2.1 22 = .ok (.if_icmp .eq 6, 3) := by decide +kernel
theorem dL_execute_25 : decode mL_execute.2.1 25 = .ok (.bipush (-9), 2) := by decide +kernel
theorem dL_execute_27 : decode mL_execute.2.1 27 = .ok (.ireturn, 1) := by decide +kernel
theorem dL_execute_28 : decode mL_execute.2.1 28 = .ok (.iinc 2 1, 3) := by decide +kernel
theorem dL_execute_31 : decode mL_execute.2.1 31 = .ok (.goto (-29), 3) := by decide +kernel
theorem dL_execute_34 : decode mL_execute.2.1 34 = .ok (.aload_n 0, 1) := by decide +kernel
theorem dL_execute_35 : decode mL_execute.2.1 35 = .ok (.invokestatic 161, 3) := by decide +kernel
theorem dL_execute_38 : decode mL_execute.2.1 38 = .ok (.ireturn, 1) := by decide +kernel
theorem dL_drawn_0 : decode mL_drawn.2.1 0 = .ok (.new 9, 3) := by decide +kernel
theorem dL_drawn_3 : decode mL_drawn.2.1 3 = .ok (.dup, 1) := by decide +kernel
theorem dL_drawn_4 : decode mL_drawn.2.1 4 = .ok (.invokespecial 165, 3) := by decide +kernel
theorem dL_drawn_7 : decode mL_drawn.2.1 7 = .ok (.astore_n 1, 1) := by decide +kernel
theorem dL_drawn_8 : decode mL_drawn.2.1 8 = .ok (.aload_n 0, 1) := by decide +kernel
theorem dL_drawn_9 : decode mL_drawn.2.1 9 = .ok (.iconst 0, 1) := by decide +kernel
theorem dL_drawn_10 : decode mL_drawn.2.1 10 = .ok (.invokestatic 166, 3) := by decide +kernel
theorem dL_drawn_13 : decode mL_drawn.2.1 13 = .ok (.iconst 1, 1) := by decide +kernel
theorem dL_drawn_14 : decode mL_drawn.2.1 14 = .ok (.iushr, 1) := by decide +kernel
theorem dL_drawn_15 : decode mL_drawn.2.1 15 = .ok (.istore_n 2, 1) := by decide +kernel
theorem dL_drawn_16 : decode mL_drawn.2.1 16 = .ok (.iconst 2, 1) := by decide +kernel
theorem dL_drawn_17 : decode mL_drawn.2.1 17 = .ok (.iload_n 2, 1) := by decide +kernel
theorem dL_drawn_18 : decode mL_drawn.2.1 18 = .ok (.bipush 6, 2) := by decide +kernel
theorem dL_drawn_20 : decode mL_drawn.2.1 20 = .ok (.irem, 1) := by decide +kernel
theorem dL_drawn_21 : decode mL_drawn.2.1 21 = .ok (.iadd, 1) := by decide +kernel
theorem dL_drawn_22 : decode mL_drawn.2.1 22 = .ok (.istore_n 3, 1) := by decide +kernel
theorem dL_drawn_23 : decode mL_drawn.2.1 23 = .ok (.iconst 1, 1) := by decide +kernel
theorem dL_drawn_24 : decode mL_drawn.2.1 24 = .ok (.iload_n 2, 1) := by decide +kernel
theorem dL_drawn_25 : decode mL_drawn.2.1 25 = .ok (.iconst 3, 1) := by decide +kernel
theorem dL_drawn_26 : decode mL_drawn.2.1 26 = .ok (.iushr, 1) := by decide +kernel
theorem dL_drawn_27 : decode mL_drawn.2.1 27 = .ok (.iconst 3, 1) := by decide +kernel
theorem dL_drawn_28 : decode mL_drawn.2.1 28 = .ok (.irem, 1) := by decide +kernel
theorem dL_drawn_29 : decode mL_drawn.2.1 29 = .ok (.iadd, 1) := by decide +kernel
theorem dL_drawn_30 : decode mL_drawn.2.1 30 = .ok (.istore 4, 2) := by decide +kernel
theorem dL_drawn_32 : decode mL_drawn.2.1 32 = .ok (.iconst 0, 1) := by decide +kernel
theorem dL_drawn_33 : decode mL_drawn.2.1 33 = .ok (.istore 5, 2) := by decide +kernel
theorem dL_drawn_35 : decode mL_drawn.2.1 35 = .ok (.iload 5, 2) := by decide +kernel
theorem dL_drawn_37 : decode mL_drawn.2.1 37 = .ok (.iload_n 3, 1) := by decide +kernel
theorem dL_drawn_38 : decode mL_drawn.2.1 38 = .ok (.if_icmp .ge 43, 3) := by decide +kernel
theorem dL_drawn_41 : decode mL_drawn.2.1 41 = .ok (.aload_n 1, 1) := by decide +kernel
theorem dL_drawn_42 : decode mL_drawn.2.1 42 = .ok (.bipush 97, 2) := by decide +kernel
theorem dL_drawn_44 : decode mL_drawn.2.1 44 = .ok (.iconst 3, 1) := by decide +kernel
theorem dL_drawn_45 : decode mL_drawn.2.1 45 = .ok (.iload 5, 2) := by decide +kernel
theorem dL_drawn_47 : decode mL_drawn.2.1 47 = .ok (.imul, 1) := by decide +kernel
theorem dL_drawn_48 : decode mL_drawn.2.1 48 = .ok (.iadd, 1) := by decide +kernel
theorem dL_drawn_49 : decode mL_drawn.2.1 49 = .ok (.i2c, 1) := by decide +kernel
theorem dL_drawn_50 : decode mL_drawn.2.1 50 = .ok (.aload_n 0, 1) := by decide +kernel
theorem dL_drawn_51 : decode mL_drawn.2.1 51 = .ok (.iconst 1, 1) := by decide +kernel
theorem dL_drawn_52 : decode mL_drawn.2.1 52 = .ok (.iload 5, 2) := by decide +kernel
theorem dL_drawn_54 : decode mL_drawn.2.1 54 = .ok (.iadd, 1) := by decide +kernel
theorem dL_drawn_55 : decode mL_drawn.2.1 55 = .ok (.invokestatic 166, 3) := by decide +kernel
theorem dL_drawn_58 : decode mL_drawn.2.1 58 = .ok (.iconst 1, 1) := by decide +kernel
theorem dL_drawn_59 : decode mL_drawn.2.1 59 = .ok (.iushr, 1) := by decide +kernel
theorem dL_drawn_60 : decode mL_drawn.2.1 60 = .ok (.bipush 100, 2) := by decide +kernel
theorem dL_drawn_62 : decode mL_drawn.2.1 62 = .ok (.irem, 1) := by decide +kernel
theorem dL_drawn_63 : decode mL_drawn.2.1 63 = .ok (.invokestatic 170, 3) := by decide +kernel
theorem dL_drawn_66 : decode mL_drawn.2.1 66 = .ok (.iload 5, 2) := by decide +kernel
theorem dL_drawn_68 : decode mL_drawn.2.1 68 = .ok (.iconst 1, 1) := by decide +kernel
theorem dL_drawn_69 : decode mL_drawn.2.1 69 = .ok (.iadd, 1) := by decide +kernel
theorem dL_drawn_70 : decode mL_drawn.2.1 70 = .ok (.if_icmp .eq 5, 3) := by decide +kernel
theorem dL_drawn_73 : decode mL_drawn.2.1 73 = .ok (.aconst_null, 1) := by decide +kernel
theorem dL_drawn_74 : decode mL_drawn.2.1 74 = .ok (.areturn, 1) := by decide +kernel
theorem dL_drawn_75 : decode mL_drawn.2.1 75 = .ok (.iinc 5 1, 3) := by decide +kernel
theorem dL_drawn_78 : decode mL_drawn.2.1 78 = .ok (.goto (-43), 3) := by decide +kernel
theorem dL_drawn_81 : decode mL_drawn.2.1 81 = .ok (.iconst 0, 1) := by decide +kernel
theorem dL_drawn_82 : decode mL_drawn.2.1 82 = .ok (.istore 5, 2) := by decide +kernel
theorem dL_drawn_84 : decode mL_drawn.2.1 84 = .ok (.iload 5, 2) := by decide +kernel
theorem dL_drawn_86 : decode mL_drawn.2.1 86 = .ok (.iload 4, 2) := by decide +kernel
theorem dL_drawn_88 : decode mL_drawn.2.1 88 = .ok (.if_icmp .ge 60, 3) := by decide +kernel
theorem dL_drawn_91 : decode mL_drawn.2.1 91 = .ok (.aload_n 0, 1) := by decide +kernel
theorem dL_drawn_92 : decode mL_drawn.2.1 92 = .ok (.bipush 8, 2) := by decide +kernel
theorem dL_drawn_94 : decode mL_drawn.2.1 94 = .ok (.iload 5, 2) := by decide +kernel
theorem dL_drawn_96 : decode mL_drawn.2.1 96 = .ok (.iadd, 1) := by decide +kernel
theorem dL_drawn_97 : decode mL_drawn.2.1 97 = .ok (.invokestatic 166, 3) := by decide +kernel
theorem dL_drawn_100 : decode mL_drawn.2.1 100 = .ok (.iconst 1, 1) := by decide +kernel
theorem dL_drawn_101 : decode mL_drawn.2.1 101 = .ok (.iushr, 1) := by decide +kernel
theorem dL_drawn_102 : decode mL_drawn.2.1 102 = .ok (.istore 6, 2) := by decide +kernel
theorem dL_drawn_104 : decode mL_drawn.2.1 104 = .ok (.aload_n 1, 1) := by decide +kernel
theorem dL_drawn_105 : decode mL_drawn.2.1 105 = .ok (.iconst 1, 1) := by decide +kernel
theorem dL_drawn_106 : decode mL_drawn.2.1 106 = .ok (.iload 6, 2) := by decide +kernel
theorem dL_drawn_108 : decode mL_drawn.2.1 108 = .ok (.iconst 4, 1) := by decide +kernel
theorem dL_drawn_109 : decode mL_drawn.2.1 109 = .ok (.irem, 1) := by decide +kernel
theorem dL_drawn_110 : decode mL_drawn.2.1 110 = .ok (.iadd, 1) := by decide +kernel
theorem dL_drawn_111 : decode mL_drawn.2.1 111 = .ok (.iconst 1, 1) := by decide +kernel
theorem dL_drawn_112 : decode mL_drawn.2.1 112 = .ok (.iload 6, 2) := by decide +kernel
theorem dL_drawn_114 : decode mL_drawn.2.1 114 = .ok (.iconst 3, 1) := by decide +kernel
theorem dL_drawn_115 : decode mL_drawn.2.1 115 = .ok (.iushr, 1) := by decide +kernel
theorem dL_drawn_116 : decode mL_drawn.2.1 116 = .ok (.bipush 9, 2) := by decide +kernel
theorem dL_drawn_118 : decode mL_drawn.2.1 118 = .ok (.irem, 1) := by decide +kernel
theorem dL_drawn_119 : decode mL_drawn.2.1 119 = .ok (.iadd, 1) := by decide +kernel
theorem dL_drawn_120 : decode mL_drawn.2.1 120 = .ok (.ldc 173, 2) := by decide +kernel
theorem dL_drawn_122 : decode mL_drawn.2.1 122 = .ok (.iload 6, 2) := by decide +kernel
theorem dL_drawn_124 : decode mL_drawn.2.1 124 = .ok (.bipush 7, 2) := by decide +kernel
theorem dL_drawn_126 : decode mL_drawn.2.1 126 = .ok (.iushr, 1) := by decide +kernel
theorem dL_drawn_127 : decode mL_drawn.2.1 127 = .ok (.iconst 3, 1) := by decide +kernel
theorem dL_drawn_128 : decode mL_drawn.2.1 128 = .ok (.irem, 1) := by decide +kernel
theorem dL_drawn_129 : decode mL_drawn.2.1 129 = .ok (.invokevirtual 153, 3) := by decide +kernel
theorem dL_drawn_132 : decode mL_drawn.2.1 132 = .ok (.invokestatic 175, 3) := by decide +kernel
theorem dL_drawn_135 : decode mL_drawn.2.1 135 = .ok (.iload 5, 2) := by decide +kernel
theorem dL_drawn_137 : decode mL_drawn.2.1 137 = .ok (.if_icmp .eq 5, 3) := by decide +kernel
theorem dL_drawn_140 : decode mL_drawn.2.1 140 = .ok (.aconst_null, 1) := by decide +kernel
theorem dL_drawn_141 : decode mL_drawn.2.1 141 = .ok (.areturn, 1) := by decide +kernel
theorem dL_drawn_142 : decode mL_drawn.2.1 142 = .ok (.iinc 5 1, 3) := by decide +kernel
theorem dL_drawn_145 : decode mL_drawn.2.1 145 = .ok (.goto (-61), 3) := by decide +kernel
theorem dL_drawn_148 : decode mL_drawn.2.1 148 = .ok (.iconst 0, 1) := by decide +kernel
theorem dL_drawn_149 : decode mL_drawn.2.1 149 = .ok (.istore 5, 2) := by decide +kernel
theorem dL_drawn_151 : decode mL_drawn.2.1 151 = .ok (.iload 5, 2) := by decide +kernel
theorem dL_drawn_153 : decode mL_drawn.2.1 153 = .ok (.bipush 14, 2) := by decide +kernel
theorem dL_drawn_155 : decode mL_drawn.2.1 155 = .ok (.if_icmp .ge 186, 3) := by decide +kernel
theorem dL_drawn_158 : decode mL_drawn.2.1 158 = .ok (.aload_n 0, 1) := by decide +kernel
theorem dL_drawn_159 : decode mL_drawn.2.1 159 = .ok (.bipush 11, 2) := by decide +kernel
theorem dL_drawn_161 : decode mL_drawn.2.1 161 = .ok (.iload 5, 2) := by decide +kernel
theorem dL_drawn_163 : decode mL_drawn.2.1 163 = .ok (.iadd, 1) := by decide +kernel
theorem dL_drawn_164 : decode mL_drawn.2.1 164 = .ok (.invokestatic 166, 3) := by decide +kernel
theorem dL_drawn_167 : decode mL_drawn.2.1 167 = .ok (.iconst 1, 1) := by decide +kernel
theorem dL_drawn_168 : decode mL_drawn.2.1 168 = .ok (.iushr, 1) := by decide +kernel
theorem dL_drawn_169 : decode mL_drawn.2.1 169 = .ok (.istore 6, 2) := by decide +kernel
theorem dL_drawn_171 : decode mL_drawn.2.1 171 = .ok (.bipush 97, 2) := by decide +kernel
theorem dL_drawn_173 : decode mL_drawn.2.1 173 = .ok (.iconst 3, 1) := by decide +kernel
theorem dL_drawn_174 : decode mL_drawn.2.1 174 = .ok (.iload 6, 2) := by decide +kernel
theorem dL_drawn_176 : decode mL_drawn.2.1 176 = .ok (.iconst 3, 1) := by decide +kernel
theorem dL_drawn_177 : decode mL_drawn.2.1 177 = .ok (.iushr, 1) := by decide +kernel
theorem dL_drawn_178 : decode mL_drawn.2.1 178 = .ok (.iload_n 3, 1) := by decide +kernel
theorem dL_drawn_179 : decode mL_drawn.2.1 179 = .ok (.irem, 1) := by decide +kernel
theorem dL_drawn_180 : decode mL_drawn.2.1 180 = .ok (.imul, 1) := by decide +kernel
theorem dL_drawn_181 : decode mL_drawn.2.1 181 = .ok (.iadd, 1) := by decide +kernel
theorem dL_drawn_182 : decode mL_drawn.2.1 182 = .ok (.i2c, 1) := by decide +kernel
theorem dL_drawn_183 : decode mL_drawn.2.1 183 = .ok (.istore 7, 2) := by decide +kernel
theorem dL_drawn_185 : decode mL_drawn.2.1 185 = .ok (.iload 6, 2) := by decide +kernel
theorem dL_drawn_187 : decode mL_drawn.2.1 187 = .ok (.bipush 6, 2) := by decide +kernel
theorem dL_drawn_189 : decode mL_drawn.2.1 189 = .ok (.iushr, 1) := by decide +kernel
theorem dL_drawn_190 : decode mL_drawn.2.1 190 = .ok (.iload 4, 2) := by decide +kernel
theorem dL_drawn_192 : decode mL_drawn.2.1 192 = .ok (.irem, 1) := by decide +kernel
theorem dL_drawn_193 : decode mL_drawn.2.1 193 = .ok (.istore 8, 2) := by decide +kernel
theorem dL_drawn_195 : decode mL_drawn.2.1 195 = .ok (.iload 6, 2) := by decide +kernel
theorem dL_drawn_197 : decode mL_drawn.2.1 197 = .ok (.bipush 8, 2) := by decide +kernel
theorem dL_drawn_199 : decode mL_drawn.2.1 199 = .ok (.irem, 1) := by decide +kernel
theorem dL_drawn_200 : decode mL_drawn.2.1 200 = .ok (.iconst 4, 1) := by decide +kernel
theorem dL_drawn_201 : decode mL_drawn.2.1 201 = .ok (.if_icmp .ge 14, 3) := by decide +kernel
theorem dL_drawn_204 : decode mL_drawn.2.1 204 = .ok (.aload_n 1, 1) := by decide +kernel
theorem dL_drawn_205 : decode mL_drawn.2.1 205 = .ok (.iload 8, 2) := by decide +kernel
theorem dL_drawn_207 : decode mL_drawn.2.1 207 = .ok (.iload 7, 2) := by decide +kernel
theorem dL_drawn_209 : decode mL_drawn.2.1 209 = .ok (.invokestatic 178, 3) := by decide +kernel
theorem dL_drawn_212 : decode mL_drawn.2.1 212 = .ok (.goto 106, 3) := by decide +kernel
theorem dL_drawn_215 : decode mL_drawn.2.1 215 = .ok (.iload 6, 2) := by decide +kernel
theorem dL_drawn_217 : decode mL_drawn.2.1 217 = .ok (.bipush 8, 2) := by decide +kernel
theorem dL_drawn_219 : decode mL_drawn.2.1 219 = .ok (.irem, 1) := by decide +kernel
theorem dL_drawn_220 : decode mL_drawn.2.1 220 = .ok (.iconst 4, 1) := by decide +kernel
theorem dL_drawn_221 : decode mL_drawn.2.1 221 = .ok (.if_icmp .ne 20, 3) := by decide +kernel
theorem dL_drawn_224 : decode mL_drawn.2.1 224 = .ok (.aload_n 1, 1) := by decide +kernel
theorem dL_drawn_225 : decode mL_drawn.2.1 225 = .ok (.iload 7, 2) := by decide +kernel
theorem dL_drawn_227 : decode mL_drawn.2.1 227 = .ok (.iload 6, 2) := by decide +kernel
theorem dL_drawn_229 : decode mL_drawn.2.1 229 = .ok (.bipush 9, 2) := by decide +kernel
theorem dL_drawn_231 : decode mL_drawn.2.1 231 = .ok (.iushr, 1) := by decide +kernel
theorem dL_drawn_232 : decode mL_drawn.2.1 232 = .ok (.bipush 100, 2) := by decide +kernel
theorem dL_drawn_234 : decode mL_drawn.2.1 234 = .ok (.irem, 1) := by decide +kernel
theorem dL_drawn_235 : decode mL_drawn.2.1 235 = .ok (.invokestatic 181, 3) := by decide +kernel
theorem dL_drawn_238 : decode mL_drawn.2.1 238 = .ok (.goto 80, 3) := by decide +kernel
theorem dL_drawn_241 : decode mL_drawn.2.1 241 = .ok (.iload 6, 2) := by decide +kernel
theorem dL_drawn_243 : decode mL_drawn.2.1 243 = .ok (.bipush 8, 2) := by decide +kernel
theorem dL_drawn_245 : decode mL_drawn.2.1 245 = .ok (.irem, 1) := by decide +kernel
theorem dL_drawn_246 : decode mL_drawn.2.1 246 = .ok (.iconst 5, 1) := by decide +kernel
theorem dL_drawn_247 : decode mL_drawn.2.1 247 = .ok (.if_icmp .ne 24, 3) := by decide +kernel
theorem dL_drawn_250 : decode mL_drawn.2.1 250 = .ok (.aload_n 1, 1) := by decide +kernel
theorem dL_drawn_251 : decode mL_drawn.2.1 251 = .ok (.iload 8, 2) := by decide +kernel
theorem dL_drawn_253 : decode mL_drawn.2.1 253 = .ok (.iload 7, 2) := by decide +kernel
theorem dL_drawn_255 : decode mL_drawn.2.1 255 = .ok (.iconst 1, 1) := by decide +kernel
theorem dL_drawn_256 : decode mL_drawn.2.1 256 = .ok (.iload 6, 2) := by decide +kernel
theorem dL_drawn_258 : decode mL_drawn.2.1 258 = .ok (.bipush 9, 2) := by decide +kernel
theorem dL_drawn_260 : decode mL_drawn.2.1 260 = .ok (.iushr, 1) := by decide +kernel
theorem dL_drawn_261 : decode mL_drawn.2.1 261 = .ok (.bipush 9, 2) := by decide +kernel
theorem dL_drawn_263 : decode mL_drawn.2.1 263 = .ok (.irem, 1) := by decide +kernel
theorem dL_drawn_264 : decode mL_drawn.2.1 264 = .ok (.iadd, 1) := by decide +kernel
theorem dL_drawn_265 : decode mL_drawn.2.1 265 = .ok (.invokestatic 183, 3) := by decide +kernel
theorem dL_drawn_268 : decode mL_drawn.2.1 268 = .ok (.goto 50, 3) := by decide +kernel
theorem dL_drawn_271 : decode mL_drawn.2.1 271 = .ok (.iload 6, 2) := by decide +kernel
theorem dL_drawn_273 : decode mL_drawn.2.1 273 = .ok (.bipush 8, 2) := by decide +kernel
theorem dL_drawn_275 : decode mL_drawn.2.1 275 = .ok (.irem, 1) := by decide +kernel
theorem dL_drawn_276 : decode mL_drawn.2.1 276 = .ok (.bipush 6, 2) := by decide +kernel
theorem dL_drawn_278 : decode mL_drawn.2.1 278 = .ok (.if_icmp .ne 19, 3) := by decide +kernel
theorem dL_drawn_281 : decode mL_drawn.2.1 281 = .ok (.aload_n 1, 1) := by decide +kernel
theorem dL_drawn_282 : decode mL_drawn.2.1 282 = .ok (.iconst 1, 1) := by decide +kernel
theorem dL_drawn_283 : decode mL_drawn.2.1 283 = .ok (.iload 6, 2) := by decide +kernel
theorem dL_drawn_285 : decode mL_drawn.2.1 285 = .ok (.bipush 9, 2) := by decide +kernel
theorem dL_drawn_287 : decode mL_drawn.2.1 287 = .ok (.iushr, 1) := by decide +kernel
theorem dL_drawn_288 : decode mL_drawn.2.1 288 = .ok (.iconst 4, 1) := by decide +kernel
theorem dL_drawn_289 : decode mL_drawn.2.1 289 = .ok (.irem, 1) := by decide +kernel
theorem dL_drawn_290 : decode mL_drawn.2.1 290 = .ok (.iadd, 1) := by decide +kernel
theorem dL_drawn_291 : decode mL_drawn.2.1 291 = .ok (.invokestatic 186, 3) := by decide +kernel
theorem dL_drawn_294 : decode mL_drawn.2.1 294 = .ok (.goto 24, 3) := by decide +kernel
theorem dL_drawn_297 : decode mL_drawn.2.1 297 = .ok (.aload_n 1, 1) := by decide +kernel
theorem dL_drawn_298 : decode mL_drawn.2.1 298 = .ok (.iload 8, 2) := by decide +kernel
theorem dL_drawn_300 : decode mL_drawn.2.1 300 = .ok (.iload 6, 2) := by decide +kernel
theorem dL_drawn_302 : decode mL_drawn.2.1 302 = .ok (.bipush 16, 2) := by decide +kernel
theorem dL_drawn_304 : decode mL_drawn.2.1 304 = .ok (.irem, 1) := by decide +kernel
theorem dL_drawn_305 : decode mL_drawn.2.1 305 = .ok (.bipush 7, 2) := by decide +kernel
theorem dL_drawn_307 : decode mL_drawn.2.1 307 = .ok (.if_icmp .le 7, 3) := by decide +kernel
theorem dL_drawn_310 : decode mL_drawn.2.1 310 = .ok (.iconst 1, 1) := by decide +kernel
theorem dL_drawn_311 : decode mL_drawn.2.1 311 = .ok (.goto 4, 3) := by decide +kernel
theorem dL_drawn_314 : decode mL_drawn.2.1 314 = .ok (.iconst 0, 1) := by decide +kernel
theorem dL_drawn_315 : decode mL_drawn.2.1 315 = .ok (.invokestatic 189, 3) := by decide +kernel
theorem dL_drawn_318 : decode mL_drawn.2.1 318 = .ok (.istore 9, 2) := by decide +kernel
theorem dL_drawn_320 : decode mL_drawn.2.1 320 = .ok (.iload 9, 2) := by decide +kernel
theorem dL_drawn_322 : decode mL_drawn.2.1 322 = .ok (.iconst (-1), 1) := by decide +kernel
theorem dL_drawn_323 : decode mL_drawn.2.1 323 = .ok (.if_icmp .eq 10, 3) := by decide +kernel
theorem dL_drawn_326 : decode mL_drawn.2.1 326 = .ok (.iload 9, 2) := by decide +kernel
theorem dL_drawn_328 : decode mL_drawn.2.1 328 = .ok (.bipush (-2), 2) := by decide +kernel
theorem dL_drawn_330 : decode mL_drawn.2.1 330 = .ok (.if_icmp .ne 5, 3) := by decide +kernel
theorem dL_drawn_333 : decode mL_drawn.2.1 333 = .ok (.aconst_null, 1) := by decide +kernel
theorem dL_drawn_334 : decode mL_drawn.2.1 334 = .ok (.areturn, 1) := by decide +kernel
theorem dL_drawn_335 : decode mL_drawn.2.1 335 = .ok (.iinc 5 1, 3) := by decide +kernel
theorem dL_drawn_338 : decode mL_drawn.2.1 338 = .ok (.goto (-187), 3) := by decide +kernel
theorem dL_drawn_341 : decode mL_drawn.2.1 341 = .ok (.aload_n 1, 1) := by decide +kernel
theorem dL_drawn_342 : decode mL_drawn.2.1 342 = .ok (.areturn, 1) := by decide +kernel
theorem dL_law_0 : decode mL_law.2.1 0 = .ok (.aload_n 0, 1) := by decide +kernel
theorem dL_law_1 : decode mL_law.2.1 1 = .ok (.invokestatic 193, 3) := by decide +kernel
theorem dL_law_4 : decode mL_law.2.1 4 = .ok (.astore_n 1, 1) := by decide +kernel
theorem dL_law_5 : decode mL_law.2.1 5 = .ok (.aload_n 1, 1) := by decide +kernel
theorem dL_law_6 : decode mL_law.2.1 6 = .ok (.ifnull 43, 3) := by decide +kernel
theorem dL_law_9 : decode mL_law.2.1 9 = .ok (.aload_n 1, 1) := by decide +kernel
theorem dL_law_10 : decode mL_law.2.1 10 = .ok (.invokestatic 197, 3) := by decide +kernel
theorem dL_law_13 : decode mL_law.2.1 13 = .ok (.ifCond .eq 36, 3) := by decide +kernel
theorem dL_law_16 : decode mL_law.2.1 16 = .ok (.aload_n 1, 1) := by decide +kernel
theorem dL_law_17 : decode mL_law.2.1 17 = .ok (.invokestatic 201, 3) := by decide +kernel
theorem dL_law_20 : decode mL_law.2.1 20 = .ok (.ifCond .eq 29, 3) := by decide +kernel
theorem dL_law_23 : decode mL_law.2.1 23 = .ok (.aload_n 1, 1) := by decide +kernel
theorem dL_law_24 : decode mL_law.2.1 24 = .ok (.invokestatic 204, 3) := by decide +kernel
theorem dL_law_27 : decode mL_law.2.1 27 = .ok (.ifCond .eq 22, 3) := by decide +kernel
theorem dL_law_30 : decode mL_law.2.1 30 = .ok (.aload_n 1, 1) := by decide +kernel
theorem dL_law_31 : decode mL_law.2.1 31 = .ok (.invokestatic 207, 3) := by decide +kernel
theorem dL_law_34 : decode mL_law.2.1 34 = .ok (.ifCond .eq 15, 3) := by decide +kernel
theorem dL_law_37 : decode mL_law.2.1 37 = .ok (.aload_n 0, 1) := by decide +kernel
theorem dL_law_38 : decode mL_law.2.1 38 = .ok (.aload_n 1, 1) := by decide +kernel
theorem dL_law_39 : decode mL_law.2.1 39 = .ok (.invokestatic 210, 3) := by decide +kernel
theorem dL_law_42 : decode mL_law.2.1 42 = .ok (.ifCond .eq 7, 3) := by decide +kernel
theorem dL_law_45 : decode mL_law.2.1 45 = .ok (.iconst 1, 1) := by decide +kernel
theorem dL_law_46 : decode mL_law.2.1 46 = .ok (.goto 4, 3) := by decide +kernel
theorem dL_law_49 : decode mL_law.2.1 49 = .ok (.iconst 0, 1) := by decide +kernel
theorem dL_law_50 : decode mL_law.2.1 50 = .ok (.ireturn, 1) := by decide +kernel
theorem dL_jars_0 : decode mL_jars.2.1 0 = .ok (.aload_n 0, 1) := by decide +kernel
theorem dL_jars_1 : decode mL_jars.2.1 1 = .ok (.invokevirtual 214, 3) := by decide +kernel
theorem dL_jars_4 : decode mL_jars.2.1 4 = .ok (.istore_n 1, 1) := by decide +kernel
theorem dL_jars_5 : decode mL_jars.2.1 5 = .ok (.iconst 0, 1) := by decide +kernel
theorem dL_jars_6 : decode mL_jars.2.1 6 = .ok (.istore_n 2, 1) := by decide +kernel
theorem dL_jars_7 : decode mL_jars.2.1 7 = .ok (.bipush 97, 2) := by decide +kernel
theorem dL_jars_9 : decode mL_jars.2.1 9 = .ok (.istore_n 3, 1) := by decide +kernel
theorem dL_jars_10 : decode mL_jars.2.1 10 = .ok (.iload_n 3, 1) := by decide +kernel
theorem dL_jars_11 : decode mL_jars.2.1 11 = .ok (.bipush 122, 2) := by decide +kernel
theorem dL_jars_13 : decode mL_jars.2.1 13 = .ok (.if_icmp .gt 55, 3) := by decide +kernel
theorem dL_jars_16 : decode mL_jars.2.1 16 = .ok (.aload_n 0, 1) := by decide +kernel
theorem dL_jars_17 : decode mL_jars.2.1 17 = .ok (.iload_n 3, 1) := by decide +kernel
theorem dL_jars_18 : decode mL_jars.2.1 18 = .ok (.invokestatic 217, 3) := by decide +kernel
theorem dL_jars_21 : decode mL_jars.2.1 21 = .ok (.ifCond .lt 7, 3) := by decide +kernel
theorem dL_jars_24 : decode mL_jars.2.1 24 = .ok (.iconst 1, 1) := by decide +kernel
theorem dL_jars_25 : decode mL_jars.2.1 25 = .ok (.goto 4, 3) := by decide +kernel
theorem dL_jars_28 : decode mL_jars.2.1 28 = .ok (.iconst 0, 1) := by decide +kernel
theorem dL_jars_29 : decode mL_jars.2.1 29 = .ok (.istore 4, 2) := by decide +kernel
theorem dL_jars_31 : decode mL_jars.2.1 31 = .ok (.iload 4, 2) := by decide +kernel
theorem dL_jars_33 : decode mL_jars.2.1 33 = .ok (.ifCond .eq 14, 3) := by decide +kernel
theorem dL_jars_36 : decode mL_jars.2.1 36 = .ok (.aload_n 0, 1) := by decide +kernel
theorem dL_jars_37 : decode mL_jars.2.1 37 = .ok (.iload_n 2, 1) := by decide +kernel
theorem dL_jars_38 : decode mL_jars.2.1 38 = .ok (.invokestatic 219, 3) := by decide +kernel
theorem dL_jars_41 : decode mL_jars.2.1 41 = .ok (.iload_n 3, 1) := by decide +kernel
theorem dL_jars_42 : decode mL_jars.2.1 42 = .ok (.if_icmp .eq 5, 3) := by decide +kernel
theorem dL_jars_45 : decode mL_jars.2.1 45 = .ok (.iconst 0, 1) := by decide +kernel
theorem dL_jars_46 : decode mL_jars.2.1 46 = .ok (.ireturn, 1) := by decide +kernel
theorem dL_jars_47 : decode mL_jars.2.1 47 = .ok (.iload_n 2, 1) := by decide +kernel
theorem dL_jars_48 : decode mL_jars.2.1 48 = .ok (.iload 4, 2) := by decide +kernel
theorem dL_jars_50 : decode mL_jars.2.1 50 = .ok (.ifCond .eq 7, 3) := by decide +kernel
theorem dL_jars_53 : decode mL_jars.2.1 53 = .ok (.iconst 1, 1) := by decide +kernel
theorem dL_jars_54 : decode mL_jars.2.1 54 = .ok (.goto 4, 3) := by decide +kernel
theorem dL_jars_57 : decode mL_jars.2.1 57 = .ok (.iconst 0, 1) := by decide +kernel
theorem dL_jars_58 : decode mL_jars.2.1 58 = .ok (.iadd, 1) := by decide +kernel
theorem dL_jars_59 : decode mL_jars.2.1 59 = .ok (.istore_n 2, 1) := by decide +kernel
theorem dL_jars_60 : decode mL_jars.2.1 60 = .ok (.iload_n 3, 1) := by decide +kernel
theorem dL_jars_61 : decode mL_jars.2.1 61 = .ok (.iconst 1, 1) := by decide +kernel
theorem dL_jars_62 : decode mL_jars.2.1 62 = .ok (.iadd, 1) := by decide +kernel
theorem dL_jars_63 : decode mL_jars.2.1 63 = .ok (.i2c, 1) := by decide +kernel
theorem dL_jars_64 : decode mL_jars.2.1 64 = .ok (.istore_n 3, 1) := by decide +kernel
theorem dL_jars_65 : decode mL_jars.2.1 65 = .ok (.goto (-55), 3) := by decide +kernel
theorem dL_jars_68 : decode mL_jars.2.1 68 = .ok (.iload_n 2, 1) := by decide +kernel
theorem dL_jars_69 : decode mL_jars.2.1 69 = .ok (.iload_n 1, 1) := by decide +kernel
theorem dL_jars_70 : decode mL_jars.2.1 70 = .ok (.if_icmp .ne 49, 3) := by decide +kernel
theorem dL_jars_73 : decode mL_jars.2.1 73 = .ok (.aload_n 0, 1) := by decide +kernel
theorem dL_jars_74 : decode mL_jars.2.1 74 = .ok (.iload_n 1, 1) := by decide +kernel
theorem dL_jars_75 : decode mL_jars.2.1 75 = .ok (.invokestatic 219, 3) := by decide +kernel
theorem dL_jars_78 : decode mL_jars.2.1 78 = .ok (.bipush (-11), 2) := by decide +kernel
theorem dL_jars_80 : decode mL_jars.2.1 80 = .ok (.if_icmp .ne 39, 3) := by decide +kernel
theorem dL_jars_83 : decode mL_jars.2.1 83 = .ok (.aload_n 0, 1) := by decide +kernel
theorem dL_jars_84 : decode mL_jars.2.1 84 = .ok (.iconst (-1), 1) := by decide +kernel
theorem dL_jars_85 : decode mL_jars.2.1 85 = .ok (.invokestatic 219, 3) := by decide +kernel
theorem dL_jars_88 : decode mL_jars.2.1 88 = .ok (.bipush (-11), 2) := by decide +kernel
theorem dL_jars_90 : decode mL_jars.2.1 90 = .ok (.if_icmp .ne 29, 3) := by decide +kernel
theorem dL_jars_93 : decode mL_jars.2.1 93 = .ok (.aload_n 0, 1) := by decide +kernel
theorem dL_jars_94 : decode mL_jars.2.1 94 = .ok (.bipush 65, 2) := by decide +kernel
theorem dL_jars_96 : decode mL_jars.2.1 96 = .ok (.invokestatic 217, 3) := by decide +kernel
theorem dL_jars_99 : decode mL_jars.2.1 99 = .ok (.bipush (-13), 2) := by decide +kernel
theorem dL_jars_101 : decode mL_jars.2.1 101 = .ok (.if_icmp .ne 18, 3) := by decide +kernel
theorem dL_jars_104 : decode mL_jars.2.1 104 = .ok (.aload_n 0, 1) := by decide +kernel
theorem dL_jars_105 : decode mL_jars.2.1 105 = .ok (.bipush 123, 2) := by decide +kernel
theorem dL_jars_107 : decode mL_jars.2.1 107 = .ok (.invokestatic 217, 3) := by decide +kernel
theorem dL_jars_110 : decode mL_jars.2.1 110 = .ok (.bipush (-13), 2) := by decide +kernel
theorem dL_jars_112 : decode mL_jars.2.1 112 = .ok (.if_icmp .ne 7, 3) := by decide +kernel
theorem dL_jars_115 : decode mL_jars.2.1 115 = .ok (.iconst 1, 1) := by decide +kernel
theorem dL_jars_116 : decode mL_jars.2.1 116 = .ok (.goto 4, 3) := by decide +kernel
theorem dL_jars_119 : decode mL_jars.2.1 119 = .ok (.iconst 0, 1) := by decide +kernel
theorem dL_jars_120 : decode mL_jars.2.1 120 = .ok (.ireturn, 1) := by decide +kernel
theorem dL_shelves_0 : decode mL_shelves.2.1 0 = .ok (.aload_n 0, 1) := by decide +kernel
theorem dL_shelves_1 : decode mL_shelves.2.1 1 = .ok (.invokevirtual 221, 3) := by decide +kernel
theorem dL_shelves_4 : decode mL_shelves.2.1 4 = .ok (.istore_n 1, 1) := by decide +kernel
theorem dL_shelves_5 : decode mL_shelves.2.1 5 = .ok (.iconst 0, 1) := by decide +kernel
theorem dL_shelves_6 : decode mL_shelves.2.1 6 = .ok (.istore_n 2, 1) := by decide +kernel
theorem dL_shelves_7 : decode mL_shelves.2.1 7 = .ok (.iconst 0, 1) := by decide +kernel
theorem dL_shelves_8 : decode mL_shelves.2.1 8 = .ok (.istore_n 3, 1) := by decide +kernel
theorem dL_shelves_9 : decode mL_shelves.2.1 9 = .ok (.iconst 0, 1) := by decide +kernel
theorem dL_shelves_10 : decode mL_shelves.2.1 10 = .ok (.istore 4, 2) := by decide +kernel
theorem dL_shelves_12 : decode mL_shelves.2.1 12 = .ok (.iload 4, 2) := by decide +kernel
theorem dL_shelves_14 : decode mL_shelves.2.1 14 = .ok (.iload_n 1, 1) := by decide +kernel
theorem dL_shelves_15 : decode mL_shelves.2.1 15 = .ok (.if_icmp .ge 446, 3) := by decide +kernel
theorem dL_shelves_18 : decode mL_shelves.2.1 18 = .ok (.iconst 0, 1) := by decide +kernel
theorem dL_shelves_19 : decode mL_shelves.2.1 19 = .ok (.istore 5, 2) := by decide +kernel
theorem dL_shelves_21 : decode mL_shelves.2.1 21 = .ok (.bipush 97, 2) := by decide +kernel
theorem dL_shelves_23 : decode mL_shelves.2.1 23 = .ok (.istore 6, 2) := by decide +kernel
theorem dL_shelves_25 : decode mL_shelves.2.1 25 = .ok (.iload 6, 2) := by decide +kernel
theorem dL_shelves_27 : decode mL_shelves.2.1 27 = .ok (.bipush 122, 2) := by decide +kernel
theorem dL_shelves_29 : decode mL_shelves.2.1 29 = .ok (.if_icmp .gt 307, 3) := by decide +kernel
theorem dL_shelves_32 : decode mL_shelves.2.1 32 = .ok (.aload_n 0, 1) := by decide +kernel
theorem dL_shelves_33 : decode mL_shelves.2.1 33 = .ok (.iload 4, 2) := by decide +kernel
theorem dL_shelves_35 : decode mL_shelves.2.1 35 = .ok (.iload 6, 2) := by decide +kernel
theorem dL_shelves_37 : decode mL_shelves.2.1 37 = .ok (.invokestatic 224, 3) := by decide +kernel
theorem dL_shelves_40 : decode mL_shelves.2.1 40 = .ok (.iconst 1, 1) := by decide +kernel
theorem dL_shelves_41 : decode mL_shelves.2.1 41 = .ok (.if_icmp .ne 7, 3) := by decide +kernel
theorem dL_shelves_44 : decode mL_shelves.2.1 44 = .ok (.iconst 1, 1) := by decide +kernel
theorem dL_shelves_45 : decode mL_shelves.2.1 45 = .ok (.goto 4, 3) := by decide +kernel
theorem dL_shelves_48 : decode mL_shelves.2.1 48 = .ok (.iconst 0, 1) := by decide +kernel
theorem dL_shelves_49 : decode mL_shelves.2.1 49 = .ok (.istore 7, 2) := by decide +kernel
theorem dL_shelves_51 : decode mL_shelves.2.1 51 = .ok (.iload 7, 2) := by decide +kernel
theorem dL_shelves_53 : decode mL_shelves.2.1 53 = .ok (.aload_n 0, 1) := by decide +kernel
theorem dL_shelves_54 : decode mL_shelves.2.1 54 = .ok (.iload 4, 2) := by decide +kernel
theorem dL_shelves_56 : decode mL_shelves.2.1 56 = .ok (.iload 6, 2) := by decide +kernel
theorem dL_shelves_58 : decode mL_shelves.2.1 58 = .ok (.invokestatic 226, 3) := by decide +kernel
theorem dL_shelves_61 : decode mL_shelves.2.1 61 = .ok (.ifCond .lt 7, 3) := by decide +kernel
theorem dL_shelves_64 : decode mL_shelves.2.1 64 = .ok (.iconst 1, 1) := by decide +kernel
theorem dL_shelves_65 : decode mL_shelves.2.1 65 = .ok (.goto 4, 3) := by decide +kernel
theorem dL_shelves_68 : decode mL_shelves.2.1 68 = .ok (.iconst 0, 1) := by decide +kernel
theorem dL_shelves_69 : decode mL_shelves.2.1 69 = .ok (.if_icmp .ne 66, 3) := by decide +kernel
theorem dL_shelves_72 : decode mL_shelves.2.1 72 = .ok (.iload 7, 2) := by decide +kernel
theorem dL_shelves_74 : decode mL_shelves.2.1 74 = .ok (.aload_n 0, 1) := by decide +kernel
theorem dL_shelves_75 : decode mL_shelves.2.1 75 = .ok (.iload 4, 2) := by decide +kernel
theorem dL_shelves_77 : decode mL_shelves.2.1 77 = .ok (.iload 6, 2) := by decide +kernel
theorem dL_shelves_79 : decode mL_shelves.2.1 79 = .ok (.invokestatic 228, 3) := by decide +kernel
theorem dL_shelves_82 : decode mL_shelves.2.1 82 = .ok (.ifCond .lt 7, 3) := by decide +kernel
theorem dL_shelves_85 : decode mL_shelves.2.1 85 = .ok (.iconst 1, 1) := by decide +kernel
theorem dL_shelves_86 : decode mL_shelves.2.1 86 = .ok (.goto 4, 3) := by decide +kernel
theorem dL_shelves_89 : decode mL_shelves.2.1 89 = .ok (.iconst 0, 1) := by decide +kernel
theorem dL_shelves_90 : decode mL_shelves.2.1 90 = .ok (.if_icmp .ne 45, 3) := by decide +kernel
theorem dL_shelves_93 : decode mL_shelves.2.1 93 = .ok (.iload 7, 2) := by decide +kernel
theorem dL_shelves_95 : decode mL_shelves.2.1 95 = .ok (.aload_n 0, 1) := by decide +kernel
theorem dL_shelves_96 : decode mL_shelves.2.1 96 = .ok (.iload 4, 2) := by decide +kernel
theorem dL_shelves_98 : decode mL_shelves.2.1 98 = .ok (.iload 6, 2) := by decide +kernel
theorem dL_shelves_100 : decode mL_shelves.2.1 100 = .ok (.invokestatic 230, 3) := by decide +kernel
theorem dL_shelves_103 : decode mL_shelves.2.1 103 = .ok (.ifCond .lt 7, 3) := by decide +kernel
theorem dL_shelves_106 : decode mL_shelves.2.1 106 = .ok (.iconst 1, 1) := by decide +kernel
theorem dL_shelves_107 : decode mL_shelves.2.1 107 = .ok (.goto 4, 3) := by decide +kernel
theorem dL_shelves_110 : decode mL_shelves.2.1 110 = .ok (.iconst 0, 1) := by decide +kernel
theorem dL_shelves_111 : decode mL_shelves.2.1 111 = .ok (.if_icmp .ne 24, 3) := by decide +kernel
theorem dL_shelves_114 : decode mL_shelves.2.1 114 = .ok (.iload 7, 2) := by decide +kernel
theorem dL_shelves_116 : decode mL_shelves.2.1 116 = .ok (.aload_n 0, 1) := by decide +kernel
theorem dL_shelves_117 : decode mL_shelves.2.1 117 = .ok (.iload 4, 2) := by decide +kernel
theorem dL_shelves_119 : decode mL_shelves.2.1 119 = .ok (.iload 6, 2) := by decide +kernel
theorem dL_shelves_121 : decode mL_shelves.2.1 121 = .ok (.invokestatic 232, 3) := by decide +kernel
theorem dL_shelves_124 : decode mL_shelves.2.1 124 = .ok (.ifCond .lt 7, 3) := by decide +kernel
theorem dL_shelves_127 : decode mL_shelves.2.1 127 = .ok (.iconst 1, 1) := by decide +kernel
theorem dL_shelves_128 : decode mL_shelves.2.1 128 = .ok (.goto 4, 3) := by decide +kernel
theorem dL_shelves_131 : decode mL_shelves.2.1 131 = .ok (.iconst 0, 1) := by decide +kernel
theorem dL_shelves_132 : decode mL_shelves.2.1 132 = .ok (.if_icmp .eq 5, 3) := by decide +kernel
theorem dL_shelves_135 : decode mL_shelves.2.1 135 = .ok (.iconst 0, 1) := by decide +kernel
theorem dL_shelves_136 : decode mL_shelves.2.1 136 = .ok (.ireturn, 1) := by decide +kernel
theorem dL_shelves_137 : decode mL_shelves.2.1 137 = .ok (.iload 7, 2) := by decide +kernel
theorem dL_shelves_139 : decode mL_shelves.2.1 139 = .ok (.ifCond .eq 29, 3) := by decide +kernel
theorem dL_shelves_142 : decode mL_shelves.2.1 142 = .ok (.aload_n 0, 1) := by decide +kernel
theorem dL_shelves_143 : decode mL_shelves.2.1 143 = .ok (.iload 4, 2) := by decide +kernel
theorem dL_shelves_145 : decode mL_shelves.2.1 145 = .ok (.iload 5, 2) := by decide +kernel
theorem dL_shelves_147 : decode mL_shelves.2.1 147 = .ok (.invokestatic 234, 3) := by decide +kernel
theorem dL_shelves_150 : decode mL_shelves.2.1 150 = .ok (.iload 6, 2) := by decide +kernel
theorem dL_shelves_152 : decode mL_shelves.2.1 152 = .ok (.if_icmp .ne 14, 3) := by decide +kernel
theorem dL_shelves_155 : decode mL_shelves.2.1 155 = .ok (.aload_n 0, 1) := by decide +kernel
theorem dL_shelves_156 : decode mL_shelves.2.1 156 = .ok (.iload 4, 2) := by decide +kernel
theorem dL_shelves_158 : decode mL_shelves.2.1 158 = .ok (.iload 6, 2) := by decide +kernel
theorem dL_shelves_160 : decode mL_shelves.2.1 160 = .ok (.invokestatic 237, 3) := by decide +kernel
theorem dL_shelves_163 : decode mL_shelves.2.1 163 = .ok (.ifCond .ne 5, 3) := by decide +kernel
theorem dL_shelves_166 : decode mL_shelves.2.1 166 = .ok (.iconst 0, 1) := by decide +kernel
theorem dL_shelves_167 : decode mL_shelves.2.1 167 = .ok (.ireturn, 1) := by decide +kernel
theorem dL_shelves_168 : decode mL_shelves.2.1 168 = .ok (.iload 7, 2) := by decide +kernel
theorem dL_shelves_170 : decode mL_shelves.2.1 170 = .ok (.ifCond .ne 44, 3) := by decide +kernel
theorem dL_shelves_173 : decode mL_shelves.2.1 173 = .ok (.aload_n 0, 1) := by decide +kernel
theorem dL_shelves_174 : decode mL_shelves.2.1 174 = .ok (.iload 4, 2) := by decide +kernel
theorem dL_shelves_176 : decode mL_shelves.2.1 176 = .ok (.iload 6, 2) := by decide +kernel
theorem dL_shelves_178 : decode mL_shelves.2.1 178 = .ok (.invokestatic 241, 3) := by decide +kernel
theorem dL_shelves_181 : decode mL_shelves.2.1 181 = .ok (.bipush (-13), 2) := by decide +kernel
theorem dL_shelves_183 : decode mL_shelves.2.1 183 = .ok (.if_icmp .ne 29, 3) := by decide +kernel
theorem dL_shelves_186 : decode mL_shelves.2.1 186 = .ok (.aload_n 0, 1) := by decide +kernel
theorem dL_shelves_187 : decode mL_shelves.2.1 187 = .ok (.iload 4, 2) := by decide +kernel
theorem dL_shelves_189 : decode mL_shelves.2.1 189 = .ok (.iload 6, 2) := by decide +kernel
theorem dL_shelves_191 : decode mL_shelves.2.1 191 = .ok (.invokestatic 243, 3) := by decide +kernel
theorem dL_shelves_194 : decode mL_shelves.2.1 194 = .ok (.bipush (-13), 2) := by decide +kernel
theorem dL_shelves_196 : decode mL_shelves.2.1 196 = .ok (.if_icmp .ne 16, 3) := by decide +kernel
theorem dL_shelves_199 : decode mL_shelves.2.1 199 = .ok (.aload_n 0, 1) := by decide +kernel
theorem dL_shelves_200 : decode mL_shelves.2.1 200 = .ok (.iload 4, 2) := by decide +kernel
theorem dL_shelves_202 : decode mL_shelves.2.1 202 = .ok (.iload 6, 2) := by decide +kernel
theorem dL_shelves_204 : decode mL_shelves.2.1 204 = .ok (.invokestatic 246, 3) := by decide +kernel
theorem dL_shelves_207 : decode mL_shelves.2.1 207 = .ok (.bipush (-13), 2) := by decide +kernel
theorem dL_shelves_209 : decode mL_shelves.2.1 209 = .ok (.if_icmp .eq 5, 3) := by decide +kernel
theorem dL_shelves_212 : decode mL_shelves.2.1 212 = .ok (.iconst 0, 1) := by decide +kernel
theorem dL_shelves_213 : decode mL_shelves.2.1 213 = .ok (.ireturn, 1) := by decide +kernel
theorem dL_shelves_214 : decode mL_shelves.2.1 214 = .ok (.aload_n 0, 1) := by decide +kernel
theorem dL_shelves_215 : decode mL_shelves.2.1 215 = .ok (.iload 6, 2) := by decide +kernel
theorem dL_shelves_217 : decode mL_shelves.2.1 217 = .ok (.invokestatic 217, 3) := by decide +kernel
theorem dL_shelves_220 : decode mL_shelves.2.1 220 = .ok (.ifCond .ge 8, 3) := by decide +kernel
theorem dL_shelves_223 : decode mL_shelves.2.1 223 = .ok (.bipush (-13), 2) := by decide +kernel
theorem dL_shelves_225 : decode mL_shelves.2.1 225 = .ok (.goto 49, 3) := by decide +kernel
theorem dL_shelves_228 : decode mL_shelves.2.1 228 = .ok (.iload 7, 2) := by decide +kernel
theorem dL_shelves_230 : decode mL_shelves.2.1 230 = .ok (.ifCond .ne 8, 3) := by decide +kernel
theorem dL_shelves_233 : decode mL_shelves.2.1 233 = .ok (.bipush 99, 2) := by decide +kernel
theorem dL_shelves_235 : decode mL_shelves.2.1 235 = .ok (.goto 39, 3) := by decide +kernel
theorem dL_shelves_238 : decode mL_shelves.2.1 238 = .ok (.aload_n 0, 1) := by decide +kernel
theorem dL_shelves_239 : decode mL_shelves.2.1 239 = .ok (.iload 4, 2) := by decide +kernel
theorem dL_shelves_241 : decode mL_shelves.2.1 241 = .ok (.iload 6, 2) := by decide +kernel
theorem dL_shelves_243 : decode mL_shelves.2.1 243 = .ok (.invokestatic 246, 3) := by decide +kernel
theorem dL_shelves_246 : decode mL_shelves.2.1 246 = .ok (.iconst 1, 1) := by decide +kernel
theorem dL_shelves_247 : decode mL_shelves.2.1 247 = .ok (.if_icmp .ne 8, 3) := by decide +kernel
theorem dL_shelves_250 : decode mL_shelves.2.1 250 = .ok (.bipush 101, 2) := by decide +kernel
theorem dL_shelves_252 : decode mL_shelves.2.1 252 = .ok (.goto 22, 3) := by decide +kernel
theorem dL_shelves_255 : decode mL_shelves.2.1 255 = .ok (.aload_n 0, 1) := by decide +kernel
theorem dL_shelves_256 : decode mL_shelves.2.1 256 = .ok (.iload 4, 2) := by decide +kernel
theorem dL_shelves_258 : decode mL_shelves.2.1 258 = .ok (.iload 6, 2) := by decide +kernel
theorem dL_shelves_260 : decode mL_shelves.2.1 260 = .ok (.invokestatic 232, 3) := by decide +kernel
theorem dL_shelves_263 : decode mL_shelves.2.1 263 = .ok (.iconst 1, 1) := by decide +kernel
theorem dL_shelves_264 : decode mL_shelves.2.1 264 = .ok (.if_icmp .ne 8, 3) := by decide +kernel
theorem dL_shelves_267 : decode mL_shelves.2.1 267 = .ok (.bipush 111, 2) := by decide +kernel
theorem dL_shelves_269 : decode mL_shelves.2.1 269 = .ok (.goto 5, 3) := by decide +kernel
theorem dL_shelves_272 : decode mL_shelves.2.1 272 = .ok (.bipush 104, 2) := by decide +kernel
theorem dL_shelves_274 : decode mL_shelves.2.1 274 = .ok (.istore 8, 2) := by decide +kernel
theorem dL_shelves_276 : decode mL_shelves.2.1 276 = .ok (.aload_n 0, 1) := by decide +kernel
theorem dL_shelves_277 : decode mL_shelves.2.1 277 = .ok (.iload 4, 2) := by decide +kernel
theorem dL_shelves_279 : decode mL_shelves.2.1 279 = .ok (.iload 6, 2) := by decide +kernel
theorem dL_shelves_281 : decode mL_shelves.2.1 281 = .ok (.invokestatic 248, 3) := by decide +kernel
theorem dL_shelves_284 : decode mL_shelves.2.1 284 = .ok (.iload 8, 2) := by decide +kernel
theorem dL_shelves_286 : decode mL_shelves.2.1 286 = .ok (.if_icmp .eq 5, 3) := by decide +kernel
theorem dL_shelves_289 : decode mL_shelves.2.1 289 = .ok (.iconst 0, 1) := by decide +kernel
theorem dL_shelves_290 : decode mL_shelves.2.1 290 = .ok (.ireturn, 1) := by decide +kernel
theorem dL_shelves_291 : decode mL_shelves.2.1 291 = .ok (.iload 5, 2) := by decide +kernel
theorem dL_shelves_293 : decode mL_shelves.2.1 293 = .ok (.iload 7, 2) := by decide +kernel
theorem dL_shelves_295 : decode mL_shelves.2.1 295 = .ok (.ifCond .eq 7, 3) := by decide +kernel
theorem dL_shelves_298 : decode mL_shelves.2.1 298 = .ok (.iconst 1, 1) := by decide +kernel
theorem dL_shelves_299 : decode mL_shelves.2.1 299 = .ok (.goto 4, 3) := by decide +kernel
theorem dL_shelves_302 : decode mL_shelves.2.1 302 = .ok (.iconst 0, 1) := by decide +kernel
theorem dL_shelves_303 : decode mL_shelves.2.1 303 = .ok (.iadd, 1) := by decide +kernel
theorem dL_shelves_304 : decode mL_shelves.2.1 304 = .ok (.istore 5, 2) := by decide +kernel
theorem dL_shelves_306 : decode mL_shelves.2.1 306 = .ok (.iload_n 3, 1) := by decide +kernel
theorem dL_shelves_307 : decode mL_shelves.2.1 307 = .ok (.iload 7, 2) := by decide +kernel
theorem dL_shelves_309 : decode mL_shelves.2.1 309 = .ok (.ifCond .eq 14, 3) := by decide +kernel
theorem dL_shelves_312 : decode mL_shelves.2.1 312 = .ok (.aload_n 0, 1) := by decide +kernel
theorem dL_shelves_313 : decode mL_shelves.2.1 313 = .ok (.iload 4, 2) := by decide +kernel
theorem dL_shelves_315 : decode mL_shelves.2.1 315 = .ok (.iload 6, 2) := by decide +kernel
theorem dL_shelves_317 : decode mL_shelves.2.1 317 = .ok (.invokestatic 228, 3) := by decide +kernel
theorem dL_shelves_320 : decode mL_shelves.2.1 320 = .ok (.goto 4, 3) := by decide +kernel
theorem dL_shelves_323 : decode mL_shelves.2.1 323 = .ok (.iconst 0, 1) := by decide +kernel
theorem dL_shelves_324 : decode mL_shelves.2.1 324 = .ok (.iadd, 1) := by decide +kernel
theorem dL_shelves_325 : decode mL_shelves.2.1 325 = .ok (.istore_n 3, 1) := by decide +kernel
theorem dL_shelves_326 : decode mL_shelves.2.1 326 = .ok (.iload 6, 2) := by decide +kernel
theorem dL_shelves_328 : decode mL_shelves.2.1 328 = .ok (.iconst 1, 1) := by decide +kernel
theorem dL_shelves_329 : decode mL_shelves.2.1 329 = .ok (.iadd, 1) := by decide +kernel
theorem dL_shelves_330 : decode mL_shelves.2.1 330 = .ok (.i2c, 1) := by decide +kernel
theorem dL_shelves_331 : decode mL_shelves.2.1 331 = .ok (.istore 6, 2) := by decide +kernel
theorem dL_shelves_333 : decode mL_shelves.2.1 333 = .ok (.goto (-308), 3) := by decide +kernel
theorem dL_shelves_336 : decode mL_shelves.2.1 336 = .ok (.iload_n 2, 1) := by decide +kernel
theorem dL_shelves_337 : decode mL_shelves.2.1 337 = .ok (.iload 5, 2) := by decide +kernel
theorem dL_shelves_339 : decode mL_shelves.2.1 339 = .ok (.iadd, 1) := by decide +kernel
theorem dL_shelves_340 : decode mL_shelves.2.1 340 = .ok (.istore_n 2, 1) := by decide +kernel
theorem dL_shelves_341 : decode mL_shelves.2.1 341 = .ok (.aload_n 0, 1) := by decide +kernel
theorem dL_shelves_342 : decode mL_shelves.2.1 342 = .ok (.iload 4, 2) := by decide +kernel
theorem dL_shelves_344 : decode mL_shelves.2.1 344 = .ok (.invokestatic 251, 3) := by decide +kernel
theorem dL_shelves_347 : decode mL_shelves.2.1 347 = .ok (.istore 6, 2) := by decide +kernel
theorem dL_shelves_349 : decode mL_shelves.2.1 349 = .ok (.aload_n 0, 1) := by decide +kernel
theorem dL_shelves_350 : decode mL_shelves.2.1 350 = .ok (.iload 4, 2) := by decide +kernel
theorem dL_shelves_352 : decode mL_shelves.2.1 352 = .ok (.invokestatic 253, 3) := by decide +kernel
theorem dL_shelves_355 : decode mL_shelves.2.1 355 = .ok (.iload 5, 2) := by decide +kernel
theorem dL_shelves_357 : decode mL_shelves.2.1 357 = .ok (.if_icmp .ne 66, 3) := by decide +kernel
theorem dL_shelves_360 : decode mL_shelves.2.1 360 = .ok (.iload 5, 2) := by decide +kernel
theorem dL_shelves_362 : decode mL_shelves.2.1 362 = .ok (.aload_n 0, 1) := by decide +kernel
theorem dL_shelves_363 : decode mL_shelves.2.1 363 = .ok (.iload 4, 2) := by decide +kernel
theorem dL_shelves_365 : decode mL_shelves.2.1 365 = .ok (.invokestatic 255, 3) := by decide +kernel
theorem dL_shelves_368 : decode mL_shelves.2.1 368 = .ok (.if_icmp .gt 55, 3) := by decide +kernel
theorem dL_shelves_371 : decode mL_shelves.2.1 371 = .ok (.aload_n 0, 1) := by decide +kernel
theorem dL_shelves_372 : decode mL_shelves.2.1 372 = .ok (.iload 4, 2) := by decide +kernel
theorem dL_shelves_374 : decode mL_shelves.2.1 374 = .ok (.invokestatic 257, 3) := by decide +kernel
theorem dL_shelves_377 : decode mL_shelves.2.1 377 = .ok (.iload 6, 2) := by decide +kernel
theorem dL_shelves_379 : decode mL_shelves.2.1 379 = .ok (.if_icmp .ne 44, 3) := by decide +kernel
theorem dL_shelves_382 : decode mL_shelves.2.1 382 = .ok (.iload 5, 2) := by decide +kernel
theorem dL_shelves_384 : decode mL_shelves.2.1 384 = .ok (.ifCond .ne 13, 3) := by decide +kernel
theorem dL_shelves_387 : decode mL_shelves.2.1 387 = .ok (.iload 6, 2) := by decide +kernel
theorem dL_shelves_389 : decode mL_shelves.2.1 389 = .ok (.bipush (-13), 2) := by decide +kernel
theorem dL_shelves_391 : decode mL_shelves.2.1 391 = .ok (.if_icmp .eq 19, 3) := by decide +kernel
theorem dL_shelves_394 : decode mL_shelves.2.1 394 = .ok (.goto 29, 3) := by decide +kernel
theorem dL_shelves_397 : decode mL_shelves.2.1 397 = .ok (.aload_n 0, 1) := by decide +kernel
theorem dL_shelves_398 : decode mL_shelves.2.1 398 = .ok (.iload 4, 2) := by decide +kernel
theorem dL_shelves_400 : decode mL_shelves.2.1 400 = .ok (.iload 6, 2) := by decide +kernel
theorem dL_shelves_402 : decode mL_shelves.2.1 402 = .ok (.i2c, 1) := by decide +kernel
theorem dL_shelves_403 : decode mL_shelves.2.1 403 = .ok (.invokestatic 224, 3) := by decide +kernel
theorem dL_shelves_406 : decode mL_shelves.2.1 406 = .ok (.iconst 1, 1) := by decide +kernel
theorem dL_shelves_407 : decode mL_shelves.2.1 407 = .ok (.if_icmp .ne 16, 3) := by decide +kernel
theorem dL_shelves_410 : decode mL_shelves.2.1 410 = .ok (.aload_n 0, 1) := by decide +kernel
theorem dL_shelves_411 : decode mL_shelves.2.1 411 = .ok (.iload 4, 2) := by decide +kernel
theorem dL_shelves_413 : decode mL_shelves.2.1 413 = .ok (.iload 5, 2) := by decide +kernel
theorem dL_shelves_415 : decode mL_shelves.2.1 415 = .ok (.invokestatic 234, 3) := by decide +kernel
theorem dL_shelves_418 : decode mL_shelves.2.1 418 = .ok (.bipush (-13), 2) := by decide +kernel
theorem dL_shelves_420 : decode mL_shelves.2.1 420 = .ok (.if_icmp .eq 5, 3) := by decide +kernel
theorem dL_shelves_423 : decode mL_shelves.2.1 423 = .ok (.iconst 0, 1) := by decide +kernel
theorem dL_shelves_424 : decode mL_shelves.2.1 424 = .ok (.ireturn, 1) := by decide +kernel
theorem dL_shelves_425 : decode mL_shelves.2.1 425 = .ok (.iload 5, 2) := by decide +kernel
theorem dL_shelves_427 : decode mL_shelves.2.1 427 = .ok (.ifCond .le 28, 3) := by decide +kernel
theorem dL_shelves_430 : decode mL_shelves.2.1 430 = .ok (.aload_n 0, 1) := by decide +kernel
theorem dL_shelves_431 : decode mL_shelves.2.1 431 = .ok (.iload 4, 2) := by decide +kernel
theorem dL_shelves_433 : decode mL_shelves.2.1 433 = .ok (.invokestatic 260, 3) := by decide +kernel
theorem dL_shelves_436 : decode mL_shelves.2.1 436 = .ok (.bipush 108, 2) := by decide +kernel
theorem dL_shelves_438 : decode mL_shelves.2.1 438 = .ok (.if_icmp .ne 17, 3) := by decide +kernel
theorem dL_shelves_441 : decode mL_shelves.2.1 441 = .ok (.aload_n 0, 1) := by decide +kernel
theorem dL_shelves_442 : decode mL_shelves.2.1 442 = .ok (.iload 4, 2) := by decide +kernel
theorem dL_shelves_444 : decode mL_shelves.2.1 444 = .ok (.iload 6, 2) := by decide +kernel
theorem dL_shelves_446 : decode mL_shelves.2.1 446 = .ok (.i2c, 1) := by decide +kernel
theorem dL_shelves_447 : decode mL_shelves.2.1 447 = .ok (.invokestatic 262, 3) := by decide +kernel
theorem dL_shelves_450 : decode mL_shelves.2.1 450 = .ok (.ifCond .ne 5, 3) := by decide +kernel
theorem dL_shelves_453 : decode mL_shelves.2.1 453 = .ok (.iconst 0, 1) := by decide +kernel
theorem dL_shelves_454 : decode mL_shelves.2.1 454 = .ok (.ireturn, 1) := by decide +kernel
theorem dL_shelves_455 : decode mL_shelves.2.1 455 = .ok (.iinc 4 1, 3) := by decide +kernel
theorem dL_shelves_458 : decode mL_shelves.2.1 458 = .ok (.goto (-446), 3) := by decide +kernel
theorem dL_shelves_461 : decode mL_shelves.2.1 461 = .ok (.iload_n 2, 1) := by decide +kernel
theorem dL_shelves_462 : decode mL_shelves.2.1 462 = .ok (.ifCond .eq 16, 3) := by decide +kernel
theorem dL_shelves_465 : decode mL_shelves.2.1 465 = .ok (.aload_n 0, 1) := by decide +kernel
theorem dL_shelves_466 : decode mL_shelves.2.1 466 = .ok (.invokevirtual 265, 3) := by decide +kernel
theorem dL_shelves_469 : decode mL_shelves.2.1 469 = .ok (.iload_n 3, 1) := by decide +kernel
theorem dL_shelves_470 : decode mL_shelves.2.1 470 = .ok (.i2d, 1) := by decide +kernel
theorem dL_shelves_471 : decode mL_shelves.2.1 471 = .ok (.iload_n 2, 1) := by decide +kernel
theorem dL_shelves_472 : decode mL_shelves.2.1 472 = .ok (.i2d, 1) := by decide +kernel
theorem dL_shelves_473 : decode mL_shelves.2.1 473 = .ok (.ddiv, 1) := by decide +kernel
theorem dL_shelves_474 : decode mL_shelves.2.1 474 = .ok (.dcmp .l, 1) := by decide +kernel
theorem dL_shelves_475 : decode mL_shelves.2.1 475 = .ok (.ifCond .ne 7, 3) := by decide +kernel
theorem dL_shelves_478 : decode mL_shelves.2.1 478 = .ok (.iconst 1, 1) := by decide +kernel
theorem dL_shelves_479 : decode mL_shelves.2.1 479 = .ok (.goto 4, 3) := by decide +kernel
theorem dL_shelves_482 : decode mL_shelves.2.1 482 = .ok (.iconst 0, 1) := by decide +kernel
theorem dL_shelves_483 : decode mL_shelves.2.1 483 = .ok (.istore 4, 2) := by decide +kernel
theorem dL_shelves_485 : decode mL_shelves.2.1 485 = .ok (.iload 4, 2) := by decide +kernel
theorem dL_shelves_487 : decode mL_shelves.2.1 487 = .ok (.ifCond .eq 213, 3) := by decide +kernel
theorem dL_shelves_490 : decode mL_shelves.2.1 490 = .ok (.aload_n 0, 1) := by decide +kernel
theorem dL_shelves_491 : decode mL_shelves.2.1 491 = .ok (.invokevirtual 269, 3) := by decide +kernel
theorem dL_shelves_494 : decode mL_shelves.2.1 494 = .ok (.ifCond .eq 206, 3) := by decide +kernel
theorem dL_shelves_497 : decode mL_shelves.2.1 497 = .ok (.aload_n 0, 1) := by decide +kernel
theorem dL_shelves_498 : decode mL_shelves.2.1 498 = .ok (.iload_n 1, 1) := by decide +kernel
theorem dL_shelves_499 : decode mL_shelves.2.1 499 = .ok (.invokestatic 255, 3) := by decide +kernel
theorem dL_shelves_502 : decode mL_shelves.2.1 502 = .ok (.bipush (-11), 2) := by decide +kernel
theorem dL_shelves_504 : decode mL_shelves.2.1 504 = .ok (.if_icmp .ne 196, 3) := by decide +kernel
theorem dL_shelves_507 : decode mL_shelves.2.1 507 = .ok (.aload_n 0, 1) := by decide +kernel
theorem dL_shelves_508 : decode mL_shelves.2.1 508 = .ok (.iload_n 1, 1) := by decide +kernel
theorem dL_shelves_509 : decode mL_shelves.2.1 509 = .ok (.invokestatic 273, 3) := by decide +kernel
theorem dL_shelves_512 : decode mL_shelves.2.1 512 = .ok (.bipush (-11), 2) := by decide +kernel
theorem dL_shelves_514 : decode mL_shelves.2.1 514 = .ok (.if_icmp .ne 186, 3) := by decide +kernel
theorem dL_shelves_517 : decode mL_shelves.2.1 517 = .ok (.aload_n 0, 1) := by decide +kernel
theorem dL_shelves_518 : decode mL_shelves.2.1 518 = .ok (.iload_n 1, 1) := by decide +kernel
theorem dL_shelves_519 : decode mL_shelves.2.1 519 = .ok (.invokestatic 260, 3) := by decide +kernel
theorem dL_shelves_522 : decode mL_shelves.2.1 522 = .ok (.bipush (-11), 2) := by decide +kernel
theorem dL_shelves_524 : decode mL_shelves.2.1 524 = .ok (.if_icmp .ne 176, 3) := by decide +kernel
theorem dL_shelves_527 : decode mL_shelves.2.1 527 = .ok (.aload_n 0, 1) := by decide +kernel
theorem dL_shelves_528 : decode mL_shelves.2.1 528 = .ok (.iconst (-1), 1) := by decide +kernel
theorem dL_shelves_529 : decode mL_shelves.2.1 529 = .ok (.invokestatic 275, 3) := by decide +kernel
theorem dL_shelves_532 : decode mL_shelves.2.1 532 = .ok (.bipush (-11), 2) := by decide +kernel
theorem dL_shelves_534 : decode mL_shelves.2.1 534 = .ok (.if_icmp .ne 166, 3) := by decide +kernel
theorem dL_shelves_537 : decode mL_shelves.2.1 537 = .ok (.aload_n 0, 1) := by decide +kernel
theorem dL_shelves_538 : decode mL_shelves.2.1 538 = .ok (.iload_n 1, 1) := by decide +kernel
theorem dL_shelves_539 : decode mL_shelves.2.1 539 = .ok (.invokestatic 253, 3) := by decide +kernel
theorem dL_shelves_542 : decode mL_shelves.2.1 542 = .ok (.bipush (-11), 2) := by decide +kernel
theorem dL_shelves_544 : decode mL_shelves.2.1 544 = .ok (.if_icmp .ne 156, 3) := by decide +kernel
theorem dL_shelves_547 : decode mL_shelves.2.1 547 = .ok (.aload_n 0, 1) := by decide +kernel
theorem dL_shelves_548 : decode mL_shelves.2.1 548 = .ok (.iload_n 1, 1) := by decide +kernel
theorem dL_shelves_549 : decode mL_shelves.2.1 549 = .ok (.iconst 0, 1) := by decide +kernel
theorem dL_shelves_550 : decode mL_shelves.2.1 550 = .ok (.invokestatic 234, 3) := by decide +kernel
theorem dL_shelves_553 : decode mL_shelves.2.1 553 = .ok (.bipush (-11), 2) := by decide +kernel
theorem dL_shelves_555 : decode mL_shelves.2.1 555 = .ok (.if_icmp .ne 145, 3) := by decide +kernel
theorem dL_shelves_558 : decode mL_shelves.2.1 558 = .ok (.aload_n 0, 1) := by decide +kernel
theorem dL_shelves_559 : decode mL_shelves.2.1 559 = .ok (.iload_n 1, 1) := by decide +kernel
theorem dL_shelves_560 : decode mL_shelves.2.1 560 = .ok (.bipush 97, 2) := by decide +kernel
theorem dL_shelves_562 : decode mL_shelves.2.1 562 = .ok (.invokestatic 224, 3) := by decide +kernel
theorem dL_shelves_565 : decode mL_shelves.2.1 565 = .ok (.bipush (-11), 2) := by decide +kernel
theorem dL_shelves_567 : decode mL_shelves.2.1 567 = .ok (.if_icmp .ne 133, 3) := by decide +kernel
theorem dL_shelves_570 : decode mL_shelves.2.1 570 = .ok (.aload_n 0, 1) := by decide +kernel
theorem dL_shelves_571 : decode mL_shelves.2.1 571 = .ok (.iload_n 1, 1) := by decide +kernel
theorem dL_shelves_572 : decode mL_shelves.2.1 572 = .ok (.bipush 97, 2) := by decide +kernel
theorem dL_shelves_574 : decode mL_shelves.2.1 574 = .ok (.invokestatic 226, 3) := by decide +kernel
theorem dL_shelves_577 : decode mL_shelves.2.1 577 = .ok (.bipush (-11), 2) := by decide +kernel
theorem dL_shelves_579 : decode mL_shelves.2.1 579 = .ok (.if_icmp .ne 121, 3) := by decide +kernel
theorem dL_shelves_582 : decode mL_shelves.2.1 582 = .ok (.aload_n 0, 1) := by decide +kernel
theorem dL_shelves_583 : decode mL_shelves.2.1 583 = .ok (.iload_n 1, 1) := by decide +kernel
theorem dL_shelves_584 : decode mL_shelves.2.1 584 = .ok (.bipush 97, 2) := by decide +kernel
theorem dL_shelves_586 : decode mL_shelves.2.1 586 = .ok (.invokestatic 228, 3) := by decide +kernel
theorem dL_shelves_589 : decode mL_shelves.2.1 589 = .ok (.bipush (-11), 2) := by decide +kernel
theorem dL_shelves_591 : decode mL_shelves.2.1 591 = .ok (.if_icmp .ne 109, 3) := by decide +kernel
theorem dL_shelves_594 : decode mL_shelves.2.1 594 = .ok (.aload_n 0, 1) := by decide +kernel
theorem dL_shelves_595 : decode mL_shelves.2.1 595 = .ok (.iload_n 1, 1) := by decide +kernel
theorem dL_shelves_596 : decode mL_shelves.2.1 596 = .ok (.bipush 97, 2) := by decide +kernel
theorem dL_shelves_598 : decode mL_shelves.2.1 598 = .ok (.invokestatic 230, 3) := by decide +kernel
theorem dL_shelves_601 : decode mL_shelves.2.1 601 = .ok (.bipush (-11), 2) := by decide +kernel
theorem dL_shelves_603 : decode mL_shelves.2.1 603 = .ok (.if_icmp .ne 97, 3) := by decide +kernel
theorem dL_shelves_606 : decode mL_shelves.2.1 606 = .ok (.aload_n 0, 1) := by decide +kernel
theorem dL_shelves_607 : decode mL_shelves.2.1 607 = .ok (.iload_n 1, 1) := by decide +kernel
theorem dL_shelves_608 : decode mL_shelves.2.1 608 = .ok (.bipush 97, 2) := by decide +kernel
theorem dL_shelves_610 : decode mL_shelves.2.1 610 = .ok (.invokestatic 246, 3) := by decide +kernel
theorem dL_shelves_613 : decode mL_shelves.2.1 613 = .ok (.bipush (-11), 2) := by decide +kernel
theorem dL_shelves_615 : decode mL_shelves.2.1 615 = .ok (.if_icmp .ne 85, 3) := by decide +kernel
theorem dL_shelves_618 : decode mL_shelves.2.1 618 = .ok (.aload_n 0, 1) := by decide +kernel
theorem dL_shelves_619 : decode mL_shelves.2.1 619 = .ok (.iload_n 1, 1) := by decide +kernel
theorem dL_shelves_620 : decode mL_shelves.2.1 620 = .ok (.bipush 97, 2) := by decide +kernel
theorem dL_shelves_622 : decode mL_shelves.2.1 622 = .ok (.invokestatic 232, 3) := by decide +kernel
theorem dL_shelves_625 : decode mL_shelves.2.1 625 = .ok (.bipush (-11), 2) := by decide +kernel
theorem dL_shelves_627 : decode mL_shelves.2.1 627 = .ok (.if_icmp .ne 73, 3) := by decide +kernel
theorem dL_shelves_630 : decode mL_shelves.2.1 630 = .ok (.aload_n 0, 1) := by decide +kernel
theorem dL_shelves_631 : decode mL_shelves.2.1 631 = .ok (.iload_n 1, 1) := by decide +kernel
theorem dL_shelves_632 : decode mL_shelves.2.1 632 = .ok (.bipush 97, 2) := by decide +kernel
theorem dL_shelves_634 : decode mL_shelves.2.1 634 = .ok (.invokestatic 241, 3) := by decide +kernel
theorem dL_shelves_637 : decode mL_shelves.2.1 637 = .ok (.bipush (-11), 2) := by decide +kernel
theorem dL_shelves_639 : decode mL_shelves.2.1 639 = .ok (.if_icmp .ne 61, 3) := by decide +kernel
theorem dL_shelves_642 : decode mL_shelves.2.1 642 = .ok (.aload_n 0, 1) := by decide +kernel
theorem dL_shelves_643 : decode mL_shelves.2.1 643 = .ok (.iload_n 1, 1) := by decide +kernel
theorem dL_shelves_644 : decode mL_shelves.2.1 644 = .ok (.bipush 97, 2) := by decide +kernel
theorem dL_shelves_646 : decode mL_shelves.2.1 646 = .ok (.invokestatic 243, 3) := by decide +kernel
theorem dL_shelves_649 : decode mL_shelves.2.1 649 = .ok (.bipush (-11), 2) := by decide +kernel
theorem dL_shelves_651 : decode mL_shelves.2.1 651 = .ok (.if_icmp .ne 49, 3) := by decide +kernel
theorem dL_shelves_654 : decode mL_shelves.2.1 654 = .ok (.aload_n 0, 1) := by decide +kernel
theorem dL_shelves_655 : decode mL_shelves.2.1 655 = .ok (.iload_n 1, 1) := by decide +kernel
theorem dL_shelves_656 : decode mL_shelves.2.1 656 = .ok (.invokestatic 251, 3) := by decide +kernel
theorem dL_shelves_659 : decode mL_shelves.2.1 659 = .ok (.bipush (-11), 2) := by decide +kernel
theorem dL_shelves_661 : decode mL_shelves.2.1 661 = .ok (.if_icmp .ne 39, 3) := by decide +kernel
theorem dL_shelves_664 : decode mL_shelves.2.1 664 = .ok (.aload_n 0, 1) := by decide +kernel
theorem dL_shelves_665 : decode mL_shelves.2.1 665 = .ok (.iload_n 1, 1) := by decide +kernel
theorem dL_shelves_666 : decode mL_shelves.2.1 666 = .ok (.invokestatic 257, 3) := by decide +kernel
theorem dL_shelves_669 : decode mL_shelves.2.1 669 = .ok (.bipush (-11), 2) := by decide +kernel
theorem dL_shelves_671 : decode mL_shelves.2.1 671 = .ok (.if_icmp .ne 29, 3) := by decide +kernel
theorem dL_shelves_674 : decode mL_shelves.2.1 674 = .ok (.aload_n 0, 1) := by decide +kernel
theorem dL_shelves_675 : decode mL_shelves.2.1 675 = .ok (.iload_n 1, 1) := by decide +kernel
theorem dL_shelves_676 : decode mL_shelves.2.1 676 = .ok (.bipush 97, 2) := by decide +kernel
theorem dL_shelves_678 : decode mL_shelves.2.1 678 = .ok (.invokestatic 248, 3) := by decide +kernel
theorem dL_shelves_681 : decode mL_shelves.2.1 681 = .ok (.bipush (-11), 2) := by decide +kernel
theorem dL_shelves_683 : decode mL_shelves.2.1 683 = .ok (.if_icmp .ne 17, 3) := by decide +kernel
theorem dL_shelves_686 : decode mL_shelves.2.1 686 = .ok (.aload_n 0, 1) := by decide +kernel
theorem dL_shelves_687 : decode mL_shelves.2.1 687 = .ok (.iconst 0, 1) := by decide +kernel
theorem dL_shelves_688 : decode mL_shelves.2.1 688 = .ok (.bipush 63, 2) := by decide +kernel
theorem dL_shelves_690 : decode mL_shelves.2.1 690 = .ok (.invokestatic 224, 3) := by decide +kernel
theorem dL_shelves_693 : decode mL_shelves.2.1 693 = .ok (.ifCond .ne 7, 3) := by decide +kernel
theorem dL_shelves_696 : decode mL_shelves.2.1 696 = .ok (.iconst 1, 1) := by decide +kernel
theorem dL_shelves_697 : decode mL_shelves.2.1 697 = .ok (.goto 4, 3) := by decide +kernel
theorem dL_shelves_700 : decode mL_shelves.2.1 700 = .ok (.iconst 0, 1) := by decide +kernel
theorem dL_shelves_701 : decode mL_shelves.2.1 701 = .ok (.ireturn, 1) := by decide +kernel
theorem dL_isEcho_0 : decode mL_isEcho.2.1 0 = .ok (.aload_n 0, 1) := by decide +kernel
theorem dL_isEcho_1 : decode mL_isEcho.2.1 1 = .ok (.iload_n 1, 1) := by decide +kernel
theorem dL_isEcho_2 : decode mL_isEcho.2.1 2 = .ok (.iload_n 2, 1) := by decide +kernel
theorem dL_isEcho_3 : decode mL_isEcho.2.1 3 = .ok (.invokestatic 241, 3) := by decide +kernel
theorem dL_isEcho_6 : decode mL_isEcho.2.1 6 = .ok (.istore_n 3, 1) := by decide +kernel
theorem dL_isEcho_7 : decode mL_isEcho.2.1 7 = .ok (.aload_n 0, 1) := by decide +kernel
theorem dL_isEcho_8 : decode mL_isEcho.2.1 8 = .ok (.iload_n 1, 1) := by decide +kernel
theorem dL_isEcho_9 : decode mL_isEcho.2.1 9 = .ok (.iload_n 2, 1) := by decide +kernel
theorem dL_isEcho_10 : decode mL_isEcho.2.1 10 = .ok (.invokestatic 228, 3) := by decide +kernel
theorem dL_isEcho_13 : decode mL_isEcho.2.1 13 = .ok (.aload_n 0, 1) := by decide +kernel
theorem dL_isEcho_14 : decode mL_isEcho.2.1 14 = .ok (.iload_n 1, 1) := by decide +kernel
theorem dL_isEcho_15 : decode mL_isEcho.2.1 15 = .ok (.invokestatic 273, 3) := by decide +kernel
theorem dL_isEcho_18 : decode mL_isEcho.2.1 18 = .ok (.if_icmp .lt 7, 3) := by decide +kernel
theorem dL_isEcho_21 : decode mL_isEcho.2.1 21 = .ok (.iconst 1, 1) := by decide +kernel
theorem dL_isEcho_22 : decode mL_isEcho.2.1 22 = .ok (.goto 4, 3) := by decide +kernel
theorem dL_isEcho_25 : decode mL_isEcho.2.1 25 = .ok (.iconst 0, 1) := by decide +kernel
theorem dL_isEcho_26 : decode mL_isEcho.2.1 26 = .ok (.istore 4, 2) := by decide +kernel
theorem dL_isEcho_28 : decode mL_isEcho.2.1 28 = .ok (.iload_n 3, 1) := by decide +kernel
theorem dL_isEcho_29 : decode mL_isEcho.2.1 29 = .ok (.aload_n 0, 1) := by decide +kernel
theorem dL_isEcho_30 : decode mL_isEcho.2.1 30 = .ok (.iload_n 1, 1) := by decide +kernel
theorem dL_isEcho_31 : decode mL_isEcho.2.1 31 = .ok (.iload_n 2, 1) := by decide +kernel
theorem dL_isEcho_32 : decode mL_isEcho.2.1 32 = .ok (.invokestatic 243, 3) := by decide +kernel
theorem dL_isEcho_35 : decode mL_isEcho.2.1 35 = .ok (.if_icmp .ne 34, 3) := by decide +kernel
theorem dL_isEcho_38 : decode mL_isEcho.2.1 38 = .ok (.aload_n 0, 1) := by decide +kernel
theorem dL_isEcho_39 : decode mL_isEcho.2.1 39 = .ok (.iload_n 1, 1) := by decide +kernel
theorem dL_isEcho_40 : decode mL_isEcho.2.1 40 = .ok (.iload_n 2, 1) := by decide +kernel
theorem dL_isEcho_41 : decode mL_isEcho.2.1 41 = .ok (.invokestatic 246, 3) := by decide +kernel
theorem dL_isEcho_44 : decode mL_isEcho.2.1 44 = .ok (.iload 4, 2) := by decide +kernel
theorem dL_isEcho_46 : decode mL_isEcho.2.1 46 = .ok (.ifCond .eq 7, 3) := by decide +kernel
theorem dL_isEcho_49 : decode mL_isEcho.2.1 49 = .ok (.iconst 1, 1) := by decide +kernel
theorem dL_isEcho_50 : decode mL_isEcho.2.1 50 = .ok (.goto 4, 3) := by decide +kernel
theorem dL_isEcho_53 : decode mL_isEcho.2.1 53 = .ok (.iconst 0, 1) := by decide +kernel
theorem dL_isEcho_54 : decode mL_isEcho.2.1 54 = .ok (.if_icmp .ne 15, 3) := by decide +kernel
theorem dL_isEcho_57 : decode mL_isEcho.2.1 57 = .ok (.aload_n 0, 1) := by decide +kernel
theorem dL_isEcho_58 : decode mL_isEcho.2.1 58 = .ok (.iload_n 2, 1) := by decide +kernel
theorem dL_isEcho_59 : decode mL_isEcho.2.1 59 = .ok (.invokestatic 217, 3) := by decide +kernel
theorem dL_isEcho_62 : decode mL_isEcho.2.1 62 = .ok (.ifCond .lt 7, 3) := by decide +kernel
theorem dL_isEcho_65 : decode mL_isEcho.2.1 65 = .ok (.iconst 1, 1) := by decide +kernel
theorem dL_isEcho_66 : decode mL_isEcho.2.1 66 = .ok (.goto 4, 3) := by decide +kernel
theorem dL_isEcho_69 : decode mL_isEcho.2.1 69 = .ok (.iconst 0, 1) := by decide +kernel
theorem dL_isEcho_70 : decode mL_isEcho.2.1 70 = .ok (.istore 5, 2) := by decide +kernel
theorem dL_isEcho_72 : decode mL_isEcho.2.1 72 = .ok (.iload 5, 2) := by decide +kernel
theorem dL_isEcho_74 : decode mL_isEcho.2.1 74 = .ok (.ifCond .eq 38, 3) := by decide +kernel
