/-! ===== the JDK: J0_getBytes_840e7, J7_checkLength_df160, J7_copyOfRangeByte_39247, J7_copyOfRange_39247, J5_getValue_6d5f1, J0_init_db425, J0_init_81219, J4_toString_0e30d, J5_inflateIfNeededFor_a7421, J5_putStringAt_47b60, J5_append_cf1ce, J4_append_15ec4 ===== -/
theorem w_324 : (Jvm.Cond.fieldLink "java/lang/String" (1048 : Nat) "java/lang/AbstractStringBuilder" "maybeLatin1" "Z") ∈ TBL := tk_2 (List.mem_of_getElem? (i := 84) rfl) rfl
theorem w_641 : (Jvm.Cond.instantiable "java/lang/String" (4 : Nat)) ∈ TBL := tk_3 (List.mem_of_getElem? (i := 161) rfl) rfl
theorem w_1096 : (Jvm.Cond.methodLink "java/lang/StringBuilder" (29 : Nat) ({ cls := "java/lang/AbstractStringBuilder", name := "append", desc := "(Ljava/lang/String;)Ljava/lang/AbstractStringBuilder;" } : Jvm.MethodName)) ∈ TBL := tk_5 (List.mem_of_getElem? (i := 136) rfl) rfl
theorem w_1097 : (Jvm.Cond.instanceMethod ({ cls := "java/lang/AbstractStringBuilder", name := "append", desc := "(Ljava/lang/String;)Ljava/lang/AbstractStringBuilder;" } : Jvm.MethodName)) ∈ TBL := tk_5 (List.mem_of_getElem? (i := 137) rfl) rfl
theorem w_1098 : (Jvm.Cond.code ({ cls := "java/lang/AbstractStringBuilder", name := "append", desc := "(Ljava/lang/String;)Ljava/lang/AbstractStringBuilder;" } : Jvm.MethodName) prog_13_method_22_code (3 : Nat) (Option.some (Jvm.ClassFile.FieldType.object "java/lang/AbstractStringBuilder"))) ∈ TBL := tk_5 (List.mem_of_getElem? (i := 138) rfl) rfl
theorem w_1125 : (Jvm.Cond.methodLink "java/util/Arrays" (310 : Nat) ({ cls := "[B", name := "clone", desc := "()Ljava/lang/Object;" } : Jvm.MethodName)) ∈ TBL := tk_5 (List.mem_of_getElem? (i := 165) rfl) rfl
theorem w_1126 : (Jvm.Cond.sameMethod "[B" "java/lang/Object" "clone" "()Ljava/lang/Object;") ∈ TBL := tk_5 (List.mem_of_getElem? (i := 166) rfl) rfl
theorem w_1127 : (Jvm.Cond.native ({ cls := "java/lang/Object", name := "clone", desc := "()Ljava/lang/Object;" } : Jvm.MethodName)) ∈ TBL := tk_5 (List.mem_of_getElem? (i := 167) rfl) rfl
theorem w_1128 : (Jvm.Cond.instanceMethod ({ cls := "java/lang/Object", name := "clone", desc := "()Ljava/lang/Object;" } : Jvm.MethodName)) ∈ TBL := tk_5 (List.mem_of_getElem? (i := 168) rfl) rfl
theorem w_1129 : (Jvm.Cond.selects "[B" ({ cls := "[B", name := "clone", desc := "()Ljava/lang/Object;" } : Jvm.MethodName) ({ cls := "java/lang/Object", name := "clone", desc := "()Ljava/lang/Object;" } : Jvm.MethodName)) ∈ TBL := tk_5 (List.mem_of_getElem? (i := 169) rfl) rfl
theorem w_1131 : (Jvm.Cond.classLink "java/util/Arrays" (311 : Nat) "[B") ∈ TBL := tk_5 (List.mem_of_getElem? (i := 171) rfl) rfl
theorem w_1158 : (Jvm.Cond.methodLink "java/lang/AbstractStringBuilder" (32 : Nat) ({ cls := "java/lang/String", name := "length", desc := "()I" } : Jvm.MethodName)) ∈ TBL := tk_5 (List.mem_of_getElem? (i := 198) rfl) rfl
theorem w_1166 : (Jvm.Cond.methodLink "java/lang/AbstractStringBuilder" (208 : Nat) ({ cls := "java/lang/AbstractStringBuilder", name := "putStringAt", desc := "(ILjava/lang/String;)V" } : Jvm.MethodName)) ∈ TBL := tk_5 (List.mem_of_getElem? (i := 206) rfl) rfl
theorem w_1168 : (Jvm.Cond.instanceMethod ({ cls := "java/lang/AbstractStringBuilder", name := "putStringAt", desc := "(ILjava/lang/String;)V" } : Jvm.MethodName)) ∈ TBL := tk_5 (List.mem_of_getElem? (i := 208) rfl) rfl
theorem w_1169 : (Jvm.Cond.code ({ cls := "java/lang/AbstractStringBuilder", name := "putStringAt", desc := "(ILjava/lang/String;)V" } : Jvm.MethodName) prog_13_method_73_code (3 : Nat) (Option.none : Option Jvm.ClassFile.FieldType)) ∈ TBL := tk_5 (List.mem_of_getElem? (i := 209) rfl) rfl
theorem w_1170 : (Jvm.Cond.methodLink "java/lang/AbstractStringBuilder" (397 : Nat) ({ cls := "java/lang/AbstractStringBuilder", name := "inflateIfNeededFor", desc := "(Ljava/lang/String;)V" } : Jvm.MethodName)) ∈ TBL := tk_5 (List.mem_of_getElem? (i := 210) rfl) rfl
theorem w_1172 : (Jvm.Cond.instanceMethod ({ cls := "java/lang/AbstractStringBuilder", name := "inflateIfNeededFor", desc := "(Ljava/lang/String;)V" } : Jvm.MethodName)) ∈ TBL := tk_5 (List.mem_of_getElem? (i := 212) rfl) rfl
theorem w_1173 : (Jvm.Cond.code ({ cls := "java/lang/AbstractStringBuilder", name := "inflateIfNeededFor", desc := "(Ljava/lang/String;)V" } : Jvm.MethodName) prog_13_method_71_code (2 : Nat) (Option.none : Option Jvm.ClassFile.FieldType)) ∈ TBL := tk_5 (List.mem_of_getElem? (i := 213) rfl) rfl
theorem w_1174 : (Jvm.Cond.methodLink "java/lang/AbstractStringBuilder" (40 : Nat) ({ cls := "java/lang/String", name := "coder", desc := "()B" } : Jvm.MethodName)) ∈ TBL := tk_5 (List.mem_of_getElem? (i := 214) rfl) rfl
theorem w_1194 : (Jvm.Cond.methodLink "java/lang/AbstractStringBuilder" (399 : Nat) ({ cls := "java/lang/String", name := "getBytes", desc := "([BIB)V" } : Jvm.MethodName)) ∈ TBL := tk_5 (List.mem_of_getElem? (i := 234) rfl) rfl
theorem w_1195 : (Jvm.Cond.instanceMethod ({ cls := "java/lang/String", name := "getBytes", desc := "([BIB)V" } : Jvm.MethodName)) ∈ TBL := tk_5 (List.mem_of_getElem? (i := 235) rfl) rfl
theorem w_1196 : (Jvm.Cond.selects "java/lang/String" ({ cls := "java/lang/String", name := "getBytes", desc := "([BIB)V" } : Jvm.MethodName) ({ cls := "java/lang/String", name := "getBytes", desc := "([BIB)V" } : Jvm.MethodName)) ∈ TBL := tk_5 (List.mem_of_getElem? (i := 236) rfl) rfl
theorem w_1197 : (Jvm.Cond.code ({ cls := "java/lang/String", name := "getBytes", desc := "([BIB)V" } : Jvm.MethodName) prog_28_method_147_code (4 : Nat) (Option.none : Option Jvm.ClassFile.FieldType)) ∈ TBL := tk_5 (List.mem_of_getElem? (i := 237) rfl) rfl
theorem w_1198 : (Jvm.Cond.methodLink "java/lang/String" (212 : Nat) ({ cls := "java/lang/System", name := "arraycopy", desc := "(Ljava/lang/Object;ILjava/lang/Object;II)V" } : Jvm.MethodName)) ∈ TBL := tk_5 (List.mem_of_getElem? (i := 238) rfl) rfl
theorem w_1245 : (Jvm.Cond.classLink "java/lang/StringBuilder" (18 : Nat) "java/lang/String") ∈ TBL := tk_6 (List.mem_of_getElem? (i := 45) rfl) rfl
theorem w_1246 : (Jvm.Cond.methodLink "java/lang/StringBuilder" (137 : Nat) ({ cls := "java/lang/String", name := "<init>", desc := "(Ljava/lang/StringBuilder;)V" } : Jvm.MethodName)) ∈ TBL := tk_6 (List.mem_of_getElem? (i := 46) rfl) rfl
theorem w_1247 : (Jvm.Cond.instanceMethod ({ cls := "java/lang/String", name := "<init>", desc := "(Ljava/lang/StringBuilder;)V" } : Jvm.MethodName)) ∈ TBL := tk_6 (List.mem_of_getElem? (i := 47) rfl) rfl
theorem w_1248 : (Jvm.Cond.code ({ cls := "java/lang/String", name := "<init>", desc := "(Ljava/lang/StringBuilder;)V" } : Jvm.MethodName) prog_28_method_53_code (2 : Nat) (Option.none : Option Jvm.ClassFile.FieldType)) ∈ TBL := tk_6 (List.mem_of_getElem? (i := 48) rfl) rfl
theorem w_1249 : (Jvm.Cond.methodLink "java/lang/String" (489 : Nat) ({ cls := "java/lang/String", name := "<init>", desc := "(Ljava/lang/AbstractStringBuilder;Ljava/lang/Void;)V" } : Jvm.MethodName)) ∈ TBL := tk_6 (List.mem_of_getElem? (i := 49) rfl) rfl
theorem w_1250 : (Jvm.Cond.instanceMethod ({ cls := "java/lang/String", name := "<init>", desc := "(Ljava/lang/AbstractStringBuilder;Ljava/lang/Void;)V" } : Jvm.MethodName)) ∈ TBL := tk_6 (List.mem_of_getElem? (i := 50) rfl) rfl
theorem w_1251 : (Jvm.Cond.code ({ cls := "java/lang/String", name := "<init>", desc := "(Ljava/lang/AbstractStringBuilder;Ljava/lang/Void;)V" } : Jvm.MethodName) prog_28_method_150_code (5 : Nat) (Option.none : Option Jvm.ClassFile.FieldType)) ∈ TBL := tk_6 (List.mem_of_getElem? (i := 51) rfl) rfl
theorem w_1252 : (Jvm.Cond.methodLink "java/lang/String" (1 : Nat) ({ cls := "java/lang/Object", name := "<init>", desc := "()V" } : Jvm.MethodName)) ∈ TBL := tk_6 (List.mem_of_getElem? (i := 52) rfl) rfl
theorem w_1253 : (Jvm.Cond.methodLink "java/lang/String" (552 : Nat) ({ cls := "java/lang/AbstractStringBuilder", name := "getValue", desc := "()[B" } : Jvm.MethodName)) ∈ TBL := tk_6 (List.mem_of_getElem? (i := 53) rfl) rfl
theorem w_1254 : (Jvm.Cond.instanceMethod ({ cls := "java/lang/AbstractStringBuilder", name := "getValue", desc := "()[B" } : Jvm.MethodName)) ∈ TBL := tk_6 (List.mem_of_getElem? (i := 54) rfl) rfl
theorem w_1256 : (Jvm.Cond.selects "java/lang/StringBuilder" ({ cls := "java/lang/AbstractStringBuilder", name := "getValue", desc := "()[B" } : Jvm.MethodName) ({ cls := "java/lang/AbstractStringBuilder", name := "getValue", desc := "()[B" } : Jvm.MethodName)) ∈ TBL := tk_6 (List.mem_of_getElem? (i := 56) rfl) rfl
theorem w_1257 : (Jvm.Cond.code ({ cls := "java/lang/AbstractStringBuilder", name := "getValue", desc := "()[B" } : Jvm.MethodName) prog_13_method_64_code (1 : Nat) (Option.some (Jvm.ClassFile.FieldType.array Jvm.ClassFile.FieldType.byte))) ∈ TBL := tk_6 (List.mem_of_getElem? (i := 57) rfl) rfl
theorem w_1258 : (Jvm.Cond.methodLink "java/lang/String" (549 : Nat) ({ cls := "java/lang/AbstractStringBuilder", name := "length", desc := "()I" } : Jvm.MethodName)) ∈ TBL := tk_6 (List.mem_of_getElem? (i := 58) rfl) rfl
theorem w_1261 : (Jvm.Cond.selects "java/lang/StringBuilder" ({ cls := "java/lang/AbstractStringBuilder", name := "length", desc := "()I" } : Jvm.MethodName) ({ cls := "java/lang/StringBuilder", name := "length", desc := "()I" } : Jvm.MethodName)) ∈ TBL := tk_6 (List.mem_of_getElem? (i := 61) rfl) rfl
theorem w_1266 : (Jvm.Cond.methodLink "java/lang/String" (1047 : Nat) ({ cls := "java/lang/AbstractStringBuilder", name := "isLatin1", desc := "()Z" } : Jvm.MethodName)) ∈ TBL := tk_6 (List.mem_of_getElem? (i := 66) rfl) rfl
theorem w_1267 : (Jvm.Cond.methodLink "java/lang/String" (54 : Nat) ({ cls := "java/util/Arrays", name := "copyOfRange", desc := "([BII)[B" } : Jvm.MethodName)) ∈ TBL := tk_6 (List.mem_of_getElem? (i := 67) rfl) rfl
theorem w_1268 : (Jvm.Cond.static ({ cls := "java/util/Arrays", name := "copyOfRange", desc := "([BII)[B" } : Jvm.MethodName)) ∈ TBL := tk_6 (List.mem_of_getElem? (i := 68) rfl) rfl
theorem w_1269 : (Jvm.Cond.code ({ cls := "java/util/Arrays", name := "copyOfRange", desc := "([BII)[B" } : Jvm.MethodName) prog_37_method_132_code (3 : Nat) (Option.some (Jvm.ClassFile.FieldType.array Jvm.ClassFile.FieldType.byte))) ∈ TBL := tk_6 (List.mem_of_getElem? (i := 69) rfl) rfl
theorem w_1270 : (Jvm.Cond.methodLink "java/util/Arrays" (339 : Nat) ({ cls := "java/util/Arrays", name := "copyOfRangeByte", desc := "([BII)[B" } : Jvm.MethodName)) ∈ TBL := tk_6 (List.mem_of_getElem? (i := 70) rfl) rfl
theorem w_1271 : (Jvm.Cond.static ({ cls := "java/util/Arrays", name := "copyOfRangeByte", desc := "([BII)[B" } : Jvm.MethodName)) ∈ TBL := tk_6 (List.mem_of_getElem? (i := 71) rfl) rfl
theorem w_1272 : (Jvm.Cond.code ({ cls := "java/util/Arrays", name := "copyOfRangeByte", desc := "([BII)[B" } : Jvm.MethodName) prog_37_method_133_code (5 : Nat) (Option.some (Jvm.ClassFile.FieldType.array Jvm.ClassFile.FieldType.byte))) ∈ TBL := tk_6 (List.mem_of_getElem? (i := 72) rfl) rfl
theorem w_1273 : (Jvm.Cond.methodLink "java/util/Arrays" (343 : Nat) ({ cls := "java/util/Arrays", name := "checkLength", desc := "(II)V" } : Jvm.MethodName)) ∈ TBL := tk_6 (List.mem_of_getElem? (i := 73) rfl) rfl
theorem w_1274 : (Jvm.Cond.static ({ cls := "java/util/Arrays", name := "checkLength", desc := "(II)V" } : Jvm.MethodName)) ∈ TBL := tk_6 (List.mem_of_getElem? (i := 74) rfl) rfl
theorem w_1275 : (Jvm.Cond.code ({ cls := "java/util/Arrays", name := "checkLength", desc := "(II)V" } : Jvm.MethodName) prog_37_method_131_code (2 : Nat) (Option.none : Option Jvm.ClassFile.FieldType)) ∈ TBL := tk_6 (List.mem_of_getElem? (i := 75) rfl) rfl
theorem w_1558 : (Jvm.Cond.sameMethod "java/lang/AbstractStringBuilder" "java/lang/AbstractStringBuilder" "append" "(Ljava/lang/String;)Ljava/lang/AbstractStringBuilder;") ∈ TBL := tk_7 (List.mem_of_getElem? (i := 118) rfl) rfl
theorem w_1562 : (Jvm.Cond.sameMethod "java/lang/AbstractStringBuilder" "java/lang/AbstractStringBuilder" "putStringAt" "(ILjava/lang/String;)V") ∈ TBL := tk_7 (List.mem_of_getElem? (i := 122) rfl) rfl
theorem w_1563 : (Jvm.Cond.sameMethod "java/lang/AbstractStringBuilder" "java/lang/AbstractStringBuilder" "inflateIfNeededFor" "(Ljava/lang/String;)V") ∈ TBL := tk_7 (List.mem_of_getElem? (i := 123) rfl) rfl
theorem fJ0_9 : fOk RJ0 9 9 0 := ⟨by decide, by decide, w_1294⟩
theorem fJ0_15 : fOk RJ0 15 9 1 := ⟨by decide, by decide, w_1295⟩
theorem fJ0_1048 : fOk RJ0 1048 10 2 := ⟨by decide, by decide, w_324⟩
theorem gJ7_343 : yOk RJ7 343 2 mJ7_checkLength_df160 := ⟨w_1273, w_1275, w_27, ⟨by decide, by decide⟩, by decide +kernel⟩
theorem gJ7_339 : yOk RJ7 339 3 mJ7_copyOfRangeByte_39247 := ⟨w_1270, w_1272, w_27, ⟨by decide, by decide⟩, by decide +kernel⟩
theorem gJ0_552 : yOk RJ0 552 0 mJ5_getValue_6d5f1 := ⟨w_1253, w_1257, w_10, ⟨by decide, by decide⟩, by decide +kernel⟩
theorem gJ0_549 : yOk RJ0 549 0 mJ5_length_8abf5 := ⟨w_1258, w_1265, w_10, ⟨by decide, by decide⟩, by decide +kernel⟩
theorem gJ0_1047 : yOk RJ0 1047 0 mJ5_isLatin1_aae02 := ⟨w_1266, w_1142, w_10, ⟨by decide, by decide⟩, by decide +kernel⟩
theorem gJ0_54 : yOk RJ0 54 3 mJ7_copyOfRange_39247 := ⟨w_1267, w_1269, w_27, ⟨by decide, by decide⟩, by decide +kernel⟩
theorem gJ0_489 : yOk RJ0 489 2 mJ0_init_db425 := ⟨w_1249, w_1251, w_12, ⟨by decide, by decide⟩, by decide +kernel⟩
theorem gJ4_137 : yOk RJ4 137 1 mJ0_init_81219 := ⟨w_1246, w_1248, w_12, ⟨by decide, by decide⟩, by decide +kernel⟩
theorem gJ5_40 : yOk RJ5 40 0 mJ0_coder_7d493 := ⟨w_1174, w_1165, w_12, ⟨by decide, by decide⟩, by decide +kernel⟩
theorem gJ5_397 : yOk RJ5 397 1 mJ5_inflateIfNeededFor_a7421 := ⟨w_1170, w_1173, w_10, ⟨by decide, by decide⟩, by decide +kernel⟩
theorem gJ5_399 : yOk RJ5 399 3 mJ0_getBytes_840e7 := ⟨w_1194, w_1197, w_12, ⟨by decide, by decide⟩, by decide +kernel⟩
theorem gJ5_32 : yOk RJ5 32 0 mJ0_length_8abf5 := ⟨w_1158, w_1161, w_12, ⟨by decide, by decide⟩, by decide +kernel⟩
theorem gJ5_208 : yOk RJ5 208 2 mJ5_putStringAt_47b60 := ⟨w_1166, w_1169, w_10, ⟨by decide, by decide⟩, by decide +kernel⟩
theorem gJ4_29 : yOk RJ4 29 1 mJ5_append_cf1ce := ⟨w_1096, w_1098, w_10, ⟨by decide, by decide⟩, by decide +kernel⟩
theorem nJ4_18 : nOk RJ4 18 9 := ⟨by decide, w_1245, w_641, w_12⟩
theorem sl_J5_getValue_6d5f1 {G : GG} (gk : GOK G) : ∀ {s : State} {args : Array Value}, (gs G).WarmedH s.vm → (Cond.selects (clN 10) mJ5_getValue_6d5f1.1 mJ5_getValue_6d5f1.1).before args s = true := fun hW => tb_s gk hW _ w_1256
theorem sl_J5_inflateIfNeededFor_a7421 {G : GG} (gk : GOK G) : ∀ {s : State} {args : Array Value}, (gs G).WarmedH s.vm → (Cond.selects (clN 10) mJ5_inflateIfNeededFor_a7421.1 mJ5_inflateIfNeededFor_a7421.1).before args s = true := fun hW => word_at hW (good_of_word rfl) (sel_pv ⟨by decide, by decide⟩ (gk.2.1 _ (List.mem_filter.mp w_304).1) (gk.2.1 _ (tl_5 (List.mem_of_getElem? (i := 211) rfl))) (gk.2.1 _ (List.mem_filter.mp w_1172).1) (gk.2.1 _ (List.mem_filter.mp w_1563).1))
theorem sl_J5_putStringAt_47b60 {G : GG} (gk : GOK G) : ∀ {s : State} {args : Array Value}, (gs G).WarmedH s.vm → (Cond.selects (clN 10) mJ5_putStringAt_47b60.1 mJ5_putStringAt_47b60.1).before args s = true := fun hW => word_at hW (good_of_word rfl) (sel_pv ⟨by decide, by decide⟩ (gk.2.1 _ (List.mem_filter.mp w_304).1) (gk.2.1 _ (tl_5 (List.mem_of_getElem? (i := 207) rfl))) (gk.2.1 _ (List.mem_filter.mp w_1168).1) (gk.2.1 _ (List.mem_filter.mp w_1562).1))
def rJ7_checkLength_df160_b : Room := { frames := 1, cells := 0, slots := 0, locals := 30 }
def rJ7_copyOfRangeByte_39247_b : Room := { frames := 3, cells := 1, slots := 140, locals := 100 }
def rJ7_copyOfRange_39247_b : Room := { frames := 4, cells := 1, slots := 140, locals := 150 }
def rJ0_init_db425_b : Room := { frames := 10, cells := 1, slots := 140, locals := 400 }
def rJ0_init_81219_b : Room := { frames := 11, cells := 1, slots := 140, locals := 500 }
def rJ5_append_cf1ce_b : Room := { frames := 12, cells := 1, slots := 140, locals := 600 }
theorem dJ0_getBytes_840e7_0 : decode mJ0_getBytes_840e7.2.1 0 = .ok (.aload_n 0, 1) := by decide +kernel
theorem dJ0_getBytes_840e7_1 : decode mJ0_getBytes_840e7.2.1 1 = .ok (.invokevirtual 335, 3) := by decide +kernel
theorem dJ0_getBytes_840e7_4 : decode mJ0_getBytes_840e7.2.1 4 = .ok (.iload_n 3, 1) := by decide +kernel
theorem dJ0_getBytes_840e7_5 : decode mJ0_getBytes_840e7.2.1 5 = .ok (.if_icmp .ne 23, 3) := by decide +kernel
theorem dJ0_getBytes_840e7_8 : decode mJ0_getBytes_840e7.2.1 8 = .ok (.aload_n 0, 1) := by decide +kernel
theorem dJ0_getBytes_840e7_9 : decode mJ0_getBytes_840e7.2.1 9 = .ok (.getfield 9, 3) := by decide +kernel
theorem dJ0_getBytes_840e7_12 : decode mJ0_getBytes_840e7.2.1 12 = .ok (.iconst 0, 1) := by decide +kernel
theorem dJ0_getBytes_840e7_13 : decode mJ0_getBytes_840e7.2.1 13 = .ok (.aload_n 1, 1) := by decide +kernel
theorem dJ0_getBytes_840e7_14 : decode mJ0_getBytes_840e7.2.1 14 = .ok (.iload_n 2, 1) := by decide +kernel
theorem dJ0_getBytes_840e7_15 : decode mJ0_getBytes_840e7.2.1 15 = .ok (.iload_n 3, 1) := by decide +kernel
theorem dJ0_getBytes_840e7_16 : decode mJ0_getBytes_840e7.2.1 16 = .ok (.ishl, 1) := by decide +kernel
theorem dJ0_getBytes_840e7_17 : decode mJ0_getBytes_840e7.2.1 17 = .ok (.aload_n 0, 1) := by decide +kernel
theorem dJ0_getBytes_840e7_18 : decode mJ0_getBytes_840e7.2.1 18 = .ok (.getfield 9, 3) := by decide +kernel
theorem dJ0_getBytes_840e7_21 : decode mJ0_getBytes_840e7.2.1 21 = .ok (.arraylength, 1) := by decide +kernel
theorem dJ0_getBytes_840e7_22 : decode mJ0_getBytes_840e7.2.1 22 = .ok (.invokestatic 212, 3) := by decide +kernel
theorem dJ0_getBytes_840e7_25 : decode mJ0_getBytes_840e7.2.1 25 = .ok (.goto 18, 3) := by decide +kernel
theorem dJ0_getBytes_840e7_28 : decode mJ0_getBytes_840e7.2.1 28 = .ok (.aload_n 0, 1) := by decide +kernel
theorem dJ0_getBytes_840e7_29 : decode mJ0_getBytes_840e7.2.1 29 = .ok (.getfield 9, 3) := by decide +kernel
theorem dJ0_getBytes_840e7_32 : decode mJ0_getBytes_840e7.2.1 32 = .ok (.iconst 0, 1) := by decide +kernel
theorem dJ0_getBytes_840e7_33 : decode mJ0_getBytes_840e7.2.1 33 = .ok (.aload_n 1, 1) := by decide +kernel
theorem dJ0_getBytes_840e7_34 : decode mJ0_getBytes_840e7.2.1 34 = .ok (.iload_n 2, 1) := by decide +kernel
theorem dJ0_getBytes_840e7_35 : decode mJ0_getBytes_840e7.2.1 35 = .ok (.aload_n 0, 1) := by decide +kernel
theorem dJ0_getBytes_840e7_36 : decode mJ0_getBytes_840e7.2.1 36 = .ok (.getfield 9, 3) := by decide +kernel
theorem dJ0_getBytes_840e7_39 : decode mJ0_getBytes_840e7.2.1 39 = .ok (.arraylength, 1) := by decide +kernel
theorem dJ0_getBytes_840e7_40 : decode mJ0_getBytes_840e7.2.1 40 = .ok (.invokestatic 106, 3) := by decide +kernel
theorem dJ0_getBytes_840e7_43 : decode mJ0_getBytes_840e7.2.1 43 = .ok (.return_, 1) := by decide +kernel
theorem dJ7_checkLength_df160_0 : decode mJ7_checkLength_df160.2.1 0 = .ok (.iload_n 1, 1) := by decide +kernel
theorem dJ7_checkLength_df160_1 : decode mJ7_checkLength_df160.2.1 1 = .ok (.iload_n 0, 1) := by decide +kernel
theorem dJ7_checkLength_df160_2 : decode mJ7_checkLength_df160.2.1 2 = .ok (.if_icmp .ge 35, 3) := by decide +kernel
theorem dJ7_checkLength_df160_5 : decode mJ7_checkLength_df160.2.1 5 = .ok (.new 43, 3) := by decide +kernel
theorem dJ7_checkLength_df160_8 : decode mJ7_checkLength_df160.2.1 8 = .ok (.dup, 1) := by decide +kernel
theorem dJ7_checkLength_df160_9 : decode mJ7_checkLength_df160.2.1 9 = .ok (.new 45, 3) := by decide +kernel
theorem dJ7_checkLength_df160_12 : decode mJ7_checkLength_df160.2.1 12 = .ok (.dup, 1) := by decide +kernel
theorem dJ7_checkLength_df160_13 : decode mJ7_checkLength_df160.2.1 13 = .ok (.invokespecial 47, 3) := by decide +kernel
theorem dJ7_checkLength_df160_16 : decode mJ7_checkLength_df160.2.1 16 = .ok (.iload_n 0, 1) := by decide +kernel
theorem dJ7_checkLength_df160_17 : decode mJ7_checkLength_df160.2.1 17 = .ok (.invokevirtual 54, 3) := by decide +kernel
theorem dJ7_checkLength_df160_20 : decode mJ7_checkLength_df160.2.1 20 = .ok (.ldc_w 337, 3) := by decide +kernel
theorem dJ7_checkLength_df160_23 : decode mJ7_checkLength_df160.2.1 23 = .ok (.invokevirtual 50, 3) := by decide +kernel
theorem dJ7_checkLength_df160_26 : decode mJ7_checkLength_df160.2.1 26 = .ok (.iload_n 1, 1) := by decide +kernel
theorem dJ7_checkLength_df160_27 : decode mJ7_checkLength_df160.2.1 27 = .ok (.invokevirtual 54, 3) := by decide +kernel
theorem dJ7_checkLength_df160_30 : decode mJ7_checkLength_df160.2.1 30 = .ok (.invokevirtual 61, 3) := by decide +kernel
theorem dJ7_checkLength_df160_33 : decode mJ7_checkLength_df160.2.1 33 = .ok (.invokespecial 65, 3) := by decide +kernel
theorem dJ7_checkLength_df160_36 : decode mJ7_checkLength_df160.2.1 36 = .ok (.athrow, 1) := by decide +kernel
theorem dJ7_checkLength_df160_37 : decode mJ7_checkLength_df160.2.1 37 = .ok (.return_, 1) := by decide +kernel
theorem dJ7_copyOfRangeByte_39247_0 : decode mJ7_copyOfRangeByte_39247.2.1 0 = .ok (.iload_n 1, 1) := by decide +kernel
theorem dJ7_copyOfRangeByte_39247_1 : decode mJ7_copyOfRangeByte_39247.2.1 1 = .ok (.iload_n 2, 1) := by decide +kernel
theorem dJ7_copyOfRangeByte_39247_2 : decode mJ7_copyOfRangeByte_39247.2.1 2 = .ok (.invokestatic 343, 3) := by decide +kernel
theorem dJ7_copyOfRangeByte_39247_5 : decode mJ7_copyOfRangeByte_39247.2.1 5 = .ok (.iload_n 2, 1) := by decide +kernel
theorem dJ7_copyOfRangeByte_39247_6 : decode mJ7_copyOfRangeByte_39247.2.1 6 = .ok (.iload_n 1, 1) := by decide +kernel
theorem dJ7_copyOfRangeByte_39247_7 : decode mJ7_copyOfRangeByte_39247.2.1 7 = .ok (.isub, 1) := by decide +kernel
theorem dJ7_copyOfRangeByte_39247_8 : decode mJ7_copyOfRangeByte_39247.2.1 8 = .ok (.istore_n 3, 1) := by decide +kernel
theorem dJ7_copyOfRangeByte_39247_9 : decode mJ7_copyOfRangeByte_39247.2.1 9 = .ok (.iload_n 3, 1) := by decide +kernel
theorem dJ7_copyOfRangeByte_39247_10 : decode mJ7_copyOfRangeByte_39247.2.1 10 = .ok (.newarray .byte, 2) := by decide +kernel
theorem dJ7_copyOfRangeByte_39247_12 : decode mJ7_copyOfRangeByte_39247.2.1 12 = .ok (.astore 4, 2) := by decide +kernel
theorem dJ7_copyOfRangeByte_39247_14 : decode mJ7_copyOfRangeByte_39247.2.1 14 = .ok (.aload_n 0, 1) := by decide +kernel
theorem dJ7_copyOfRangeByte_39247_15 : decode mJ7_copyOfRangeByte_39247.2.1 15 = .ok (.iload_n 1, 1) := by decide +kernel
theorem dJ7_copyOfRangeByte_39247_16 : decode mJ7_copyOfRangeByte_39247.2.1 16 = .ok (.aload 4, 2) := by decide +kernel
theorem dJ7_copyOfRangeByte_39247_18 : decode mJ7_copyOfRangeByte_39247.2.1 18 = .ok (.iconst 0, 1) := by decide +kernel
theorem dJ7_copyOfRangeByte_39247_19 : decode mJ7_copyOfRangeByte_39247.2.1 19 = .ok (.aload_n 0, 1) := by decide +kernel
theorem dJ7_copyOfRangeByte_39247_20 : decode mJ7_copyOfRangeByte_39247.2.1 20 = .ok (.arraylength, 1) := by decide +kernel
theorem dJ7_copyOfRangeByte_39247_21 : decode mJ7_copyOfRangeByte_39247.2.1 21 = .ok (.iload_n 1, 1) := by decide +kernel
theorem dJ7_copyOfRangeByte_39247_22 : decode mJ7_copyOfRangeByte_39247.2.1 22 = .ok (.isub, 1) := by decide +kernel
theorem dJ7_copyOfRangeByte_39247_23 : decode mJ7_copyOfRangeByte_39247.2.1 23 = .ok (.iload_n 3, 1) := by decide +kernel
theorem dJ7_copyOfRangeByte_39247_24 : decode mJ7_copyOfRangeByte_39247.2.1 24 = .ok (.invokestatic 304, 3) := by decide +kernel
theorem dJ7_copyOfRangeByte_39247_27 : decode mJ7_copyOfRangeByte_39247.2.1 27 = .ok (.invokestatic 150, 3) := by decide +kernel
theorem dJ7_copyOfRangeByte_39247_30 : decode mJ7_copyOfRangeByte_39247.2.1 30 = .ok (.aload 4, 2) := by decide +kernel
theorem dJ7_copyOfRangeByte_39247_32 : decode mJ7_copyOfRangeByte_39247.2.1 32 = .ok (.areturn, 1) := by decide +kernel
theorem dJ7_copyOfRange_39247_0 : decode mJ7_copyOfRange_39247.2.1 0 = .ok (.iload_n 1, 1) := by decide +kernel
theorem dJ7_copyOfRange_39247_1 : decode mJ7_copyOfRange_39247.2.1 1 = .ok (.ifCond .ne 9, 3) := by decide +kernel
theorem dJ7_copyOfRange_39247_4 : decode mJ7_copyOfRange_39247.2.1 4 = .ok (.iload_n 2, 1) := by decide +kernel
theorem dJ7_copyOfRange_39247_5 : decode mJ7_copyOfRange_39247.2.1 5 = .ok (.aload_n 0, 1) := by decide +kernel
theorem dJ7_copyOfRange_39247_6 : decode mJ7_copyOfRange_39247.2.1 6 = .ok (.arraylength, 1) := by decide +kernel
theorem dJ7_copyOfRange_39247_7 : decode mJ7_copyOfRange_39247.2.1 7 = .ok (.if_icmp .eq 10, 3) := by decide +kernel
theorem dJ7_copyOfRange_39247_10 : decode mJ7_copyOfRange_39247.2.1 10 = .ok (.aload_n 0, 1) := by decide +kernel
theorem dJ7_copyOfRange_39247_11 : decode mJ7_copyOfRange_39247.2.1 11 = .ok (.iload_n 1, 1) := by decide +kernel
theorem dJ7_copyOfRange_39247_12 : decode mJ7_copyOfRange_39247.2.1 12 = .ok (.iload_n 2, 1) := by decide +kernel
theorem dJ7_copyOfRange_39247_13 : decode mJ7_copyOfRange_39247.2.1 13 = .ok (.invokestatic 339, 3) := by decide +kernel
theorem dJ7_copyOfRange_39247_16 : decode mJ7_copyOfRange_39247.2.1 16 = .ok (.areturn, 1) := by decide +kernel
theorem dJ7_copyOfRange_39247_17 : decode mJ7_copyOfRange_39247.2.1 17 = .ok (.aload_n 0, 1) := by decide +kernel
theorem dJ7_copyOfRange_39247_18 : decode mJ7_copyOfRange_39247.2.1 18 = .ok (.invokevirtual 310, 3) := by decide +kernel
theorem dJ7_copyOfRange_39247_21 : decode mJ7_copyOfRange_39247.2.1 21 = .ok (.checkcast 311, 3) := by decide +kernel
theorem dJ7_copyOfRange_39247_24 : decode mJ7_copyOfRange_39247.2.1 24 = .ok (.areturn, 1) := by decide +kernel
theorem dJ5_getValue_6d5f1_0 : decode mJ5_getValue_6d5f1.2.1 0 = .ok (.aload_n 0, 1) := by decide +kernel
theorem dJ5_getValue_6d5f1_1 : decode mJ5_getValue_6d5f1.2.1 1 = .ok (.getfield 15, 3) := by decide +kernel
theorem dJ5_getValue_6d5f1_4 : decode mJ5_getValue_6d5f1.2.1 4 = .ok (.areturn, 1) := by decide +kernel
theorem dJ0_init_db425_0 : decode mJ0_init_db425.2.1 0 = .ok (.aload_n 0, 1) := by decide +kernel
theorem dJ0_init_db425_1 : decode mJ0_init_db425.2.1 1 = .ok (.invokespecial 1, 3) := by decide +kernel
theorem dJ0_init_db425_4 : decode mJ0_init_db425.2.1 4 = .ok (.aload_n 1, 1) := by decide +kernel
theorem dJ0_init_db425_5 : decode mJ0_init_db425.2.1 5 = .ok (.invokevirtual 552, 3) := by decide +kernel
theorem dJ0_init_db425_8 : decode mJ0_init_db425.2.1 8 = .ok (.astore_n 3, 1) := by decide +kernel
theorem dJ0_init_db425_9 : decode mJ0_init_db425.2.1 9 = .ok (.aload_n 1, 1) := by decide +kernel
theorem dJ0_init_db425_10 : decode mJ0_init_db425.2.1 10 = .ok (.invokevirtual 549, 3) := by decide +kernel
theorem dJ0_init_db425_13 : decode mJ0_init_db425.2.1 13 = .ok (.istore 4, 2) := by decide +kernel
theorem dJ0_init_db425_15 : decode mJ0_init_db425.2.1 15 = .ok (.aload_n 1, 1) := by decide +kernel
theorem dJ0_init_db425_16 : decode mJ0_init_db425.2.1 16 = .ok (.invokevirtual 1047, 3) := by decide +kernel
theorem dJ0_init_db425_19 : decode mJ0_init_db425.2.1 19 = .ok (.ifCond .eq 22, 3) := by decide +kernel
theorem dJ0_init_db425_22 : decode mJ0_init_db425.2.1 22 = .ok (.aload_n 0, 1) := by decide +kernel
theorem dJ0_init_db425_23 : decode mJ0_init_db425.2.1 23 = .ok (.iconst 0, 1) := by decide +kernel
theorem dJ0_init_db425_24 : decode mJ0_init_db425.2.1 24 = .ok (.putfield 15, 3) := by decide +kernel
theorem dJ0_init_db425_27 : decode mJ0_init_db425.2.1 27 = .ok (.aload_n 0, 1) := by decide +kernel
theorem dJ0_init_db425_28 : decode mJ0_init_db425.2.1 28 = .ok (.aload_n 3, 1) := by decide +kernel
theorem dJ0_init_db425_29 : decode mJ0_init_db425.2.1 29 = .ok (.iconst 0, 1) := by decide +kernel
theorem dJ0_init_db425_30 : decode mJ0_init_db425.2.1 30 = .ok (.iload 4, 2) := by decide +kernel
theorem dJ0_init_db425_32 : decode mJ0_init_db425.2.1 32 = .ok (.invokestatic 54, 3) := by decide +kernel
theorem dJ0_init_db425_35 : decode mJ0_init_db425.2.1 35 = .ok (.putfield 9, 3) := by decide +kernel
theorem dJ0_init_db425_38 : decode mJ0_init_db425.2.1 38 = .ok (.goto 59, 3) := by decide +kernel
theorem dJ0_init_db425_41 : decode mJ0_init_db425.2.1 41 = .ok (.getstatic 38, 3) := by decide +kernel
theorem dJ0_init_db425_44 : decode mJ0_init_db425.2.1 44 = .ok (.ifCond .eq 35, 3) := by decide +kernel
theorem dJ0_init_db425_47 : decode mJ0_init_db425.2.1 47 = .ok (.aload_n 1, 1) := by decide +kernel
theorem dJ0_init_db425_48 : decode mJ0_init_db425.2.1 48 = .ok (.getfield 1048, 3) := by decide +kernel
theorem dJ0_init_db425_51 : decode mJ0_init_db425.2.1 51 = .ok (.ifCond .eq 28, 3) := by decide +kernel
theorem dJ0_init_db425_54 : decode mJ0_init_db425.2.1 54 = .ok (.aload_n 0, 1) := by decide +kernel
theorem dJ0_init_db425_55 : decode mJ0_init_db425.2.1 55 = .ok (.aload_n 3, 1) := by decide +kernel
theorem dJ0_init_db425_56 : decode mJ0_init_db425.2.1 56 = .ok (.iconst 0, 1) := by decide +kernel
theorem dJ0_init_db425_57 : decode mJ0_init_db425.2.1 57 = .ok (.iload 4, 2) := by decide +kernel
theorem dJ0_init_db425_59 : decode mJ0_init_db425.2.1 59 = .ok (.invokestatic 1051, 3) := by decide +kernel
theorem dJ0_init_db425_62 : decode mJ0_init_db425.2.1 62 = .ok (.putfield 9, 3) := by decide +kernel
theorem dJ0_init_db425_65 : decode mJ0_init_db425.2.1 65 = .ok (.aload_n 0, 1) := by decide +kernel
theorem dJ0_init_db425_66 : decode mJ0_init_db425.2.1 66 = .ok (.aload_n 0, 1) := by decide +kernel
theorem dJ0_init_db425_67 : decode mJ0_init_db425.2.1 67 = .ok (.getfield 9, 3) := by decide +kernel
theorem dJ0_init_db425_70 : decode mJ0_init_db425.2.1 70 = .ok (.iload 4, 2) := by decide +kernel
theorem dJ0_init_db425_72 : decode mJ0_init_db425.2.1 72 = .ok (.invokestatic 47, 3) := by decide +kernel
theorem dJ0_init_db425_75 : decode mJ0_init_db425.2.1 75 = .ok (.putfield 15, 3) := by decide +kernel
theorem dJ0_init_db425_78 : decode mJ0_init_db425.2.1 78 = .ok (.return_, 1) := by decide +kernel
theorem dJ0_init_db425_79 : decode mJ0_init_db425.2.1 79 = .ok (.aload_n 0, 1) := by decide +kernel
theorem dJ0_init_db425_80 : decode mJ0_init_db425.2.1 80 = .ok (.iconst 1, 1) := by decide +kernel
theorem dJ0_init_db425_81 : decode mJ0_init_db425.2.1 81 = .ok (.putfield 15, 3) := by decide +kernel
theorem dJ0_init_db425_84 : decode mJ0_init_db425.2.1 84 = .ok (.aload_n 0, 1) := by decide +kernel
theorem dJ0_init_db425_85 : decode mJ0_init_db425.2.1 85 = .ok (.aload_n 3, 1) := by decide +kernel
theorem dJ0_init_db425_86 : decode mJ0_init_db425.2.1 86 = .ok (.iconst 0, 1) := by decide +kernel
theorem dJ0_init_db425_87 : decode mJ0_init_db425.2.1 87 = .ok (.iload 4, 2) := by decide +kernel
theorem dJ0_init_db425_89 : decode mJ0_init_db425.2.1 89 = .ok (.iconst 1, 1) := by decide +kernel
theorem dJ0_init_db425_90 : decode mJ0_init_db425.2.1 90 = .ok (.ishl, 1) := by decide +kernel
theorem dJ0_init_db425_91 : decode mJ0_init_db425.2.1 91 = .ok (.invokestatic 54, 3) := by decide +kernel
theorem dJ0_init_db425_94 : decode mJ0_init_db425.2.1 94 = .ok (.putfield 9, 3) := by decide +kernel
theorem dJ0_init_db425_97 : decode mJ0_init_db425.2.1 97 = .ok (.return_, 1) := by decide +kernel
theorem dJ0_init_81219_0 : decode mJ0_init_81219.2.1 0 = .ok (.aload_n 0, 1) := by decide +kernel
theorem dJ0_init_81219_1 : decode mJ0_init_81219.2.1 1 = .ok (.aload_n 1, 1) := by decide +kernel
theorem dJ0_init_81219_2 : decode mJ0_init_81219.2.1 2 = .ok (.aconst_null, 1) := by decide +kernel
theorem dJ0_init_81219_3 : decode mJ0_init_81219.2.1 3 = .ok (.invokespecial 489, 3) := by decide +kernel
theorem dJ0_init_81219_6 : decode mJ0_init_81219.2.1 6 = .ok (.return_, 1) := by decide +kernel
theorem dJ4_toString_0e30d_0 : decode mJ4_toString_0e30d.2.1 0 = .ok (.new 18, 3) := by decide +kernel
theorem dJ4_toString_0e30d_3 : decode mJ4_toString_0e30d.2.1 3 = .ok (.dup, 1) := by decide +kernel
theorem dJ4_toString_0e30d_4 : decode mJ4_toString_0e30d.2.1 4 = .ok (.aload_n 0, 1) := by decide +kernel
theorem dJ4_toString_0e30d_5 : decode mJ4_toString_0e30d.2.1 5 = .ok (.invokespecial 137, 3) := by decide +kernel
theorem dJ4_toString_0e30d_8 : decode mJ4_toString_0e30d.2.1 8 = .ok (.areturn, 1) := by decide +kernel
theorem dJ5_inflateIfNeededFor_a7421_0 : decode mJ5_inflateIfNeededFor_a7421.2.1 0 = .ok (.getstatic 18, 3) := by decide +kernel
theorem dJ5_inflateIfNeededFor_a7421_3 : decode mJ5_inflateIfNeededFor_a7421.2.1 3 = .ok (.ifCond .eq 18, 3) := by decide +kernel
theorem dJ5_inflateIfNeededFor_a7421_6 : decode mJ5_inflateIfNeededFor_a7421.2.1 6 = .ok (.aload_n 0, 1) := by decide +kernel
theorem dJ5_inflateIfNeededFor_a7421_7 : decode mJ5_inflateIfNeededFor_a7421.2.1 7 = .ok (.getfield 22, 3) := by decide +kernel
theorem dJ5_inflateIfNeededFor_a7421_10 : decode mJ5_inflateIfNeededFor_a7421.2.1 10 = .ok (.aload_n 1, 1) := by decide +kernel
theorem dJ5_inflateIfNeededFor_a7421_11 : decode mJ5_inflateIfNeededFor_a7421.2.1 11 = .ok (.invokevirtual 40, 3) := by decide +kernel
theorem dJ5_inflateIfNeededFor_a7421_14 : decode mJ5_inflateIfNeededFor_a7421.2.1 14 = .ok (.if_icmp .eq 7, 3) := by decide +kernel
theorem dJ5_inflateIfNeededFor_a7421_17 : decode mJ5_inflateIfNeededFor_a7421.2.1 17 = .ok (.aload_n 0, 1) := by decide +kernel
theorem dJ5_inflateIfNeededFor_a7421_18 : decode mJ5_inflateIfNeededFor_a7421.2.1 18 = .ok (.invokevirtual 195, 3) := by decide +kernel
theorem dJ5_inflateIfNeededFor_a7421_21 : decode mJ5_inflateIfNeededFor_a7421.2.1 21 = .ok (.return_, 1) := by decide +kernel
theorem dJ5_putStringAt_47b60_0 : decode mJ5_putStringAt_47b60.2.1 0 = .ok (.aload_n 0, 1) := by decide +kernel
theorem dJ5_putStringAt_47b60_1 : decode mJ5_putStringAt_47b60.2.1 1 = .ok (.aload_n 2, 1) := by decide +kernel
theorem dJ5_putStringAt_47b60_2 : decode mJ5_putStringAt_47b60.2.1 2 = .ok (.invokevirtual 397, 3) := by decide +kernel
theorem dJ5_putStringAt_47b60_5 : decode mJ5_putStringAt_47b60.2.1 5 = .ok (.aload_n 2, 1) := by decide +kernel
theorem dJ5_putStringAt_47b60_6 : decode mJ5_putStringAt_47b60.2.1 6 = .ok (.aload_n 0, 1) := by decide +kernel
theorem dJ5_putStringAt_47b60_7 : decode mJ5_putStringAt_47b60.2.1 7 = .ok (.getfield 15, 3) := by decide +kernel
theorem dJ5_putStringAt_47b60_10 : decode mJ5_putStringAt_47b60.2.1 10 = .ok (.iload_n 1, 1) := by decide +kernel
theorem dJ5_putStringAt_47b60_11 : decode mJ5_putStringAt_47b60.2.1 11 = .ok (.aload_n 0, 1) := by decide +kernel
theorem dJ5_putStringAt_47b60_12 : decode mJ5_putStringAt_47b60.2.1 12 = .ok (.getfield 22, 3) := by decide +kernel
theorem dJ5_putStringAt_47b60_15 : decode mJ5_putStringAt_47b60.2.1 15 = .ok (.invokevirtual 399, 3) := by decide +kernel
theorem dJ5_putStringAt_47b60_18 : decode mJ5_putStringAt_47b60.2.1 18 = .ok (.return_, 1) := by decide +kernel
theorem dJ5_append_cf1ce_0 : decode mJ5_append_cf1ce.2.1 0 = .ok (.aload_n 1, 1) := by decide +kernel
theorem dJ5_append_cf1ce_1 : decode mJ5_append_cf1ce.2.1 1 = .ok (.ifnonnull 8, 3) := by decide +kernel
theorem dJ5_append_cf1ce_4 : decode mJ5_append_cf1ce.2.1 4 = .ok (.aload_n 0, 1) := by decide +kernel
theorem dJ5_append_cf1ce_5 : decode mJ5_append_cf1ce.2.1 5 = .ok (.invokevirtual 204, 3) := by decide +kernel
theorem dJ5_append_cf1ce_8 : decode mJ5_append_cf1ce.2.1 8 = .ok (.areturn, 1) := by decide +kernel
theorem dJ5_append_cf1ce_9 : decode mJ5_append_cf1ce.2.1 9 = .ok (.aload_n 1, 1) := by decide +kernel
theorem dJ5_append_cf1ce_10 : decode mJ5_append_cf1ce.2.1 10 = .ok (.invokevirtual 32, 3) := by decide +kernel
theorem dJ5_append_cf1ce_13 : decode mJ5_append_cf1ce.2.1 13 = .ok (.istore_n 2, 1) := by decide +kernel
theorem dJ5_append_cf1ce_14 : decode mJ5_append_cf1ce.2.1 14 = .ok (.aload_n 0, 1) := by decide +kernel
theorem dJ5_append_cf1ce_15 : decode mJ5_append_cf1ce.2.1 15 = .ok (.aload_n 0, 1) := by decide +kernel
theorem dJ5_append_cf1ce_16 : decode mJ5_append_cf1ce.2.1 16 = .ok (.getfield 79, 3) := by decide +kernel
theorem dJ5_append_cf1ce_19 : decode mJ5_append_cf1ce.2.1 19 = .ok (.iload_n 2, 1) := by decide +kernel
theorem dJ5_append_cf1ce_20 : decode mJ5_append_cf1ce.2.1 20 = .ok (.iadd, 1) := by decide +kernel
theorem dJ5_append_cf1ce_21 : decode mJ5_append_cf1ce.2.1 21 = .ok (.invokevirtual 100, 3) := by decide +kernel
theorem dJ5_append_cf1ce_24 : decode mJ5_append_cf1ce.2.1 24 = .ok (.aload_n 0, 1) := by decide +kernel
theorem dJ5_append_cf1ce_25 : decode mJ5_append_cf1ce.2.1 25 = .ok (.aload_n 0, 1) := by decide +kernel
theorem dJ5_append_cf1ce_26 : decode mJ5_append_cf1ce.2.1 26 = .ok (.getfield 79, 3) := by decide +kernel
theorem dJ5_append_cf1ce_29 : decode mJ5_append_cf1ce.2.1 29 = .ok (.aload_n 1, 1) := by decide +kernel
theorem dJ5_append_cf1ce_30 : decode mJ5_append_cf1ce.2.1 30 = .ok (.invokevirtual 208, 3) := by decide +kernel
theorem dJ5_append_cf1ce_33 : decode mJ5_append_cf1ce.2.1 33 = .ok (.aload_n 0, 1) := by decide +kernel
theorem dJ5_append_cf1ce_34 : decode mJ5_append_cf1ce.2.1 34 = .ok (.dup, 1) := by decide +kernel
theorem dJ5_append_cf1ce_35 : decode mJ5_append_cf1ce.2.1 35 = .ok (.getfield 79, 3) := by decide +kernel
theorem dJ5_append_cf1ce_38 : decode mJ5_append_cf1ce.2.1 38 = .ok (.iload_n 2, 1) := by decide +kernel
theorem dJ5_append_cf1ce_39 : decode mJ5_append_cf1ce.2.1 39 = .ok (.iadd, 1) := by decide +kernel
theorem dJ5_append_cf1ce_40 : decode mJ5_append_cf1ce.2.1 40 = .ok (.putfield 79, 3) := by decide +kernel
theorem dJ5_append_cf1ce_43 : decode mJ5_append_cf1ce.2.1 43 = .ok (.aload_n 0, 1) := by decide +kernel
theorem dJ5_append_cf1ce_44 : decode mJ5_append_cf1ce.2.1 44 = .ok (.areturn, 1) := by decide +kernel
theorem dJ4_append_15ec4_0 : decode mJ4_append_15ec4.2.1 0 = .ok (.aload_n 0, 1) := by decide +kernel
theorem dJ4_append_15ec4_1 : decode mJ4_append_15ec4.2.1 1 = .ok (.aload_n 1, 1) := by decide +kernel
theorem dJ4_append_15ec4_2 : decode mJ4_append_15ec4.2.1 2 = .ok (.invokespecial 29, 3) := by decide +kernel
theorem dJ4_append_15ec4_5 : decode mJ4_append_15ec4.2.1 5 = .ok (.pop, 1) := by decide +kernel
theorem dJ4_append_15ec4_6 : decode mJ4_append_15ec4.2.1 6 = .ok (.aload_n 0, 1) := by decide +kernel
theorem dJ4_append_15ec4_7 : decode mJ4_append_15ec4.2.1 7 = .ok (.areturn, 1) := by decide +kernel
theorem vJ0_getBytes_840e7_0 {G : GG} (gk : GOK G) {σ : Mm} {K : RES → Mm → Prop} {x0 : Option Nat} {x1 : Option Nat} {x2 : Int32} {x3 : Int32}
    (h : ∃ a1, x0 = some a1 ∧ (mt σ a1).1 = 10 ∧ Runs G mJ0_coder_7d493 rJ0_coder_7d493 [(vR x0)] σ (bk G mJ0_getBytes_840e7 rJ0_getBytes_840e7 0 0 4 [some (vR x0), some (vR x1), some (vI x2), some (vI x3)] [] K)) : At G mJ0_getBytes_840e7 rJ0_getBytes_840e7 0 0 0 [some (vR x0), some (vR x1), some (vI x2), some (vI x3)] [] σ K := by
  refine s_aload_n (i := 0) dJ0_getBytes_840e7_0 rfl rfl ?_
  obtain ⟨a1, ea1, h⟩ := h
  obtain ⟨t2, h⟩ := h
  exact t_callV (rmY := rJ0_coder_7d493) (ci := 9) (as := []) (S := []) gk dJ0_getBytes_840e7_1 gJ0_335 (by decide) rfl w_1163 w_1164 ea1 t2 rfl rfl (Nat.le_of_ble_eq_true rfl) (by decide) h
theorem eJ0_getBytes_840e7 {G : GG} (gk : GOK G) {σ : Mm} {K : RES → Mm → Prop} {x0 : Option Nat} {x1 : Option Nat} {x2 : Int32} {x3 : Int32}
    (h : ∃ a1, x0 = some a1 ∧ (mt σ a1).1 = 10 ∧ Runs G mJ0_coder_7d493 rJ0_coder_7d493 [(vR x0)] σ (bk G mJ0_getBytes_840e7 rJ0_getBytes_840e7 0 0 4 [some (vR x0), some (vR x1), some (vI x2), some (vI x3)] [] K)) : Runs G mJ0_getBytes_840e7 rJ0_getBytes_840e7 [(vR x0), (vR x1), (vI x2), (vI x3)] σ K := Runs.ofF (by decide +kernel) rfl (Nat.le_of_ble_eq_true rfl) (vJ0_getBytes_840e7_0 gk h)
theorem vJ0_getBytes_840e7_4 {G : GG} (gk : GOK G) {σ : Mm} {K : RES → Mm → Prop} {x0 : Option Nat} {x1 : Option Nat} {x2 : Int32} {x3 : Int32} {s0 : Int32}
    (h : ((¬ s0 = x3 → ∃ a2, x0 = some a2 ∧ (mt σ a2).1 = 10 ∧ ∃ a4, mr σ a2 0 = some a4 ∧ ∃ n6, mt σ a4 = (54, n6) ∧ False) ∧ (s0 = x3 → ∃ a7, x0 = some a7 ∧ (mt σ a7).1 = 10 ∧ ∃ a9, mr σ a7 0 = some a9 ∧ ∃ n11, mt σ a9 = (54, n11) ∧ ∃ a12, x1 = some a12 ∧ ∃ n14, mt σ a12 = (54, n14) ∧ ((¬ (0 : Int32) < 0 ∧ ¬ (x2 <<< (x3 &&& 31)) < 0 ∧ ¬ (nI n11) < 0) ∧ (0 : Int32).toNatClampNeg + (nI n11).toNatClampNeg ≤ n11 ∧ (x2 <<< (x3 &&& 31)).toNatClampNeg + (nI n11).toNatClampNeg ≤ n14) ∧ (∀ i : Nat, i < (nI n11).toNatClampNeg → fits .byte (.int (mi σ a9 ((0 : Int32).toNatClampNeg + i))) = true) ∧ ∀ σ17, σ17 = cpI σ a9 (0 : Int32).toNatClampNeg a12 (x2 <<< (x3 &&& 31)).toNatClampNeg (nI n11).toNatClampNeg → K (.inl none) σ17))) : At G mJ0_getBytes_840e7 rJ0_getBytes_840e7 0 0 4 [some (vR x0), some (vR x1), some (vI x2), some (vI x3)] [(vI s0)] σ K := by
  refine s_iload_n (i := 3) dJ0_getBytes_840e7_4 rfl rfl ?_
  refine s_icmp_ne (tgt := 28) dJ0_getBytes_840e7_5 (by decide) (fun q1 => ?_) (fun q1 => ?_)
  · have h := h.1 q1
    refine s_aload_n (i := 0) dJ0_getBytes_840e7_28 rfl rfl ?_
    obtain ⟨a2, ea2, h⟩ := h
    obtain ⟨t3, h⟩ := h
    refine t_getR gk dJ0_getBytes_840e7_29 fJ0_9 rfl ea2 t3 ?_
    refine s_iconst (v := 0) dJ0_getBytes_840e7_32 (by decide) ?_
    refine s_aload_n (i := 1) dJ0_getBytes_840e7_33 rfl rfl ?_
    refine s_iload_n (i := 2) dJ0_getBytes_840e7_34 rfl rfl ?_
    refine s_aload_n (i := 0) dJ0_getBytes_840e7_35 rfl rfl ?_
    refine t_getR gk dJ0_getBytes_840e7_36 fJ0_9 rfl ea2 t3 ?_
    obtain ⟨a4, ea4, h⟩ := h
    obtain ⟨n6, t5, h⟩ := h
    refine t_alen (j := 4) gk dJ0_getBytes_840e7_39 (by decide) ea4 t5 ?_
    exact h.elim
  · have h := h.2 q1
    refine s_aload_n (i := 0) dJ0_getBytes_840e7_8 rfl rfl ?_
    obtain ⟨a7, ea7, h⟩ := h
    obtain ⟨t8, h⟩ := h
    refine t_getR gk dJ0_getBytes_840e7_9 fJ0_9 rfl ea7 t8 ?_
    refine s_iconst (v := 0) dJ0_getBytes_840e7_12 (by decide) ?_
    refine s_aload_n (i := 1) dJ0_getBytes_840e7_13 rfl rfl ?_
    refine s_iload_n (i := 2) dJ0_getBytes_840e7_14 rfl rfl ?_
    refine s_iload_n (i := 3) dJ0_getBytes_840e7_15 rfl rfl ?_
    refine s_ishl dJ0_getBytes_840e7_16 ?_
    refine s_aload_n (i := 0) dJ0_getBytes_840e7_17 rfl rfl ?_
    refine t_getR gk dJ0_getBytes_840e7_18 fJ0_9 rfl ea7 t8 ?_
    obtain ⟨a9, ea9, h⟩ := h
    obtain ⟨n11, t10, h⟩ := h
    refine t_alen (j := 4) gk dJ0_getBytes_840e7_21 (by decide) ea9 t10 ?_
    obtain ⟨a12, ea12, h⟩ := h
    obtain ⟨n14, t13, h⟩ := h
    obtain ⟨c15, h⟩ := h
    obtain ⟨c16, h⟩ := h
    refine t_copyB gk dJ0_getBytes_840e7_22 w_1198 w_1137 w_1136 w_28 ea9 t10 ea12 t13 c15 c16 rfl (by decide) (by decide) (fun σ17 eσ17 mσ17 => ?_)
    replace h := h σ17 eσ17
    refine s_goto (tgt := 43) dJ0_getBytes_840e7_25 (by decide) ?_
    exact s_return dJ0_getBytes_840e7_43 rfl (by decide) (by decide) h
theorem vJ7_checkLength_df160_b_0 {G : GG} (gk : GOK G) {σ : Mm} {K : RES → Mm → Prop} {x0 : Int32} {x1 : Int32}
    (h : ((x0 ≤ x1 → K (.inl none) σ) ∧ (¬ x0 ≤ x1 → False))) : At G mJ7_checkLength_df160 rJ7_checkLength_df160_b 0 0 0 [some (vI x0), some (vI x1)] [] σ K := by
  refine s_iload_n (i := 1) dJ7_checkLength_df160_0 rfl rfl ?_
  refine s_iload_n (i := 0) dJ7_checkLength_df160_1 rfl rfl ?_
  refine s_icmp_ge (tgt := 37) dJ7_checkLength_df160_2 (by decide) (fun q1 => ?_) (fun q1 => ?_)
  · have h := h.1 q1
    exact s_return dJ7_checkLength_df160_37 rfl (by decide) (by decide) h
  · have h := h.2 q1
    exact h.elim
theorem eJ7_checkLength_df160_b {G : GG} (gk : GOK G) {σ : Mm} {K : RES → Mm → Prop} {x0 : Int32} {x1 : Int32}
    (h : ((x0 ≤ x1 → K (.inl none) σ) ∧ (¬ x0 ≤ x1 → False))) : Runs G mJ7_checkLength_df160 rJ7_checkLength_df160_b [(vI x0), (vI x1)] σ K := Runs.ofF (by decide +kernel) rfl (Nat.le_of_ble_eq_true rfl) (vJ7_checkLength_df160_b_0 gk h)
theorem vJ7_copyOfRangeByte_39247_b_0 {G : GG} (gk : GOK G) {σ : Mm} {K : RES → Mm → Prop} {x0 : Option Nat} {x1 : Int32} {x2 : Int32}
    (h : Runs G mJ7_checkLength_df160 rJ7_checkLength_df160_b [(vI x1), (vI x2)] σ (bk G mJ7_copyOfRangeByte_39247 rJ7_copyOfRangeByte_39247_b 0 0 5 [some (vR x0), some (vI x1), some (vI x2), none, none] [] K)) : At G mJ7_copyOfRangeByte_39247 rJ7_copyOfRangeByte_39247_b 0 0 0 [some (vR x0), some (vI x1), some (vI x2), none, none] [] σ K := by
  refine s_iload_n (i := 1) dJ7_copyOfRangeByte_39247_0 rfl rfl ?_
  refine s_iload_n (i := 2) dJ7_copyOfRangeByte_39247_1 rfl rfl ?_
  exact s_callS (as := [(vI x1), (vI x2)]) (S := []) gk dJ7_copyOfRangeByte_39247_2 gJ7_343 w_1274 rfl rfl (Nat.le_of_ble_eq_true rfl) (by decide) h
theorem eJ7_copyOfRangeByte_39247_b {G : GG} (gk : GOK G) {σ : Mm} {K : RES → Mm → Prop} {x0 : Option Nat} {x1 : Int32} {x2 : Int32}
    (h : Runs G mJ7_checkLength_df160 rJ7_checkLength_df160_b [(vI x1), (vI x2)] σ (bk G mJ7_copyOfRangeByte_39247 rJ7_copyOfRangeByte_39247_b 0 0 5 [some (vR x0), some (vI x1), some (vI x2), none, none] [] K)) : Runs G mJ7_copyOfRangeByte_39247 rJ7_copyOfRangeByte_39247_b [(vR x0), (vI x1), (vI x2)] σ K := Runs.ofF (by decide +kernel) rfl (Nat.le_of_ble_eq_true rfl) (vJ7_copyOfRangeByte_39247_b_0 gk h)
theorem vJ7_copyOfRangeByte_39247_b_5 {G : GG} (gk : GOK G) {σ : Mm} {K : RES → Mm → Prop} {x0 : Option Nat} {x1 : Int32} {x2 : Int32}
    (h : (¬ (x2 - x1) < 0 ∧ (x2 - x1).toNatClampNeg * 8 ≤ 536870912 ∧ 0 + (x2 - x1).toNatClampNeg ≤ 140) ∧ ∀ σ2, σ2 = nw σ (54, (x2 - x1).toNatClampNeg) → ∃ a3, x0 = some a3 ∧ ∃ n5, mt σ2 a3 = (54, n5) ∧ Runs G mJ9_min_7cf53 rJ9_min_7cf53 [(vI ((nI n5) - x1)), (vI (x2 - x1))] σ2 (bk G mJ7_copyOfRangeByte_39247 rJ7_copyOfRangeByte_39247_b 1 140 27 [some (vR x0), some (vI x1), some (vI x2), some (vI (x2 - x1)), some (vR (some (mz σ)))] [(vI (0 : Int32)), (vR (some (mz σ))), (vI x1), (vR x0)] K)) : At G mJ7_copyOfRangeByte_39247 rJ7_copyOfRangeByte_39247_b 0 0 5 [some (vR x0), some (vI x1), some (vI x2), none, none] [] σ K := by
  refine s_iload_n (i := 2) dJ7_copyOfRangeByte_39247_5 rfl rfl ?_
  refine s_iload_n (i := 1) dJ7_copyOfRangeByte_39247_6 rfl rfl ?_
  refine s_isub dJ7_copyOfRangeByte_39247_7 ?_
  refine s_istore_n (i := 3) (L' := [some (vR x0), some (vI x1), some (vI x2), some (vI (x2 - x1)), none]) dJ7_copyOfRangeByte_39247_8 rfl rfl (by decide) rfl ?_
  refine s_iload_n (i := 3) dJ7_copyOfRangeByte_39247_9 rfl rfl ?_
  obtain ⟨c1, h⟩ := h
  refine s_newa (j := 4) (N := (x2 - x1).toNatClampNeg) gk dJ7_copyOfRangeByte_39247_10 (by decide) (by decide) rfl w_335 c1.1 rfl c1.2.1 (by decide) (Nat.le_trans c1.2.2 (by decide)) ?_
  refine At.widen (uc' := 1) (us' := 140) ?_ (Nat.le_refl _) c1.2.2
  replace h := h _ rfl
  generalize nw σ (54, (x2 - x1).toNatClampNeg) = σ2 at h ⊢
  refine s_astore (L' := [some (vR x0), some (vI x1), some (vI x2), some (vI (x2 - x1)), some (vR (some (mz σ)))]) dJ7_copyOfRangeByte_39247_12 rfl (by decide) rfl ?_
  refine s_aload_n (i := 0) dJ7_copyOfRangeByte_39247_14 rfl rfl ?_
  refine s_iload_n (i := 1) dJ7_copyOfRangeByte_39247_15 rfl rfl ?_
  refine s_aload dJ7_copyOfRangeByte_39247_16 rfl ?_
  refine s_iconst (v := 0) dJ7_copyOfRangeByte_39247_18 (by decide) ?_
  refine s_aload_n (i := 0) dJ7_copyOfRangeByte_39247_19 rfl rfl ?_
  obtain ⟨a3, ea3, h⟩ := h
  obtain ⟨n5, t4, h⟩ := h
  refine t_alen (j := 4) gk dJ7_copyOfRangeByte_39247_20 (by decide) ea3 t4 ?_
  refine s_iload_n (i := 1) dJ7_copyOfRangeByte_39247_21 rfl rfl ?_
  refine s_isub dJ7_copyOfRangeByte_39247_22 ?_
  refine s_iload_n (i := 3) dJ7_copyOfRangeByte_39247_23 rfl rfl ?_
  exact s_callS (as := [(vI ((nI n5) - x1)), (vI (x2 - x1))]) (S := [(vI (0 : Int32)), (vR (some (mz σ))), (vI x1), (vR x0)]) gk dJ7_copyOfRangeByte_39247_24 gJ7_304 w_1133 rfl rfl (Nat.le_of_ble_eq_true rfl) (by decide) h
theorem vJ7_copyOfRangeByte_39247_b_27 {G : GG} (gk : GOK G) {σ : Mm} {K : RES → Mm → Prop} {x0 : Option Nat} {x1 : Int32} {x2 : Int32} {x3 : Int32} {x4 : Option Nat} {s0 : Int32} {s1 : Int32} {s2 : Option Nat} {s3 : Int32} {s4 : Option Nat}
    (h : ∃ a1, s4 = some a1 ∧ ∃ n3, mt σ a1 = (54, n3) ∧ ∃ a4, s2 = some a4 ∧ ∃ n6, mt σ a4 = (54, n6) ∧ ((¬ s3 < 0 ∧ ¬ s1 < 0 ∧ ¬ s0 < 0) ∧ s3.toNatClampNeg + s0.toNatClampNeg ≤ n3 ∧ s1.toNatClampNeg + s0.toNatClampNeg ≤ n6) ∧ (∀ i : Nat, i < s0.toNatClampNeg → fits .byte (.int (mi σ a1 (s3.toNatClampNeg + i))) = true) ∧ ∀ σ9, σ9 = cpI σ a1 s3.toNatClampNeg a4 s1.toNatClampNeg s0.toNatClampNeg → K (.inl (some (vR x4))) σ9) : At G mJ7_copyOfRangeByte_39247 rJ7_copyOfRangeByte_39247_b 1 140 27 [some (vR x0), some (vI x1), some (vI x2), some (vI x3), some (vR x4)] [(vI s0), (vI s1), (vR s2), (vI s3), (vR s4)] σ K := by
  obtain ⟨a1, ea1, h⟩ := h
  obtain ⟨n3, t2, h⟩ := h
  obtain ⟨a4, ea4, h⟩ := h
  obtain ⟨n6, t5, h⟩ := h
  obtain ⟨c7, h⟩ := h
  obtain ⟨c8, h⟩ := h
  refine t_copyB gk dJ7_copyOfRangeByte_39247_27 w_1135 w_1137 w_1136 w_28 ea1 t2 ea4 t5 c7 c8 rfl (by decide) (by decide) (fun σ9 eσ9 mσ9 => ?_)
  replace h := h σ9 eσ9
  refine s_aload dJ7_copyOfRangeByte_39247_30 rfl ?_
  exact s_areturn dJ7_copyOfRangeByte_39247_32 rfl rfl (by decide) (by decide) h
theorem vJ7_copyOfRange_39247_b_0 {G : GG} (gk : GOK G) {σ : Mm} {K : RES → Mm → Prop} {x0 : Option Nat} {x1 : Int32} {x2 : Int32}
    (h : ((¬ x1 = 0 → Runs G mJ7_copyOfRangeByte_39247 rJ7_copyOfRangeByte_39247_b [(vR x0), (vI x1), (vI x2)] σ (bk G mJ7_copyOfRange_39247 rJ7_copyOfRange_39247_b 1 140 16 [some (vR x0), some (vI x1), some (vI x2)] [] K)) ∧ (x1 = 0 → ∃ a2, x0 = some a2 ∧ ∃ n4, mt σ a2 = (54, n4) ∧ ((x2 = (nI n4) → (0 + n4 ≤ 140 ∧ ∀ i : Nat, i < n4 → fits .byte (.int (mi σ a2 i)) = true) ∧ ∀ σ7, σ7 = cpI (nw σ (54, n4)) a2 0 (mz σ) 0 n4 → K (.inl (some (vR (some (mz σ))))) σ7) ∧ (¬ x2 = (nI n4) → Runs G mJ7_copyOfRangeByte_39247 rJ7_copyOfRangeByte_39247_b [(vR x0), (vI x1), (vI x2)] σ (bk G mJ7_copyOfRange_39247 rJ7_copyOfRange_39247_b 1 140 16 [some (vR x0), some (vI x1), some (vI x2)] [] K)))))) : At G mJ7_copyOfRange_39247 rJ7_copyOfRange_39247_b 0 0 0 [some (vR x0), some (vI x1), some (vI x2)] [] σ K := by
  refine s_iload_n (i := 1) dJ7_copyOfRange_39247_0 rfl rfl ?_
  refine s_if_ne (tgt := 10) dJ7_copyOfRange_39247_1 (by decide) (fun q1 => ?_) (fun q1 => ?_)
  · have h := h.1 q1
    refine s_aload_n (i := 0) dJ7_copyOfRange_39247_10 rfl rfl ?_
    refine s_iload_n (i := 1) dJ7_copyOfRange_39247_11 rfl rfl ?_
    refine s_iload_n (i := 2) dJ7_copyOfRange_39247_12 rfl rfl ?_
    exact s_callS (as := [(vR x0), (vI x1), (vI x2)]) (S := []) gk dJ7_copyOfRange_39247_13 gJ7_339 w_1271 rfl rfl (Nat.le_of_ble_eq_true rfl) (by decide) h
  · have h := h.2 q1
    refine s_iload_n (i := 2) dJ7_copyOfRange_39247_4 rfl rfl ?_
    refine s_aload_n (i := 0) dJ7_copyOfRange_39247_5 rfl rfl ?_
    obtain ⟨a2, ea2, h⟩ := h
    obtain ⟨n4, t3, h⟩ := h
    refine t_alen (j := 4) gk dJ7_copyOfRange_39247_6 (by decide) ea2 t3 ?_
    refine s_icmp_eq (tgt := 17) dJ7_copyOfRange_39247_7 (by decide) (fun q5 => ?_) (fun q5 => ?_)
    · have h := h.1 q5
      refine s_aload_n (i := 0) dJ7_copyOfRange_39247_17 rfl rfl ?_
      obtain ⟨c6, h⟩ := h
      refine t_cloneB gk dJ7_copyOfRange_39247_18 w_1125 w_1126 w_1127 w_1128 w_1129 (List.mem_of_getElem? (i := 1138) (by decide +kernel)) ea2 t3 c6.2 (by decide) (by decide) (by decide) (Nat.le_trans c6.1 (by decide)) ?_
      refine At.widen (uc' := 1) (us' := 140) ?_ (Nat.le_refl _) c6.1
      replace h := h _ rfl
      generalize hgen : cpI (nw σ (54, n4)) a2 0 (mz σ) 0 n4 = σ7 at h ⊢
      refine s_castB gk dJ7_copyOfRange_39247_21 w_1131 (a := mz σ) (n := n4) (by rw [← hgen]; exact if_pos rfl) ?_
      exact s_areturn dJ7_copyOfRange_39247_24 rfl rfl (by decide) (by decide) h
    · have h := h.2 q5
      refine s_aload_n (i := 0) dJ7_copyOfRange_39247_10 rfl rfl ?_
      refine s_iload_n (i := 1) dJ7_copyOfRange_39247_11 rfl rfl ?_
      refine s_iload_n (i := 2) dJ7_copyOfRange_39247_12 rfl rfl ?_
      exact s_callS (as := [(vR x0), (vI x1), (vI x2)]) (S := []) gk dJ7_copyOfRange_39247_13 gJ7_339 w_1271 rfl rfl (Nat.le_of_ble_eq_true rfl) (by decide) h
theorem eJ7_copyOfRange_39247_b {G : GG} (gk : GOK G) {σ : Mm} {K : RES → Mm → Prop} {x0 : Option Nat} {x1 : Int32} {x2 : Int32}
    (h : ((¬ x1 = 0 → Runs G mJ7_copyOfRangeByte_39247 rJ7_copyOfRangeByte_39247_b [(vR x0), (vI x1), (vI x2)] σ (bk G mJ7_copyOfRange_39247 rJ7_copyOfRange_39247_b 1 140 16 [some (vR x0), some (vI x1), some (vI x2)] [] K)) ∧ (x1 = 0 → ∃ a2, x0 = some a2 ∧ ∃ n4, mt σ a2 = (54, n4) ∧ ((x2 = (nI n4) → (0 + n4 ≤ 140 ∧ ∀ i : Nat, i < n4 → fits .byte (.int (mi σ a2 i)) = true) ∧ ∀ σ7, σ7 = cpI (nw σ (54, n4)) a2 0 (mz σ) 0 n4 → K (.inl (some (vR (some (mz σ))))) σ7) ∧ (¬ x2 = (nI n4) → Runs G mJ7_copyOfRangeByte_39247 rJ7_copyOfRangeByte_39247_b [(vR x0), (vI x1), (vI x2)] σ (bk G mJ7_copyOfRange_39247 rJ7_copyOfRange_39247_b 1 140 16 [some (vR x0), some (vI x1), some (vI x2)] [] K)))))) : Runs G mJ7_copyOfRange_39247 rJ7_copyOfRange_39247_b [(vR x0), (vI x1), (vI x2)] σ K := Runs.ofF (by decide +kernel) rfl (Nat.le_of_ble_eq_true rfl) (vJ7_copyOfRange_39247_b_0 gk h)
theorem vJ7_copyOfRange_39247_b_16 {G : GG} (gk : GOK G) {σ : Mm} {K : RES → Mm → Prop} {x0 : Option Nat} {x1 : Int32} {x2 : Int32} {s0 : Option Nat}
    (h : K (.inl (some (vR s0))) σ) : At G mJ7_copyOfRange_39247 rJ7_copyOfRange_39247_b 1 140 16 [some (vR x0), some (vI x1), some (vI x2)] [(vR s0)] σ K := by
  exact s_areturn dJ7_copyOfRange_39247_16 rfl rfl (by decide) (by decide) h
theorem vJ5_getValue_6d5f1_0 {G : GG} (gk : GOK G) {σ : Mm} {K : RES → Mm → Prop} {x0 : Option Nat}
    (h : ∃ a1, x0 = some a1 ∧ (mt σ a1).1 = 11 ∧ K (.inl (some (vR (mr σ a1 0)))) σ) : At G mJ5_getValue_6d5f1 rJ5_getValue_6d5f1 0 0 0 [some (vR x0)] [] σ K := by
  refine s_aload_n (i := 0) dJ5_getValue_6d5f1_0 rfl rfl ?_
  obtain ⟨a1, ea1, h⟩ := h
  obtain ⟨t2, h⟩ := h
  refine t_getR gk dJ5_getValue_6d5f1_1 fJ5_15 rfl ea1 t2 ?_
  exact s_areturn dJ5_getValue_6d5f1_4 rfl rfl (by decide) (by decide) h
theorem eJ5_getValue_6d5f1 {G : GG} (gk : GOK G) {σ : Mm} {K : RES → Mm → Prop} {x0 : Option Nat}
    (h : ∃ a1, x0 = some a1 ∧ (mt σ a1).1 = 11 ∧ K (.inl (some (vR (mr σ a1 0)))) σ) : Runs G mJ5_getValue_6d5f1 rJ5_getValue_6d5f1 [(vR x0)] σ K := Runs.ofF (by decide +kernel) rfl (Nat.le_of_ble_eq_true rfl) (vJ5_getValue_6d5f1_0 gk h)
theorem vJ0_init_db425_b_0 {G : GG} (gk : GOK G) {σ : Mm} {K : RES → Mm → Prop} {x0 : Option Nat} {x1 : Option Nat} {x2 : Option Nat}
    (h : ∃ a1, x0 = some a1 ∧ ∃ a2, x1 = some a2 ∧ (mt σ a2).1 = 11 ∧ Runs G mJ5_getValue_6d5f1 rJ5_getValue_6d5f1 [(vR x1)] σ (bk G mJ0_init_db425 rJ0_init_db425_b 0 0 8 [some (vR x0), some (vR x1), some (vR x2), none, none] [] K)) : At G mJ0_init_db425 rJ0_init_db425_b 0 0 0 [some (vR x0), some (vR x1), some (vR x2), none, none] [] σ K := by
  refine s_aload_n (i := 0) dJ0_init_db425_0 rfl rfl ?_
  obtain ⟨a1, ea1, h⟩ := h
  refine t_objInit gk dJ0_init_db425_1 w_1252 (by decide) (by decide) ea1 ?_
  refine s_aload_n (i := 1) dJ0_init_db425_4 rfl rfl ?_
  obtain ⟨a2, ea2, h⟩ := h
  obtain ⟨t3, h⟩ := h
  exact s_callVC (ci := 10) (as := []) (S := []) gk dJ0_init_db425_5 gJ0_552 (by decide) w_1254 (sl_J5_getValue_6d5f1 gk) ea2 t3 rfl rfl (Nat.le_of_ble_eq_true rfl) (by decide) h
theorem eJ0_init_db425_b {G : GG} (gk : GOK G) {σ : Mm} {K : RES → Mm → Prop} {x0 : Option Nat} {x1 : Option Nat} {x2 : Option Nat}
    (h : ∃ a1, x0 = some a1 ∧ ∃ a2, x1 = some a2 ∧ (mt σ a2).1 = 11 ∧ Runs G mJ5_getValue_6d5f1 rJ5_getValue_6d5f1 [(vR x1)] σ (bk G mJ0_init_db425 rJ0_init_db425_b 0 0 8 [some (vR x0), some (vR x1), some (vR x2), none, none] [] K)) : Runs G mJ0_init_db425 rJ0_init_db425_b [(vR x0), (vR x1), (vR x2)] σ K := Runs.ofF (by decide +kernel) rfl (Nat.le_of_ble_eq_true rfl) (vJ0_init_db425_b_0 gk h)
theorem vJ0_init_db425_b_8 {G : GG} (gk : GOK G) {σ : Mm} {K : RES → Mm → Prop} {x0 : Option Nat} {x1 : Option Nat} {x2 : Option Nat} {s0 : Option Nat}
    (h : ∃ a1, x1 = some a1 ∧ (mt σ a1).1 = 11 ∧ ∃ K3 : RES → Mm → Prop, Runs G mJ4_length_8abf5 rJ4_length_8abf5 [(vR x1)] σ K3 ∧ (∀ E t, ¬ K3 (.inr E) t) ∧ (∀ v t, K3 (.inl v) t → At G mJ0_init_db425 rJ0_init_db425_b (0) (0) 13 [some (vR x0), some (vR x1), some (vR x2), some (vR s0), none] (v.toList ++ []) t K)) : At G mJ0_init_db425 rJ0_init_db425_b 0 0 8 [some (vR x0), some (vR x1), some (vR x2), none, none] [(vR s0)] σ K := by
  refine s_astore_n (i := 3) (L' := [some (vR x0), some (vR x1), some (vR x2), some (vR s0), none]) dJ0_init_db425_8 rfl rfl (by decide) rfl ?_
  refine s_aload_n (i := 1) dJ0_init_db425_9 rfl rfl ?_
  obtain ⟨a1, ea1, h⟩ := h
  obtain ⟨t2, h⟩ := h
  obtain ⟨K3, h1, h2, h3⟩ := h
  exact s_callVO (ci := 10) (Y := mJ4_length_8abf5) (rmY := rJ4_length_8abf5) (as := []) (S := []) gk dJ0_init_db425_10 (by decide) w_1258 w_1260 w_1259 w_1261 w_1262 w_11 w_1265 w_1263 ⟨by decide, by decide⟩ (by decide +kernel) ea1 t2 rfl rfl (Nat.le_of_ble_eq_true rfl) (by decide) h1 h2 h3
theorem vJ0_init_db425_b_13 {G : GG} (gk : GOK G) {σ : Mm} {K : RES → Mm → Prop} {x0 : Option Nat} {x1 : Option Nat} {x2 : Option Nat} {x3 : Option Nat} {s0 : Int32}
    (h : ∃ a1, x1 = some a1 ∧ (mt σ a1).1 = 11 ∧ Runs G mJ5_isLatin1_aae02 rJ5_isLatin1_aae02 [(vR x1)] σ (bk G mJ0_init_db425 rJ0_init_db425_b 0 0 19 [some (vR x0), some (vR x1), some (vR x2), some (vR x3), some (vI s0)] [] K)) : At G mJ0_init_db425 rJ0_init_db425_b 0 0 13 [some (vR x0), some (vR x1), some (vR x2), some (vR x3), none] [(vI s0)] σ K := by
  refine s_istore (L' := [some (vR x0), some (vR x1), some (vR x2), some (vR x3), some (vI s0)]) dJ0_init_db425_13 rfl (by decide) rfl ?_
  refine s_aload_n (i := 1) dJ0_init_db425_15 rfl rfl ?_
  obtain ⟨a1, ea1, h⟩ := h
  obtain ⟨t2, h⟩ := h
  exact s_callVC (ci := 10) (as := []) (S := []) gk dJ0_init_db425_16 gJ0_1047 (by decide) w_1139 (sl_J5_isLatin1_aae02 gk) ea1 t2 rfl rfl (Nat.le_of_ble_eq_true rfl) (by decide) h
theorem vJ0_init_db425_b_19 {G : GG} (gk : GOK G) (sok : SOK G) {σ : Mm} {K : RES → Mm → Prop} {x0 : Option Nat} {x1 : Option Nat} {x2 : Option Nat} {x3 : Option Nat} {x4 : Int32} {s0 : Int32}
    (h : ((s0 = 0 → (((1 : Int32) = 0 → ∃ a3, x0 = some a3 ∧ (mt σ a3).1 = 10 ∧ ∀ σ5, σ5 = si σ a3 1 (1 : Int32) → Runs G mJ7_copyOfRange_39247 rJ7_copyOfRange_39247_b [(vR x3), (vI (0 : Int32)), (vI (x4 <<< ((1 : Int32) &&& 31)))] σ5 (bk G mJ0_init_db425 rJ0_init_db425_b 1 140 94 [some (vR x0), some (vR x1), some (vR x2), some (vR x3), some (vI x4)] [(vR x0)] K)) ∧ (¬ (1 : Int32) = 0 → ∃ a6, x1 = some a6 ∧ (mt σ a6).1 = 11 ∧ (((mi σ a6 2) = 0 → ∃ a9, x0 = some a9 ∧ (mt σ a9).1 = 10 ∧ ∀ σ11, σ11 = si σ a9 1 (1 : Int32) → Runs G mJ7_copyOfRange_39247 rJ7_copyOfRange_39247_b [(vR x3), (vI (0 : Int32)), (vI (x4 <<< ((1 : Int32) &&& 31)))] σ11 (bk G mJ0_init_db425 rJ0_init_db425_b 1 140 94 [some (vR x0), some (vR x1), some (vR x2), some (vR x3), some (vI x4)] [(vR x0)] K)) ∧ (¬ (mi σ a6 2) = 0 → False))))) ∧ (¬ s0 = 0 → ∃ a12, x0 = some a12 ∧ (mt σ a12).1 = 10 ∧ ∀ σ14, σ14 = si σ a12 1 (0 : Int32) → Runs G mJ7_copyOfRange_39247 rJ7_copyOfRange_39247_b [(vR x3), (vI (0 : Int32)), (vI x4)] σ14 (bk G mJ0_init_db425 rJ0_init_db425_b 1 140 35 [some (vR x0), some (vR x1), some (vR x2), some (vR x3), some (vI x4)] [(vR x0)] K)))) : At G mJ0_init_db425 rJ0_init_db425_b 0 0 19 [some (vR x0), some (vR x1), some (vR x2), some (vR x3), some (vI x4)] [(vI s0)] σ K := by
  refine s_if_eq (tgt := 41) dJ0_init_db425_19 (by decide) (fun q1 => ?_) (fun q1 => ?_)
  · have h := h.1 q1
    refine s_getZ (v := vI 1) gk dJ0_init_db425_41 w_568 sok.1 ?_
    refine s_if_eq (tgt := 79) dJ0_init_db425_44 (by decide) (fun q2 => ?_) (fun q2 => ?_)
    · have h := h.1 q2
      refine s_aload_n (i := 0) dJ0_init_db425_79 rfl rfl ?_
      refine s_iconst (v := 1) dJ0_init_db425_80 (by decide) ?_
      obtain ⟨a3, ea3, h⟩ := h
      obtain ⟨t4, h⟩ := h
      refine t_putIF gk dJ0_init_db425_81 fJ0_15 (Or.inr ⟨rfl, rfl, rfl⟩) rfl ea3 t4 ⟨rfl, rfl⟩ (fun σ5 eσ5 mσ5 => ?_)
      replace h := h σ5 eσ5
      refine s_aload_n (i := 0) dJ0_init_db425_84 rfl rfl ?_
      refine s_aload_n (i := 3) dJ0_init_db425_85 rfl rfl ?_
      refine s_iconst (v := 0) dJ0_init_db425_86 (by decide) ?_
      refine s_iload dJ0_init_db425_87 rfl ?_
      refine s_iconst (v := 1) dJ0_init_db425_89 (by decide) ?_
      refine s_ishl dJ0_init_db425_90 ?_
      exact s_callS (as := [(vR x3), (vI (0 : Int32)), (vI (x4 <<< ((1 : Int32) &&& 31)))]) (S := [(vR x0)]) gk dJ0_init_db425_91 gJ0_54 w_1268 rfl rfl (Nat.le_of_ble_eq_true rfl) (by decide) h
    · have h := h.2 q2
      refine s_aload_n (i := 1) dJ0_init_db425_47 rfl rfl ?_
      obtain ⟨a6, ea6, h⟩ := h
      obtain ⟨t7, h⟩ := h
      refine t_getI gk dJ0_init_db425_48 fJ0_1048 rfl ea6 t7 ?_
      refine s_if_eq (tgt := 79) dJ0_init_db425_51 (by decide) (fun q8 => ?_) (fun q8 => ?_)
      · have h := h.1 q8
        refine s_aload_n (i := 0) dJ0_init_db425_79 rfl rfl ?_
        refine s_iconst (v := 1) dJ0_init_db425_80 (by decide) ?_
        obtain ⟨a9, ea9, h⟩ := h
        obtain ⟨t10, h⟩ := h
        refine t_putIF gk dJ0_init_db425_81 fJ0_15 (Or.inr ⟨rfl, rfl, rfl⟩) rfl ea9 t10 ⟨rfl, rfl⟩ (fun σ11 eσ11 mσ11 => ?_)
        replace h := h σ11 eσ11
        refine s_aload_n (i := 0) dJ0_init_db425_84 rfl rfl ?_
        refine s_aload_n (i := 3) dJ0_init_db425_85 rfl rfl ?_
        refine s_iconst (v := 0) dJ0_init_db425_86 (by decide) ?_
        refine s_iload dJ0_init_db425_87 rfl ?_
        refine s_iconst (v := 1) dJ0_init_db425_89 (by decide) ?_
        refine s_ishl dJ0_init_db425_90 ?_
        exact s_callS (as := [(vR x3), (vI (0 : Int32)), (vI (x4 <<< ((1 : Int32) &&& 31)))]) (S := [(vR x0)]) gk dJ0_init_db425_91 gJ0_54 w_1268 rfl rfl (Nat.le_of_ble_eq_true rfl) (by decide) h
      · have h := h.2 q8
        refine s_aload_n (i := 0) dJ0_init_db425_54 rfl rfl ?_
        refine s_aload_n (i := 3) dJ0_init_db425_55 rfl rfl ?_
        refine s_iconst (v := 0) dJ0_init_db425_56 (by decide) ?_
        refine s_iload dJ0_init_db425_57 rfl ?_
        exact h.elim
  · have h := h.2 q1
    refine s_aload_n (i := 0) dJ0_init_db425_22 rfl rfl ?_
    refine s_iconst (v := 0) dJ0_init_db425_23 (by decide) ?_
    obtain ⟨a12, ea12, h⟩ := h
    obtain ⟨t13, h⟩ := h
    refine t_putIF gk dJ0_init_db425_24 fJ0_15 (Or.inr ⟨rfl, rfl, rfl⟩) rfl ea12 t13 ⟨rfl, rfl⟩ (fun σ14 eσ14 mσ14 => ?_)
    replace h := h σ14 eσ14
    refine s_aload_n (i := 0) dJ0_init_db425_27 rfl rfl ?_
    refine s_aload_n (i := 3) dJ0_init_db425_28 rfl rfl ?_
    refine s_iconst (v := 0) dJ0_init_db425_29 (by decide) ?_
    refine s_iload dJ0_init_db425_30 rfl ?_
    exact s_callS (as := [(vR x3), (vI (0 : Int32)), (vI x4)]) (S := [(vR x0)]) gk dJ0_init_db425_32 gJ0_54 w_1268 rfl rfl (Nat.le_of_ble_eq_true rfl) (by decide) h
theorem vJ0_init_db425_b_35 {G : GG} (gk : GOK G) {σ : Mm} {K : RES → Mm → Prop} {x0 : Option Nat} {x1 : Option Nat} {x2 : Option Nat} {x3 : Option Nat} {x4 : Int32} {s0 : Option Nat} {s1 : Option Nat}
    (h : ∃ a1, s1 = some a1 ∧ (mt σ a1).1 = 10 ∧ ∀ σ3, σ3 = sr σ a1 0 s0 → K (.inl none) σ3) : At G mJ0_init_db425 rJ0_init_db425_b 1 140 35 [some (vR x0), some (vR x1), some (vR x2), some (vR x3), some (vI x4)] [(vR s0), (vR s1)] σ K := by
  obtain ⟨a1, ea1, h⟩ := h
  obtain ⟨t2, h⟩ := h
  refine t_putR gk dJ0_init_db425_35 fJ0_9 (Or.inr ⟨rfl, rfl, rfl⟩) rfl ea1 t2 (nf_rf rfl) (fun σ3 eσ3 mσ3 => ?_)
  replace h := h σ3 eσ3
  refine s_goto (tgt := 97) dJ0_init_db425_38 (by decide) ?_
  exact s_return dJ0_init_db425_97 rfl (by decide) (by decide) h
theorem vJ0_init_db425_b_94 {G : GG} (gk : GOK G) {σ : Mm} {K : RES → Mm → Prop} {x0 : Option Nat} {x1 : Option Nat} {x2 : Option Nat} {x3 : Option Nat} {x4 : Int32} {s0 : Option Nat} {s1 : Option Nat}
    (h : ∃ a1, s1 = some a1 ∧ (mt σ a1).1 = 10 ∧ ∀ σ3, σ3 = sr σ a1 0 s0 → K (.inl none) σ3) : At G mJ0_init_db425 rJ0_init_db425_b 1 140 94 [some (vR x0), some (vR x1), some (vR x2), some (vR x3), some (vI x4)] [(vR s0), (vR s1)] σ K := by
  obtain ⟨a1, ea1, h⟩ := h
  obtain ⟨t2, h⟩ := h
  refine t_putR gk dJ0_init_db425_94 fJ0_9 (Or.inr ⟨rfl, rfl, rfl⟩) rfl ea1 t2 (nf_rf rfl) (fun σ3 eσ3 mσ3 => ?_)
  replace h := h σ3 eσ3
  exact s_return dJ0_init_db425_97 rfl (by decide) (by decide) h
theorem vJ0_init_81219_b_0 {G : GG} (gk : GOK G) {σ : Mm} {K : RES → Mm → Prop} {x0 : Option Nat} {x1 : Option Nat}
    (h : ∃ a1, x0 = some a1 ∧ ∃ K2 : RES → Mm → Prop, Runs G mJ0_init_db425 rJ0_init_db425_b [(vR (some a1)), (vR x1), (vR none)] σ K2 ∧ (∀ E t, ¬ K2 (.inr E) t) ∧ (∀ v t, K2 (.inl v) t → At G mJ0_init_81219 rJ0_init_81219_b (1) (140) 6 [some (vR (some a1)), some (vR x1)] (v.toList ++ []) t K)) : At G mJ0_init_81219 rJ0_init_81219_b 0 0 0 [some (vR x0), some (vR x1)] [] σ K := by
  refine s_aload_n (i := 0) dJ0_init_81219_0 rfl rfl ?_
  refine s_aload_n (i := 1) dJ0_init_81219_1 rfl rfl ?_
  refine s_null dJ0_init_81219_2 ?_
  obtain ⟨a1, ea1, h⟩ := h
  subst ea1
  obtain ⟨K2, h1, h2, h3⟩ := h
  exact s_callI (rmY := rJ0_init_db425_b) (a := a1) (as := [(vR x1), (vR none)]) (S := []) gk dJ0_init_81219_3 gJ0_489 w_1250 rfl rfl rfl rfl (Nat.le_of_ble_eq_true rfl) ⟨by decide, by decide, (by decide), (by decide)⟩ h1 h2 h3
theorem eJ0_init_81219_b {G : GG} (gk : GOK G) {σ : Mm} {K : RES → Mm → Prop} {x0 : Option Nat} {x1 : Option Nat}
    (h : ∃ a1, x0 = some a1 ∧ ∃ K2 : RES → Mm → Prop, Runs G mJ0_init_db425 rJ0_init_db425_b [(vR (some a1)), (vR x1), (vR none)] σ K2 ∧ (∀ E t, ¬ K2 (.inr E) t) ∧ (∀ v t, K2 (.inl v) t → At G mJ0_init_81219 rJ0_init_81219_b (1) (140) 6 [some (vR (some a1)), some (vR x1)] (v.toList ++ []) t K)) : Runs G mJ0_init_81219 rJ0_init_81219_b [(vR x0), (vR x1)] σ K := Runs.ofF (by decide +kernel) rfl (Nat.le_of_ble_eq_true rfl) (vJ0_init_81219_b_0 gk h)
theorem vJ0_init_81219_b_6 {G : GG} (gk : GOK G) {σ : Mm} {K : RES → Mm → Prop} {x0 : Option Nat} {x1 : Option Nat}
    (h : K (.inl none) σ) : At G mJ0_init_81219 rJ0_init_81219_b 1 140 6 [some (vR x0), some (vR x1)] [] σ K := by
  exact s_return dJ0_init_81219_6 rfl (by decide) (by decide) h
theorem vJ4_toString_0e30d_b_0 {G : GG} (gk : GOK G) {σ : Mm} {K : RES → Mm → Prop} {x0 : Option Nat}
    (h : ∀ σ1, σ1 = nw σ (10, 0) → ∃ K2 : RES → Mm → Prop, Runs G mJ0_init_81219 rJ0_init_81219_b [(vR (some (mz σ))), (vR x0)] σ1 K2 ∧ (∀ E t, ¬ K2 (.inr E) t) ∧ (∀ v t, K2 (.inl v) t → At G mJ4_toString_0e30d rJ4_toString_0e30d_b (2) (144) 8 [some (vR x0)] (v.toList ++ [(vR (some (mz σ)))]) t K)) : At G mJ4_toString_0e30d rJ4_toString_0e30d_b 0 0 0 [some (vR x0)] [] σ K := by
  refine t_new gk dJ4_toString_0e30d_0 nJ4_18 (by decide) (by decide) (fun σ1 eσ1 => ?_)
  replace h := h σ1 eσ1
  refine s_dup dJ4_toString_0e30d_3 rfl ?_
  refine s_aload_n (i := 0) dJ4_toString_0e30d_4 rfl rfl ?_
  obtain ⟨K2, h1, h2, h3⟩ := h
  exact s_callI (rmY := rJ0_init_81219_b) (a := mz σ) (as := [(vR x0)]) (S := [(vR (some (mz σ)))]) gk dJ4_toString_0e30d_5 gJ4_137 w_1247 rfl rfl rfl rfl (Nat.le_of_ble_eq_true rfl) ⟨by decide, by decide, (by decide), (by decide)⟩ h1 h2 h3
theorem eJ4_toString_0e30d_b {G : GG} (gk : GOK G) {σ : Mm} {K : RES → Mm → Prop} {x0 : Option Nat}
    (h : ∀ σ1, σ1 = nw σ (10, 0) → ∃ K2 : RES → Mm → Prop, Runs G mJ0_init_81219 rJ0_init_81219_b [(vR (some (mz σ))), (vR x0)] σ1 K2 ∧ (∀ E t, ¬ K2 (.inr E) t) ∧ (∀ v t, K2 (.inl v) t → At G mJ4_toString_0e30d rJ4_toString_0e30d_b (2) (144) 8 [some (vR x0)] (v.toList ++ [(vR (some (mz σ)))]) t K)) : Runs G mJ4_toString_0e30d rJ4_toString_0e30d_b [(vR x0)] σ K := Runs.ofF (by decide +kernel) rfl (Nat.le_of_ble_eq_true rfl) (vJ4_toString_0e30d_b_0 gk h)
theorem vJ4_toString_0e30d_b_8 {G : GG} (gk : GOK G) {σ : Mm} {K : RES → Mm → Prop} {x0 : Option Nat} {s0 : Option Nat}
    (h : K (.inl (some (vR s0))) σ) : At G mJ4_toString_0e30d rJ4_toString_0e30d_b 2 144 8 [some (vR x0)] [(vR s0)] σ K := by
  exact s_areturn dJ4_toString_0e30d_8 rfl rfl (by decide) (by decide) h
theorem vJ5_inflateIfNeededFor_a7421_0 {G : GG} (gk : GOK G) (sok : SOK G) {σ : Mm} {K : RES → Mm → Prop} {x0 : Option Nat} {x1 : Option Nat}
    (h : (((1 : Int32) = 0 → K (.inl none) σ) ∧ (¬ (1 : Int32) = 0 → ∃ a2, x0 = some a2 ∧ (mt σ a2).1 = 11 ∧ ∃ a4, x1 = some a4 ∧ oSV G σ a4 ∧ Runs G mJ0_coder_7d493 rJ0_coder_7d493 [(vR x1)] σ (bk G mJ5_inflateIfNeededFor_a7421 rJ5_inflateIfNeededFor_a7421 0 0 14 [some (vR x0), some (vR x1)] [(vI (mi σ a2 1))] K)))) : At G mJ5_inflateIfNeededFor_a7421 rJ5_inflateIfNeededFor_a7421 0 0 0 [some (vR x0), some (vR x1)] [] σ K := by
  refine s_getZ (v := vI 1) gk dJ5_inflateIfNeededFor_a7421_0 w_312 sok.1 ?_
  refine s_if_eq (tgt := 21) dJ5_inflateIfNeededFor_a7421_3 (by decide) (fun q1 => ?_) (fun q1 => ?_)
  · have h := h.1 q1
    exact s_return dJ5_inflateIfNeededFor_a7421_21 rfl (by decide) (by decide) h
  · have h := h.2 q1
    refine s_aload_n (i := 0) dJ5_inflateIfNeededFor_a7421_6 rfl rfl ?_
    obtain ⟨a2, ea2, h⟩ := h
    obtain ⟨t3, h⟩ := h
    refine t_getI gk dJ5_inflateIfNeededFor_a7421_7 fJ5_22 rfl ea2 t3 ?_
    refine s_aload_n (i := 1) dJ5_inflateIfNeededFor_a7421_10 rfl rfl ?_
    obtain ⟨a4, ea4, h⟩ := h
    obtain ⟨o5, h⟩ := h
    exact s_callSV (rmY := rJ0_coder_7d493) (as := []) (S := [(vI (mi σ a2 1))]) gk dJ5_inflateIfNeededFor_a7421_11 gJ5_40 rfl w_1163 w_1164 ea4 o5 rfl rfl (Nat.le_of_ble_eq_true rfl) (by decide) h
theorem eJ5_inflateIfNeededFor_a7421 {G : GG} (gk : GOK G) (sok : SOK G) {σ : Mm} {K : RES → Mm → Prop} {x0 : Option Nat} {x1 : Option Nat}
    (h : (((1 : Int32) = 0 → K (.inl none) σ) ∧ (¬ (1 : Int32) = 0 → ∃ a2, x0 = some a2 ∧ (mt σ a2).1 = 11 ∧ ∃ a4, x1 = some a4 ∧ oSV G σ a4 ∧ Runs G mJ0_coder_7d493 rJ0_coder_7d493 [(vR x1)] σ (bk G mJ5_inflateIfNeededFor_a7421 rJ5_inflateIfNeededFor_a7421 0 0 14 [some (vR x0), some (vR x1)] [(vI (mi σ a2 1))] K)))) : Runs G mJ5_inflateIfNeededFor_a7421 rJ5_inflateIfNeededFor_a7421 [(vR x0), (vR x1)] σ K := Runs.ofF (by decide +kernel) rfl (Nat.le_of_ble_eq_true rfl) (vJ5_inflateIfNeededFor_a7421_0 gk sok h)
theorem vJ5_inflateIfNeededFor_a7421_14 {G : GG} (gk : GOK G) {σ : Mm} {K : RES → Mm → Prop} {x0 : Option Nat} {x1 : Option Nat} {s0 : Int32} {s1 : Int32}
    (h : ((s1 = s0 → K (.inl none) σ) ∧ (¬ s1 = s0 → False))) : At G mJ5_inflateIfNeededFor_a7421 rJ5_inflateIfNeededFor_a7421 0 0 14 [some (vR x0), some (vR x1)] [(vI s0), (vI s1)] σ K := by
  refine s_icmp_eq (tgt := 21) dJ5_inflateIfNeededFor_a7421_14 (by decide) (fun q1 => ?_) (fun q1 => ?_)
  · have h := h.1 q1
    exact s_return dJ5_inflateIfNeededFor_a7421_21 rfl (by decide) (by decide) h
  · have h := h.2 q1
    refine s_aload_n (i := 0) dJ5_inflateIfNeededFor_a7421_17 rfl rfl ?_
    exact h.elim
theorem vJ5_putStringAt_47b60_0 {G : GG} (gk : GOK G) {σ : Mm} {K : RES → Mm → Prop} {x0 : Option Nat} {x1 : Int32} {x2 : Option Nat}
    (h : ∃ a1, x0 = some a1 ∧ (mt σ a1).1 = 11 ∧ Runs G mJ5_inflateIfNeededFor_a7421 rJ5_inflateIfNeededFor_a7421 [(vR x0), (vR x2)] σ (bk G mJ5_putStringAt_47b60 rJ5_putStringAt_47b60 0 0 5 [some (vR x0), some (vI x1), some (vR x2)] [] K)) : At G mJ5_putStringAt_47b60 rJ5_putStringAt_47b60 0 0 0 [some (vR x0), some (vI x1), some (vR x2)] [] σ K := by
  refine s_aload_n (i := 0) dJ5_putStringAt_47b60_0 rfl rfl ?_
  refine s_aload_n (i := 2) dJ5_putStringAt_47b60_1 rfl rfl ?_
  obtain ⟨a1, ea1, h⟩ := h
  obtain ⟨t2, h⟩ := h
  exact s_callVC (ci := 10) (as := [(vR x2)]) (S := []) gk dJ5_putStringAt_47b60_2 gJ5_397 (by decide) w_1172 (sl_J5_inflateIfNeededFor_a7421 gk) ea1 t2 rfl rfl (Nat.le_of_ble_eq_true rfl) (by decide) h
theorem eJ5_putStringAt_47b60 {G : GG} (gk : GOK G) {σ : Mm} {K : RES → Mm → Prop} {x0 : Option Nat} {x1 : Int32} {x2 : Option Nat}
    (h : ∃ a1, x0 = some a1 ∧ (mt σ a1).1 = 11 ∧ Runs G mJ5_inflateIfNeededFor_a7421 rJ5_inflateIfNeededFor_a7421 [(vR x0), (vR x2)] σ (bk G mJ5_putStringAt_47b60 rJ5_putStringAt_47b60 0 0 5 [some (vR x0), some (vI x1), some (vR x2)] [] K)) : Runs G mJ5_putStringAt_47b60 rJ5_putStringAt_47b60 [(vR x0), (vI x1), (vR x2)] σ K := Runs.ofF (by decide +kernel) rfl (Nat.le_of_ble_eq_true rfl) (vJ5_putStringAt_47b60_0 gk h)
theorem vJ5_putStringAt_47b60_5 {G : GG} (gk : GOK G) {σ : Mm} {K : RES → Mm → Prop} {x0 : Option Nat} {x1 : Int32} {x2 : Option Nat}
    (h : ∃ a1, x0 = some a1 ∧ (mt σ a1).1 = 11 ∧ ∃ a3, x2 = some a3 ∧ oSV G σ a3 ∧ Runs G mJ0_getBytes_840e7 rJ0_getBytes_840e7 [(vR x2), (vR (mr σ a1 0)), (vI x1), (vI (mi σ a1 1))] σ (bk G mJ5_putStringAt_47b60 rJ5_putStringAt_47b60 0 0 18 [some (vR x0), some (vI x1), some (vR x2)] [] K)) : At G mJ5_putStringAt_47b60 rJ5_putStringAt_47b60 0 0 5 [some (vR x0), some (vI x1), some (vR x2)] [] σ K := by
  refine s_aload_n (i := 2) dJ5_putStringAt_47b60_5 rfl rfl ?_
  refine s_aload_n (i := 0) dJ5_putStringAt_47b60_6 rfl rfl ?_
  obtain ⟨a1, ea1, h⟩ := h
  obtain ⟨t2, h⟩ := h
  refine t_getR gk dJ5_putStringAt_47b60_7 fJ5_15 rfl ea1 t2 ?_
  refine s_iload_n (i := 1) dJ5_putStringAt_47b60_10 rfl rfl ?_
  refine s_aload_n (i := 0) dJ5_putStringAt_47b60_11 rfl rfl ?_
  refine t_getI gk dJ5_putStringAt_47b60_12 fJ5_22 rfl ea1 t2 ?_
  obtain ⟨a3, ea3, h⟩ := h
  obtain ⟨o4, h⟩ := h
  exact s_callSV (rmY := rJ0_getBytes_840e7) (as := [(vR (mr σ a1 0)), (vI x1), (vI (mi σ a1 1))]) (S := []) gk dJ5_putStringAt_47b60_15 gJ5_399 rfl w_1195 w_1196 ea3 o4 rfl rfl (Nat.le_of_ble_eq_true rfl) (by decide) h
theorem vJ5_putStringAt_47b60_18 {G : GG} (gk : GOK G) {σ : Mm} {K : RES → Mm → Prop} {x0 : Option Nat} {x1 : Int32} {x2 : Option Nat}
    (h : K (.inl none) σ) : At G mJ5_putStringAt_47b60 rJ5_putStringAt_47b60 0 0 18 [some (vR x0), some (vI x1), some (vR x2)] [] σ K := by
  exact s_return dJ5_putStringAt_47b60_18 rfl (by decide) (by decide) h
theorem vJ5_append_cf1ce_b_0 {G : GG} (gk : GOK G) {σ : Mm} {K : RES → Mm → Prop} {x0 : Option Nat} {x1 : Option Nat}
    (h : ((x1 = none → False) ∧ (∀ a2, x1 = some a2 → oSV G σ a2 ∧ Runs G mJ0_length_8abf5 rJ0_length_8abf5 [(vR x1)] σ (bk G mJ5_append_cf1ce rJ5_append_cf1ce_b 0 0 13 [some (vR x0), some (vR x1), none] [] K)))) : At G mJ5_append_cf1ce rJ5_append_cf1ce_b 0 0 0 [some (vR x0), some (vR x1), none] [] σ K := by
  refine s_aload_n (i := 1) dJ5_append_cf1ce_0 rfl rfl ?_
  refine s_ifnonnull (tgt := 9) dJ5_append_cf1ce_1 (by decide) (fun a2 ea2 => ?_) (fun q1 => ?_)
  · have h := h.2 a2 ea2
    refine s_aload_n (i := 1) dJ5_append_cf1ce_9 rfl rfl ?_
    obtain ⟨o3, h⟩ := h
    exact s_callSV (rmY := rJ0_length_8abf5) (as := []) (S := []) gk dJ5_append_cf1ce_10 gJ5_32 rfl w_1159 w_1160 ea2 o3 rfl rfl (Nat.le_of_ble_eq_true rfl) (by decide) h
  · have h := h.1 q1
    refine s_aload_n (i := 0) dJ5_append_cf1ce_4 rfl rfl ?_
    exact h.elim
theorem eJ5_append_cf1ce_b {G : GG} (gk : GOK G) {σ : Mm} {K : RES → Mm → Prop} {x0 : Option Nat} {x1 : Option Nat}
    (h : ((x1 = none → False) ∧ (∀ a2, x1 = some a2 → oSV G σ a2 ∧ Runs G mJ0_length_8abf5 rJ0_length_8abf5 [(vR x1)] σ (bk G mJ5_append_cf1ce rJ5_append_cf1ce_b 0 0 13 [some (vR x0), some (vR x1), none] [] K)))) : Runs G mJ5_append_cf1ce rJ5_append_cf1ce_b [(vR x0), (vR x1)] σ K := Runs.ofF (by decide +kernel) rfl (Nat.le_of_ble_eq_true rfl) (vJ5_append_cf1ce_b_0 gk h)
theorem vJ5_append_cf1ce_b_13 {G : GG} (gk : GOK G) {σ : Mm} {K : RES → Mm → Prop} {x0 : Option Nat} {x1 : Option Nat} {s0 : Int32}
    (h : ∃ a1, x0 = some a1 ∧ (mt σ a1).1 = 11 ∧ Runs G mJ5_ensureCapacityInternal_d00df rJ5_ensureCapacityInternal_d00df_b [(vR x0), (vI ((mi σ a1 3) + s0))] σ (bk G mJ5_append_cf1ce rJ5_append_cf1ce_b 1 140 24 [some (vR x0), some (vR x1), some (vI s0)] [] K)) : At G mJ5_append_cf1ce rJ5_append_cf1ce_b 0 0 13 [some (vR x0), some (vR x1), none] [(vI s0)] σ K := by
  refine s_istore_n (i := 2) (L' := [some (vR x0), some (vR x1), some (vI s0)]) dJ5_append_cf1ce_13 rfl rfl (by decide) rfl ?_
  refine s_aload_n (i := 0) dJ5_append_cf1ce_14 rfl rfl ?_
  refine s_aload_n (i := 0) dJ5_append_cf1ce_15 rfl rfl ?_
  obtain ⟨a1, ea1, h⟩ := h
  obtain ⟨t2, h⟩ := h
  refine t_getI gk dJ5_append_cf1ce_16 fJ5_79 rfl ea1 t2 ?_
  refine s_iload_n (i := 2) dJ5_append_cf1ce_19 rfl rfl ?_
  refine s_iadd dJ5_append_cf1ce_20 ?_
  exact s_callVC (ci := 10) (as := [(vI ((mi σ a1 3) + s0))]) (S := []) gk dJ5_append_cf1ce_21 gJ5_100 (by decide) w_1105 (sl_J5_ensureCapacityInternal_d00df gk) ea1 t2 rfl rfl (Nat.le_of_ble_eq_true rfl) (by decide) h
theorem vJ5_append_cf1ce_b_24 {G : GG} (gk : GOK G) {σ : Mm} {K : RES → Mm → Prop} {x0 : Option Nat} {x1 : Option Nat} {x2 : Int32}
    (h : ∃ a1, x0 = some a1 ∧ (mt σ a1).1 = 11 ∧ Runs G mJ5_putStringAt_47b60 rJ5_putStringAt_47b60 [(vR x0), (vI (mi σ a1 3)), (vR x1)] σ (bk G mJ5_append_cf1ce rJ5_append_cf1ce_b 1 140 33 [some (vR x0), some (vR x1), some (vI x2)] [] K)) : At G mJ5_append_cf1ce rJ5_append_cf1ce_b 1 140 24 [some (vR x0), some (vR x1), some (vI x2)] [] σ K := by
  refine s_aload_n (i := 0) dJ5_append_cf1ce_24 rfl rfl ?_
  refine s_aload_n (i := 0) dJ5_append_cf1ce_25 rfl rfl ?_
  obtain ⟨a1, ea1, h⟩ := h
  obtain ⟨t2, h⟩ := h
  refine t_getI gk dJ5_append_cf1ce_26 fJ5_79 rfl ea1 t2 ?_
  refine s_aload_n (i := 1) dJ5_append_cf1ce_29 rfl rfl ?_
  exact s_callVC (ci := 10) (as := [(vI (mi σ a1 3)), (vR x1)]) (S := []) gk dJ5_append_cf1ce_30 gJ5_208 (by decide) w_1168 (sl_J5_putStringAt_47b60 gk) ea1 t2 rfl rfl (Nat.le_of_ble_eq_true rfl) (by decide) h
theorem vJ5_append_cf1ce_b_33 {G : GG} (gk : GOK G) {σ : Mm} {K : RES → Mm → Prop} {x0 : Option Nat} {x1 : Option Nat} {x2 : Int32}
    (h : ∃ a1, x0 = some a1 ∧ (mt σ a1).1 = 11 ∧ ∀ σ3, σ3 = si σ a1 3 ((mi σ a1 3) + x2) → K (.inl (some (vR x0))) σ3) : At G mJ5_append_cf1ce rJ5_append_cf1ce_b 1 140 33 [some (vR x0), some (vR x1), some (vI x2)] [] σ K := by
  refine s_aload_n (i := 0) dJ5_append_cf1ce_33 rfl rfl ?_
  refine s_dup dJ5_append_cf1ce_34 rfl ?_
  obtain ⟨a1, ea1, h⟩ := h
  obtain ⟨t2, h⟩ := h
  refine t_getI gk dJ5_append_cf1ce_35 fJ5_79 rfl ea1 t2 ?_
  refine s_iload_n (i := 2) dJ5_append_cf1ce_38 rfl rfl ?_
  refine s_iadd dJ5_append_cf1ce_39 ?_
  refine t_putI gk dJ5_append_cf1ce_40 fJ5_79 rfl rfl ea1 t2 ⟨rfl, rfl⟩ (fun σ3 eσ3 mσ3 => ?_)
  replace h := h σ3 eσ3
  refine s_aload_n (i := 0) dJ5_append_cf1ce_43 rfl rfl ?_
  exact s_areturn dJ5_append_cf1ce_44 rfl rfl (by decide) (by decide) h
theorem vJ4_append_15ec4_b_0 {G : GG} (gk : GOK G) {σ : Mm} {K : RES → Mm → Prop} {x0 : Option Nat} {x1 : Option Nat}
    (h : ∃ a1, x0 = some a1 ∧ (mt σ a1).1 = 11 ∧ ∃ K3 : RES → Mm → Prop, Runs G mJ5_append_cf1ce rJ5_append_cf1ce_b [(vR x0), (vR x1)] σ K3 ∧ (∀ E t, ¬ K3 (.inr E) t) ∧ (∀ v t, K3 (.inl v) t → At G mJ4_append_15ec4 rJ4_append_15ec4_b (1) (140) 5 [some (vR x0), some (vR x1)] (v.toList ++ []) t K)) : At G mJ4_append_15ec4 rJ4_append_15ec4_b 0 0 0 [some (vR x0), some (vR x1)] [] σ K := by
  refine s_aload_n (i := 0) dJ4_append_15ec4_0 rfl rfl ?_
  refine s_aload_n (i := 1) dJ4_append_15ec4_1 rfl rfl ?_
  obtain ⟨a1, ea1, h⟩ := h
  obtain ⟨t2, h⟩ := h
  obtain ⟨K3, h1, h2, h3⟩ := h
  exact s_callSU (ci := 10) (as := [(vR x1)]) (S := []) gk dJ4_append_15ec4_2 gJ4_29 (by decide) w_1097 w_1558 w_334 (by decide) ea1 t2 rfl rfl (Nat.le_of_ble_eq_true rfl) (by decide) h1 h2 h3
theorem eJ4_append_15ec4_b {G : GG} (gk : GOK G) {σ : Mm} {K : RES → Mm → Prop} {x0 : Option Nat} {x1 : Option Nat}
    (h : ∃ a1, x0 = some a1 ∧ (mt σ a1).1 = 11 ∧ ∃ K3 : RES → Mm → Prop, Runs G mJ5_append_cf1ce rJ5_append_cf1ce_b [(vR x0), (vR x1)] σ K3 ∧ (∀ E t, ¬ K3 (.inr E) t) ∧ (∀ v t, K3 (.inl v) t → At G mJ4_append_15ec4 rJ4_append_15ec4_b (1) (140) 5 [some (vR x0), some (vR x1)] (v.toList ++ []) t K)) : Runs G mJ4_append_15ec4 rJ4_append_15ec4_b [(vR x0), (vR x1)] σ K := Runs.ofF (by decide +kernel) rfl (Nat.le_of_ble_eq_true rfl) (vJ4_append_15ec4_b_0 gk h)
theorem vJ4_append_15ec4_b_5 {G : GG} (gk : GOK G) {σ : Mm} {K : RES → Mm → Prop} {x0 : Option Nat} {x1 : Option Nat} {s0 : Option Nat}
    (h : K (.inl (some (vR x0))) σ) : At G mJ4_append_15ec4 rJ4_append_15ec4_b 1 140 5 [some (vR x0), some (vR x1)] [(vR s0)] σ K := by
  refine s_pop dJ4_append_15ec4_5 rfl ?_
  refine s_aload_n (i := 0) dJ4_append_15ec4_6 rfl rfl ?_
  exact s_areturn dJ4_append_15ec4_7 rfl rfl (by decide) (by decide) h
theorem vJ0_coder_7d493_0 {G : GG} (gk : GOK G) (sok : SOK G) {σ : Mm} {K : RES → Mm → Prop} {x0 : Option Nat}
    (h : (((1 : Int32) = 0 → K (.inl (some (vI (1 : Int32)))) σ) ∧ (¬ (1 : Int32) = 0 → ∃ a2, x0 = some a2 ∧ (mt σ a2).1 = 10 ∧ isB (mi σ a2 1) ∧ K (.inl (some (vI (mi σ a2 1)))) σ))) : At G mJ0_coder_7d493 rJ0_coder_7d493 0 0 0 [some (vR x0)] [] σ K := by
  refine s_getZ (v := vI 1) gk dJ0_coder_7d493_0 w_568 sok.1 ?_
  refine s_if_eq (tgt := 13) dJ0_coder_7d493_3 (by decide) (fun q1 => ?_) (fun q1 => ?_)
  · have h := h.1 q1
    refine s_iconst (v := 1) dJ0_coder_7d493_13 (by decide) ?_
    exact s_ireturn dJ0_coder_7d493_14 rfl rfl (by decide) (by decide) h
  · have h := h.2 q1
    refine s_aload_n (i := 0) dJ0_coder_7d493_6 rfl rfl ?_
    obtain ⟨a2, ea2, h⟩ := h
    obtain ⟨t3, h⟩ := h
    refine t_getI gk dJ0_coder_7d493_7 fJ0_15 rfl ea2 t3 ?_
    refine s_goto (tgt := 14) dJ0_coder_7d493_10 (by decide) ?_
    obtain ⟨c4, h⟩ := h
    exact s_ireturn dJ0_coder_7d493_14 rfl (nf_b c4).1 (by decide) (by decide) h
theorem eJ0_coder_7d493 {G : GG} (gk : GOK G) (sok : SOK G) {σ : Mm} {K : RES → Mm → Prop} {x0 : Option Nat}
    (h : (((1 : Int32) = 0 → K (.inl (some (vI (1 : Int32)))) σ) ∧ (¬ (1 : Int32) = 0 → ∃ a2, x0 = some a2 ∧ (mt σ a2).1 = 10 ∧ isB (mi σ a2 1) ∧ K (.inl (some (vI (mi σ a2 1)))) σ))) : Runs G mJ0_coder_7d493 rJ0_coder_7d493 [(vR x0)] σ K := Runs.ofF (by decide +kernel) rfl (Nat.le_of_ble_eq_true rfl) (vJ0_coder_7d493_0 gk sok h)
theorem vJ0_isLatin1_aae02_0 {G : GG} (gk : GOK G) (sok : SOK G) {σ : Mm} {K : RES → Mm → Prop} {x0 : Option Nat}
    (h : (((1 : Int32) = 0 → K (.inl (some (vI (0 : Int32)))) σ) ∧ (¬ (1 : Int32) = 0 → ∃ a2, x0 = some a2 ∧ (mt σ a2).1 = 10 ∧ ((¬ (mi σ a2 1) = 0 → K (.inl (some (vI (0 : Int32)))) σ) ∧ ((mi σ a2 1) = 0 → K (.inl (some (vI (1 : Int32)))) σ))))) : At G mJ0_isLatin1_aae02 rJ0_isLatin1_aae02 0 0 0 [some (vR x0)] [] σ K := by
  refine s_getZ (v := vI 1) gk dJ0_isLatin1_aae02_0 w_568 sok.1 ?_
  refine s_if_eq (tgt := 17) dJ0_isLatin1_aae02_3 (by decide) (fun q1 => ?_) (fun q1 => ?_)
  · have h := h.1 q1
    refine s_iconst (v := 0) dJ0_isLatin1_aae02_17 (by decide) ?_
    exact s_ireturn dJ0_isLatin1_aae02_18 rfl rfl (by decide) (by decide) h
  · have h := h.2 q1
    refine s_aload_n (i := 0) dJ0_isLatin1_aae02_6 rfl rfl ?_
    obtain ⟨a2, ea2, h⟩ := h
    obtain ⟨t3, h⟩ := h
    refine t_getI gk dJ0_isLatin1_aae02_7 fJ0_15 rfl ea2 t3 ?_
    refine s_if_ne (tgt := 17) dJ0_isLatin1_aae02_10 (by decide) (fun q4 => ?_) (fun q4 => ?_)
    · have h := h.1 q4
      refine s_iconst (v := 0) dJ0_isLatin1_aae02_17 (by decide) ?_
      exact s_ireturn dJ0_isLatin1_aae02_18 rfl rfl (by decide) (by decide) h
    · have h := h.2 q4
      refine s_iconst (v := 1) dJ0_isLatin1_aae02_13 (by decide) ?_
      refine s_goto (tgt := 18) dJ0_isLatin1_aae02_14 (by decide) ?_
      exact s_ireturn dJ0_isLatin1_aae02_18 rfl rfl (by decide) (by decide) h
theorem eJ0_isLatin1_aae02 {G : GG} (gk : GOK G) (sok : SOK G) {σ : Mm} {K : RES → Mm → Prop} {x0 : Option Nat}
    (h : (((1 : Int32) = 0 → K (.inl (some (vI (0 : Int32)))) σ) ∧ (¬ (1 : Int32) = 0 → ∃ a2, x0 = some a2 ∧ (mt σ a2).1 = 10 ∧ ((¬ (mi σ a2 1) = 0 → K (.inl (some (vI (0 : Int32)))) σ) ∧ ((mi σ a2 1) = 0 → K (.inl (some (vI (1 : Int32)))) σ))))) : Runs G mJ0_isLatin1_aae02 rJ0_isLatin1_aae02 [(vR x0)] σ K := Runs.ofF (by decide +kernel) rfl (Nat.le_of_ble_eq_true rfl) (vJ0_isLatin1_aae02_0 gk sok h)
theorem vJ0_length_8abf5_0 {G : GG} (gk : GOK G) {σ : Mm} {K : RES → Mm → Prop} {x0 : Option Nat}
    (h : ∃ a1, x0 = some a1 ∧ (mt σ a1).1 = 10 ∧ ∃ a3, mr σ a1 0 = some a3 ∧ ∃ n5, mt σ a3 = (54, n5) ∧ Runs G mJ0_coder_7d493 rJ0_coder_7d493 [(vR x0)] σ (bk G mJ0_length_8abf5 rJ0_length_8abf5 0 0 9 [some (vR x0)] [(vI (nI n5))] K)) : At G mJ0_length_8abf5 rJ0_length_8abf5 0 0 0 [some (vR x0)] [] σ K := by
  refine s_aload_n (i := 0) dJ0_length_8abf5_0 rfl rfl ?_
  obtain ⟨a1, ea1, h⟩ := h
  obtain ⟨t2, h⟩ := h
  refine t_getR gk dJ0_length_8abf5_1 fJ0_9 rfl ea1 t2 ?_
  obtain ⟨a3, ea3, h⟩ := h
  obtain ⟨n5, t4, h⟩ := h
  refine t_alen (j := 4) gk dJ0_length_8abf5_4 (by decide) ea3 t4 ?_
  refine s_aload_n (i := 0) dJ0_length_8abf5_5 rfl rfl ?_
  exact t_callV (rmY := rJ0_coder_7d493) (ci := 9) (as := []) (S := [(vI (nI n5))]) gk dJ0_length_8abf5_6 gJ0_335 (by decide) rfl w_1163 w_1164 ea1 t2 rfl rfl (Nat.le_of_ble_eq_true rfl) (by decide) h
theorem eJ0_length_8abf5 {G : GG} (gk : GOK G) {σ : Mm} {K : RES → Mm → Prop} {x0 : Option Nat}
    (h : ∃ a1, x0 = some a1 ∧ (mt σ a1).1 = 10 ∧ ∃ a3, mr σ a1 0 = some a3 ∧ ∃ n5, mt σ a3 = (54, n5) ∧ Runs G mJ0_coder_7d493 rJ0_coder_7d493 [(vR x0)] σ (bk G mJ0_length_8abf5 rJ0_length_8abf5 0 0 9 [some (vR x0)] [(vI (nI n5))] K)) : Runs G mJ0_length_8abf5 rJ0_length_8abf5 [(vR x0)] σ K := Runs.ofF (by decide +kernel) rfl (Nat.le_of_ble_eq_true rfl) (vJ0_length_8abf5_0 gk h)
theorem vJ0_length_8abf5_9 {G : GG} (gk : GOK G) {σ : Mm} {K : RES → Mm → Prop} {x0 : Option Nat} {s0 : Int32} {s1 : Int32}
    (h : K (.inl (some (vI (s1 >>> (s0 &&& 31))))) σ) : At G mJ0_length_8abf5 rJ0_length_8abf5 0 0 9 [some (vR x0)] [(vI s0), (vI s1)] σ K := by
  refine s_ishr dJ0_length_8abf5_9 ?_
  exact s_ireturn dJ0_length_8abf5_10 rfl rfl (by decide) (by decide) h
theorem vJ0_charAt_5068e_0 {G : GG} (gk : GOK G) {σ : Mm} {K : RES → Mm → Prop} {x0 : Option Nat} {x1 : Int32}
    (h : ∃ a1, x0 = some a1 ∧ (mt σ a1).1 = 10 ∧ Runs G mJ0_isLatin1_aae02 rJ0_isLatin1_aae02 [(vR x0)] σ (bk G mJ0_charAt_5068e rJ0_charAt_5068e 0 0 4 [some (vR x0), some (vI x1)] [] K)) : At G mJ0_charAt_5068e rJ0_charAt_5068e 0 0 0 [some (vR x0), some (vI x1)] [] σ K := by
  refine s_aload_n (i := 0) dJ0_charAt_5068e_0 rfl rfl ?_
  obtain ⟨a1, ea1, h⟩ := h
  obtain ⟨t2, h⟩ := h
  exact t_callV (rmY := rJ0_isLatin1_aae02) (ci := 9) (as := []) (S := []) gk dJ0_charAt_5068e_1 gJ0_492 (by decide) rfl w_565 w_566 ea1 t2 rfl rfl (Nat.le_of_ble_eq_true rfl) (by decide) h
theorem eJ0_charAt_5068e {G : GG} (gk : GOK G) {σ : Mm} {K : RES → Mm → Prop} {x0 : Option Nat} {x1 : Int32}
    (h : ∃ a1, x0 = some a1 ∧ (mt σ a1).1 = 10 ∧ Runs G mJ0_isLatin1_aae02 rJ0_isLatin1_aae02 [(vR x0)] σ (bk G mJ0_charAt_5068e rJ0_charAt_5068e 0 0 4 [some (vR x0), some (vI x1)] [] K)) : Runs G mJ0_charAt_5068e rJ0_charAt_5068e [(vR x0), (vI x1)] σ K := Runs.ofF (by decide +kernel) rfl (Nat.le_of_ble_eq_true rfl) (vJ0_charAt_5068e_0 gk h)
theorem vJ0_charAt_5068e_4 {G : GG} (gk : GOK G) {σ : Mm} {K : RES → Mm → Prop} {x0 : Option Nat} {x1 : Int32} {s0 : Int32}
    (h : ((s0 = 0 → ∃ a2, x0 = some a2 ∧ (mt σ a2).1 = 10 ∧ False) ∧ (¬ s0 = 0 → ∃ a4, x0 = some a4 ∧ (mt σ a4).1 = 10 ∧ Runs G mJ1_charAt_3b067 rJ1_charAt_3b067 [(vR (mr σ a4 0)), (vI x1)] σ (bk G mJ0_charAt_5068e rJ0_charAt_5068e 0 0 15 [some (vR x0), some (vI x1)] [] K)))) : At G mJ0_charAt_5068e rJ0_charAt_5068e 0 0 4 [some (vR x0), some (vI x1)] [(vI s0)] σ K := by
  refine s_if_eq (tgt := 16) dJ0_charAt_5068e_4 (by decide) (fun q1 => ?_) (fun q1 => ?_)
  · have h := h.1 q1
    refine s_aload_n (i := 0) dJ0_charAt_5068e_16 rfl rfl ?_
    obtain ⟨a2, ea2, h⟩ := h
    obtain ⟨t3, h⟩ := h
    refine t_getR gk dJ0_charAt_5068e_17 fJ0_9 rfl ea2 t3 ?_
    refine s_iload_n (i := 1) dJ0_charAt_5068e_20 rfl rfl ?_
    exact h.elim
  · have h := h.2 q1
    refine s_aload_n (i := 0) dJ0_charAt_5068e_7 rfl rfl ?_
    obtain ⟨a4, ea4, h⟩ := h
    obtain ⟨t5, h⟩ := h
    refine t_getR gk dJ0_charAt_5068e_8 fJ0_9 rfl ea4 t5 ?_
    refine s_iload_n (i := 1) dJ0_charAt_5068e_11 rfl rfl ?_
    exact s_callS (as := [(vR (mr σ a4 0)), (vI x1)]) (S := []) gk dJ0_charAt_5068e_12 gJ0_495 w_570 rfl rfl (Nat.le_of_ble_eq_true rfl) (by decide) h
theorem vJ0_charAt_5068e_15 {G : GG} (gk : GOK G) {σ : Mm} {K : RES → Mm → Prop} {x0 : Option Nat} {x1 : Int32} {s0 : Int32}
    (h : isC s0 ∧ K (.inl (some (vI s0))) σ) : At G mJ0_charAt_5068e rJ0_charAt_5068e 0 0 15 [some (vR x0), some (vI x1)] [(vI s0)] σ K := by
  obtain ⟨c1, h⟩ := h
  exact s_ireturn dJ0_charAt_5068e_15 rfl (nf_c c1).1 (by decide) (by decide) h
theorem vJ1_charAt_3b067_0 {G : GG} (gk : GOK G) {σ : Mm} {K : RES → Mm → Prop} {x0 : Option Nat} {x1 : Int32}
    (h : ∃ a1, x0 = some a1 ∧ ∃ n3, mt σ a1 = (54, n3) ∧ Runs G mJ0_checkIndex_df160 rJ0_checkIndex_df160 [(vI x1), (vI (nI n3))] σ (bk G mJ1_charAt_3b067 rJ1_charAt_3b067 0 0 6 [some (vR x0), some (vI x1)] [] K)) : At G mJ1_charAt_3b067 rJ1_charAt_3b067 0 0 0 [some (vR x0), some (vI x1)] [] σ K := by
  refine s_iload_n (i := 1) dJ1_charAt_3b067_0 rfl rfl ?_
  refine s_aload_n (i := 0) dJ1_charAt_3b067_1 rfl rfl ?_
  obtain ⟨a1, ea1, h⟩ := h
  obtain ⟨n3, t2, h⟩ := h
  refine t_alen (j := 4) gk dJ1_charAt_3b067_2 (by decide) ea1 t2 ?_
  exact s_callS (as := [(vI x1), (vI (nI n3))]) (S := []) gk dJ1_charAt_3b067_3 gJ1_9 w_573 rfl rfl (Nat.le_of_ble_eq_true rfl) (by decide) h
theorem eJ1_charAt_3b067 {G : GG} (gk : GOK G) {σ : Mm} {K : RES → Mm → Prop} {x0 : Option Nat} {x1 : Int32}
    (h : ∃ a1, x0 = some a1 ∧ ∃ n3, mt σ a1 = (54, n3) ∧ Runs G mJ0_checkIndex_df160 rJ0_checkIndex_df160 [(vI x1), (vI (nI n3))] σ (bk G mJ1_charAt_3b067 rJ1_charAt_3b067 0 0 6 [some (vR x0), some (vI x1)] [] K)) : Runs G mJ1_charAt_3b067 rJ1_charAt_3b067 [(vR x0), (vI x1)] σ K := Runs.ofF (by decide +kernel) rfl (Nat.le_of_ble_eq_true rfl) (vJ1_charAt_3b067_0 gk h)
theorem vJ1_charAt_3b067_6 {G : GG} (gk : GOK G) {σ : Mm} {K : RES → Mm → Prop} {x0 : Option Nat} {x1 : Int32}
    (h : ∃ a1, x0 = some a1 ∧ ∃ n3, mt σ a1 = (54, n3) ∧ vp_in x1 n3 ∧ isC (i2c ((mi σ a1 x1.toNatClampNeg) &&& (255 : Int32))) ∧ K (.inl (some (vI (i2c ((mi σ a1 x1.toNatClampNeg) &&& (255 : Int32)))))) σ) : At G mJ1_charAt_3b067 rJ1_charAt_3b067 0 0 6 [some (vR x0), some (vI x1)] [] σ K := by
  refine s_aload_n (i := 0) dJ1_charAt_3b067_6 rfl rfl ?_
  refine s_iload_n (i := 1) dJ1_charAt_3b067_7 rfl rfl ?_
  obtain ⟨a1, ea1, h⟩ := h
  obtain ⟨n3, t2, h⟩ := h
  obtain ⟨c4, h⟩ := h
  refine t_bald gk dJ1_charAt_3b067_8 ea1 t2 c4 ?_
  refine s_sipush (v := 255) dJ1_charAt_3b067_9 (by decide) ?_
  refine s_iand dJ1_charAt_3b067_12 ?_
  refine s_i2c (v := i2c ((mi σ a1 x1.toNatClampNeg) &&& (255 : Int32))) dJ1_charAt_3b067_13 rfl ?_
  obtain ⟨c5, h⟩ := h
  exact s_ireturn dJ1_charAt_3b067_14 rfl (nf_c c5).1 (by decide) (by decide) h
