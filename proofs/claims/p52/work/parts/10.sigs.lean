/-! ===== the methods: what they are, what room they have ===== -/
def mX0_init : SIG := (yX0_init, cX0_init, 1, none)
def mX1_init : SIG := (yX1_init, cX1_init, 2, none)
def mX1_append : SIG := (yX1_append, cX1_append, 2, (some FieldType.int))
def mX1_command : SIG := (yX1_command, cX1_command, 2, (some (FieldType.object "EchoPantry$Command")))
def mX1_parse : SIG := (yX1_parse, cX1_parse, 5, (some FieldType.boolean))
def mX1_readCommand : SIG := (yX1_readCommand, cX1_readCommand, 2, (some FieldType.boolean))
def mX1_next : SIG := (yX1_next, cX1_next, 1, (some FieldType.char))
def mX1_readKeyword : SIG := (yX1_readKeyword, cX1_readKeyword, 6, (some FieldType.int))
def mX1_countSame : SIG := (yX1_countSame, cX1_countSame, 4, (some FieldType.int))
def mX1_keywordOf : SIG := (yX1_keywordOf, cX1_keywordOf, 1, (some (FieldType.object "java/lang/String")))
def mX1_readSign : SIG := (yX1_readSign, cX1_readSign, 2, (some FieldType.boolean))
def mX1_readLetter : SIG := (yX1_readLetter, cX1_readLetter, 3, (some FieldType.boolean))
def mX1_readPolicy : SIG := (yX1_readPolicy, cX1_readPolicy, 3, (some FieldType.boolean))
def mX1_readDigit : SIG := (yX1_readDigit, cX1_readDigit, 2, (some FieldType.boolean))
def mX1_readNumber : SIG := (yX1_readNumber, cX1_readNumber, 2, (some FieldType.boolean))
def mX1_isDigit : SIG := (yX1_isDigit, cX1_isDigit, 1, (some FieldType.boolean))
def mX2_init : SIG := (yX2_init, cX2_init, 1, none)
def mX2_copyFrom : SIG := (yX2_copyFrom, cX2_copyFrom, 2, none)
def mX2_fill : SIG := (yX2_fill, cX2_fill, 5, none)
def mX2_age : SIG := (yX2_age, cX2_age, 2, (some FieldType.int))
def mX3_init : SIG := (yX3_init, cX3_init, 2, none)
def mX3_row : SIG := (yX3_row, cX3_row, 2, (some (FieldType.object "EchoPantry$State")))
def mX3_note : SIG := (yX3_note, cX3_note, 2, none)
def mX3_keep : SIG := (yX3_keep, cX3_keep, 2, none)
def mX3_takeBack : SIG := (yX3_takeBack, cX3_takeBack, 2, none)
def mX3_confirm : SIG := (yX3_confirm, cX3_confirm, 1, none)
def mX3_goBack : SIG := (yX3_goBack, cX3_goBack, 2, none)
def mX4_init : SIG := (yX4_init, cX4_init, 1, none)
def mX4_copyFrom : SIG := (yX4_copyFrom, cX4_copyFrom, 2, none)
def mX4_speak : SIG := (yX4_speak, cX4_speak, 3, none)
def mX5_init : SIG := (yX5_init, cX5_init, 2, none)
def mX5_copyFrom : SIG := (yX5_copyFrom, cX5_copyFrom, 3, none)
def mX5_fill : SIG := (yX5_fill, cX5_fill, 4, none)
def mX5_countEchoes : SIG := (yX5_countEchoes, cX5_countEchoes, 6, (some FieldType.int))
def mX5_find : SIG := (yX5_find, cX5_find, 6, (some (FieldType.object "EchoPantry$Echo")))
def mX5_letterAt : SIG := (yX5_letterAt, cX5_letterAt, 4, (some FieldType.char))
def mX5_sumOfAges : SIG := (yX5_sumOfAges, cX5_sumOfAges, 7, (some FieldType.int))
def mX5_hasOutlived : SIG := (yX5_hasOutlived, cX5_hasOutlived, 3, (some FieldType.boolean))
def mX5_outcome : SIG := (yX5_outcome, cX5_outcome, 4, (some FieldType.char))
def mX5_firstInOrder : SIG := (yX5_firstInOrder, cX5_firstInOrder, 2, (some (FieldType.object "EchoPantry$Echo")))
def mX5_firstByScan : SIG := (yX5_firstByScan, cX5_firstByScan, 6, (some (FieldType.object "EchoPantry$Echo")))
def mX5_isBefore : SIG := (yX5_isBefore, cX5_isBefore, 3, (some FieldType.boolean))
def mX5_sort : SIG := (yX5_sort, cX5_sort, 5, none)
def mX5_remove : SIG := (yX5_remove, cX5_remove, 2, (some FieldType.boolean))
def mX5_fetch : SIG := (yX5_fetch, cX5_fetch, 10, none)
def mX5_hit : SIG := (yX5_hit, cX5_hit, 3, (some FieldType.int))
def mX5_openLid : SIG := (yX5_openLid, cX5_openLid, 3, (some FieldType.boolean))
def mX6_init : SIG := (yX6_init, cX6_init, 2, none)
def mX6_copyFrom : SIG := (yX6_copyFrom, cX6_copyFrom, 3, none)
def mX6_jarRow : SIG := (yX6_jarRow, cX6_jarRow, 3, (some (FieldType.object "EchoPantry$Jar")))
def mX6_findJar : SIG := (yX6_findJar, cX6_findJar, 3, (some (FieldType.object "EchoPantry$Jar")))
def mX6_findShelf : SIG := (yX6_findShelf, cX6_findShelf, 3, (some (FieldType.object "EchoPantry$Shelf")))
def mX6_findWarming : SIG := (yX6_findWarming, cX6_findWarming, 3, (some (FieldType.object "EchoPantry$Warming")))
def mX6_newJarFault : SIG := (yX6_newJarFault, cX6_newJarFault, 3, (some FieldType.int))
def mX6_jarFault : SIG := (yX6_jarFault, cX6_jarFault, 2, (some FieldType.int))
def mX6_wordFault : SIG := (yX6_wordFault, cX6_wordFault, 3, (some FieldType.int))
def mX6_newShelfFault : SIG := (yX6_newShelfFault, cX6_newShelfFault, 4, (some FieldType.int))
def mX6_shelfFault : SIG := (yX6_shelfFault, cX6_shelfFault, 2, (some FieldType.int))
def mX6_hearFault : SIG := (yX6_hearFault, cX6_hearFault, 3, (some FieldType.int))
def mX6_warmFault : SIG := (yX6_warmFault, cX6_warmFault, 5, (some FieldType.int))
def mX6_passFault : SIG := (yX6_passFault, cX6_passFault, 2, (some FieldType.int))
def mX6_countJars : SIG := (yX6_countJars, cX6_countJars, 6, (some FieldType.int))
def mX6_jarLetter : SIG := (yX6_jarLetter, cX6_jarLetter, 4, (some FieldType.char))
def mX6_putJar : SIG := (yX6_putJar, cX6_putJar, 4, (some FieldType.int))
def mX6_dropJar : SIG := (yX6_dropJar, cX6_dropJar, 8, (some FieldType.int))
def mX6_speak : SIG := (yX6_speak, cX6_speak, 9, (some FieldType.int))
def mX6_countShelves : SIG := (yX6_countShelves, cX6_countShelves, 6, (some FieldType.int))
def mX6_putShelf : SIG := (yX6_putShelf, cX6_putShelf, 5, (some FieldType.int))
def mX6_tune : SIG := (yX6_tune, cX6_tune, 4, none)
def mX6_rankByHits : SIG := (yX6_rankByHits, cX6_rankByHits, 6, (some FieldType.int))
def mX6_isTrueByCount : SIG := (yX6_isTrueByCount, cX6_isTrueByCount, 3, (some FieldType.boolean))
def mX6_isTrueByOrder : SIG := (yX6_isTrueByOrder, cX6_isTrueByOrder, 3, (some FieldType.boolean))
def mX6_isSound : SIG := (yX6_isSound, cX6_isSound, 3, (some FieldType.boolean))
def mX6_listenTo : SIG := (yX6_listenTo, cX6_listenTo, 8, (some FieldType.int))
def mX6_countOutcome : SIG := (yX6_countOutcome, cX6_countOutcome, 2, none)
def mX6_fetch : SIG := (yX6_fetch, cX6_fetch, 5, (some FieldType.boolean))
def mX6_countWarmings : SIG := (yX6_countWarmings, cX6_countWarmings, 6, (some FieldType.int))
def mX6_planWarming : SIG := (yX6_planWarming, cX6_planWarming, 10, (some FieldType.int))
def mX6_removeWarming : SIG := (yX6_removeWarming, cX6_removeWarming, 2, none)
def mX6_sortWarmings : SIG := (yX6_sortWarmings, cX6_sortWarmings, 5, none)
def mX6_letPass : SIG := (yX6_letPass, cX6_letPass, 8, (some FieldType.int))
def mX7_init : SIG := (yX7_init, cX7_init, 1, none)
def mX7_copyFrom : SIG := (yX7_copyFrom, cX7_copyFrom, 2, none)
def mX7_isBefore : SIG := (yX7_isBefore, cX7_isBefore, 2, (some FieldType.boolean))
def mX8_init : SIG := (yX8_init, cX8_init, 1, none)
def mX8_addJar : SIG := (yX8_addJar, cX8_addJar, 3, (some FieldType.int))
def mX8_removeJar : SIG := (yX8_removeJar, cX8_removeJar, 2, (some FieldType.int))
def mX8_say : SIG := (yX8_say, cX8_say, 3, (some FieldType.int))
def mX8_jarCount : SIG := (yX8_jarCount, cX8_jarCount, 1, (some FieldType.int))
def mX8_jarAt : SIG := (yX8_jarAt, cX8_jarAt, 3, (some FieldType.char))
def mX8_wordOf : SIG := (yX8_wordOf, cX8_wordOf, 2, (some FieldType.int))
def mX8_addShelf : SIG := (yX8_addShelf, cX8_addShelf, 4, (some FieldType.int))
def mX8_setListening : SIG := (yX8_setListening, cX8_setListening, 5, (some FieldType.boolean))
def mX8_shelfCount : SIG := (yX8_shelfCount, cX8_shelfCount, 1, (some FieldType.int))
def mX8_capacityOf : SIG := (yX8_capacityOf, cX8_capacityOf, 2, (some FieldType.int))
def mX8_lifetimeOf : SIG := (yX8_lifetimeOf, cX8_lifetimeOf, 2, (some FieldType.int))
def mX8_policyOf : SIG := (yX8_policyOf, cX8_policyOf, 2, (some FieldType.char))
def mX8_isListening : SIG := (yX8_isListening, cX8_isListening, 2, (some FieldType.boolean))
def mX8_echoCount : SIG := (yX8_echoCount, cX8_echoCount, 2, (some FieldType.int))
def mX8_echoAt : SIG := (yX8_echoAt, cX8_echoAt, 4, (some FieldType.char))
def mX8_hasEcho : SIG := (yX8_hasEcho, cX8_hasEcho, 3, (some FieldType.boolean))
def mX8_echoOf : SIG := (yX8_echoOf, cX8_echoOf, 3, (some FieldType.int))
def mX8_ageOf : SIG := (yX8_ageOf, cX8_ageOf, 3, (some FieldType.int))
def mX8_hitsOf : SIG := (yX8_hitsOf, cX8_hitsOf, 3, (some FieldType.int))
def mX8_isExpired : SIG := (yX8_isExpired, cX8_isExpired, 4, (some FieldType.boolean))
def mX8_isOpen : SIG := (yX8_isOpen, cX8_isOpen, 3, (some FieldType.boolean))
def mX8_isTrue : SIG := (yX8_isTrue, cX8_isTrue, 3, (some FieldType.boolean))
def mX8_isTrueBySteps : SIG := (yX8_isTrueBySteps, cX8_isTrueBySteps, 3, (some FieldType.boolean))
def mX8_victimOf : SIG := (yX8_victimOf, cX8_victimOf, 3, (some FieldType.char))
def mX8_victimByScan : SIG := (yX8_victimByScan, cX8_victimByScan, 3, (some FieldType.char))
def mX8_hear : SIG := (yX8_hear, cX8_hear, 3, (some FieldType.int))
def mX8_outcomeOf : SIG := (yX8_outcomeOf, cX8_outcomeOf, 3, (some FieldType.char))
def mX8_warm : SIG := (yX8_warm, cX8_warm, 4, (some FieldType.int))
def mX8_cancelWarming : SIG := (yX8_cancelWarming, cX8_cancelWarming, 3, (some FieldType.int))
def mX8_pass : SIG := (yX8_pass, cX8_pass, 2, (some FieldType.int))
def mX8_time : SIG := (yX8_time, cX8_time, 1, (some FieldType.int))
def mX8_warmingCount : SIG := (yX8_warmingCount, cX8_warmingCount, 1, (some FieldType.int))
def mX8_warmingMinute : SIG := (yX8_warmingMinute, cX8_warmingMinute, 2, (some FieldType.int))
def mX8_warmingJar : SIG := (yX8_warmingJar, cX8_warmingJar, 2, (some FieldType.char))
def mX8_hits : SIG := (yX8_hits, cX8_hits, 1, (some FieldType.int))
def mX8_misses : SIG := (yX8_misses, cX8_misses, 2, (some FieldType.int))
def mX8_hitShare : SIG := (yX8_hitShare, cX8_hitShare, 2, (some FieldType.float))
def mX8_meanAge : SIG := (yX8_meanAge, cX8_meanAge, 7, (some FieldType.double))
def mX8_shelfByHits : SIG := (yX8_shelfByHits, cX8_shelfByHits, 3, (some FieldType.int))
def mX8_writeShelf : SIG := (yX8_writeShelf, cX8_writeShelf, 5, (some FieldType.int))
def mX8_lineAt : SIG := (yX8_lineAt, cX8_lineAt, 2, (some FieldType.char))
def mX8_isConsistent : SIG := (yX8_isConsistent, cX8_isConsistent, 9, (some FieldType.boolean))
def mX8_type : SIG := (yX8_type, cX8_type, 2, (some FieldType.int))
def mX8_execute : SIG := (yX8_execute, cX8_execute, 4, (some FieldType.int))
def mX8_undo : SIG := (yX8_undo, cX8_undo, 1, (some FieldType.int))
def mX8_wantJar : SIG := (yX8_wantJar, cX8_wantJar, 3, (some (FieldType.object "EchoPantry$Jar")))
def mX8_wantShelf : SIG := (yX8_wantShelf, cX8_wantShelf, 3, (some (FieldType.object "EchoPantry$Shelf")))
def mX8_wantEcho : SIG := (yX8_wantEcho, cX8_wantEcho, 4, (some (FieldType.object "EchoPantry$Echo")))
def mX8_wantWarming : SIG := (yX8_wantWarming, cX8_wantWarming, 3, (some (FieldType.object "EchoPantry$Warming")))
def mX8_refuse : SIG := (yX8_refuse, cX8_refuse, 1, none)
def mX8_writeEcho : SIG := (yX8_writeEcho, cX8_writeEcho, 3, none)
def mX8_faultOf : SIG := (yX8_faultOf, cX8_faultOf, 2, (some FieldType.int))
def mX8_carryOut : SIG := (yX8_carryOut, cX8_carryOut, 2, none)
def mJ5_init_d00df : SIG := (yJ5_init_d00df, cJ5_init_d00df, 2, none)
def mJ5_length_8abf5 : SIG := (yJ5_length_8abf5, cJ5_length_8abf5, 1, (some FieldType.int))
def mJ5_ensureCapacityInternal_d00df : SIG := (yJ5_ensureCapacityInternal_d00df, cJ5_ensureCapacityInternal_d00df, 3, none)
def mJ5_newCapacity_0f7a4 : SIG := (yJ5_newCapacity_0f7a4, cJ5_newCapacity_0f7a4, 6, (some FieldType.int))
def mJ5_inflate_da8c8 : SIG := (yJ5_inflate_da8c8, cJ5_inflate_da8c8, 2, none)
def mJ5_setLength_d00df : SIG := (yJ5_setLength_d00df, cJ5_setLength_d00df, 2, none)
def mJ5_charAt_5068e : SIG := (yJ5_charAt_5068e, cJ5_charAt_5068e, 5, (some FieldType.char))
def mJ5_append_cf1ce : SIG := (yJ5_append_cf1ce, cJ5_append_cf1ce, 3, (some (FieldType.object "java/lang/AbstractStringBuilder")))
def mJ5_appendNull_278bc : SIG := (yJ5_appendNull_278bc, cJ5_appendNull_278bc, 3, (some (FieldType.object "java/lang/AbstractStringBuilder")))
def mJ5_append_3fe6f : SIG := (yJ5_append_3fe6f, cJ5_append_3fe6f, 2, (some (FieldType.object "java/lang/AbstractStringBuilder")))
def mJ5_append_c97b9 : SIG := (yJ5_append_c97b9, cJ5_append_c97b9, 4, (some (FieldType.object "java/lang/AbstractStringBuilder")))
def mJ5_getValue_6d5f1 : SIG := (yJ5_getValue_6d5f1, cJ5_getValue_6d5f1, 1, (some (FieldType.array FieldType.byte)))
def mJ5_isLatin1_aae02 : SIG := (yJ5_isLatin1_aae02, cJ5_isLatin1_aae02, 1, (some FieldType.boolean))
def mJ5_inflateIfNeededFor_a7421 : SIG := (yJ5_inflateIfNeededFor_a7421, cJ5_inflateIfNeededFor_a7421, 2, none)
def mJ5_putStringAt_47b60 : SIG := (yJ5_putStringAt_47b60, cJ5_putStringAt_47b60, 3, none)
def mJx00060_init_a7421 : SIG := (yJx00060_init_a7421, cJx00060_init_a7421, 2, none)
def mJx00060_init_d00df : SIG := (yJx00060_init_d00df, cJx00060_init_d00df, 2, none)
def mJ6_getChars_ba4f3 : SIG := (yJ6_getChars_ba4f3, cJ6_getChars_ba4f3, 7, (some FieldType.int))
def mJ6_stringSize_0f7a4 : SIG := (yJ6_stringSize_0f7a4, cJ6_stringSize_0f7a4, 4, (some FieldType.int))
def mJ9_floorMod_7cf53 : SIG := (yJ9_floorMod_7cf53, cJ9_floorMod_7cf53, 3, (some FieldType.int))
def mJ9_max_7cf53 : SIG := (yJ9_max_7cf53, cJ9_max_7cf53, 2, (some FieldType.int))
def mJ9_min_7cf53 : SIG := (yJ9_min_7cf53, cJ9_min_7cf53, 2, (some FieldType.int))
def mJ0_init_81219 : SIG := (yJ0_init_81219, cJ0_init_81219, 2, none)
def mJ0_length_8abf5 : SIG := (yJ0_length_8abf5, cJ0_length_8abf5, 1, (some FieldType.int))
def mJ0_charAt_5068e : SIG := (yJ0_charAt_5068e, cJ0_charAt_5068e, 2, (some FieldType.char))
def mJ0_getBytes_840e7 : SIG := (yJ0_getBytes_840e7, cJ0_getBytes_840e7, 4, none)
def mJ0_init_db425 : SIG := (yJ0_init_db425, cJ0_init_db425, 5, none)
def mJ0_coder_7d493 : SIG := (yJ0_coder_7d493, cJ0_coder_7d493, 1, (some FieldType.byte))
def mJ0_isLatin1_aae02 : SIG := (yJ0_isLatin1_aae02, cJ0_isLatin1_aae02, 1, (some FieldType.boolean))
def mJ0_checkIndex_df160 : SIG := (yJ0_checkIndex_df160, cJ0_checkIndex_df160, 2, none)
def mJ0_checkBoundsOffCount_cabcc : SIG := (yJ0_checkBoundsOffCount_cabcc, cJ0_checkBoundsOffCount_cabcc, 3, (some FieldType.int))
def mJ0_checkBoundsBeginEnd_23922 : SIG := (yJ0_checkBoundsBeginEnd_23922, cJ0_checkBoundsBeginEnd_23922, 3, none)
def mJ4_init_da8c8 : SIG := (yJ4_init_da8c8, cJ4_init_da8c8, 1, none)
def mJ4_append_15ec4 : SIG := (yJ4_append_15ec4, cJ4_append_15ec4, 2, (some (FieldType.object "java/lang/StringBuilder")))
def mJ4_append_cf468 : SIG := (yJ4_append_cf468, cJ4_append_cf468, 2, (some (FieldType.object "java/lang/StringBuilder")))
def mJ4_append_bf812 : SIG := (yJ4_append_bf812, cJ4_append_bf812, 2, (some (FieldType.object "java/lang/StringBuilder")))
def mJ4_toString_0e30d : SIG := (yJ4_toString_0e30d, cJ4_toString_0e30d, 1, (some (FieldType.object "java/lang/String")))
def mJ4_charAt_5068e : SIG := (yJ4_charAt_5068e, cJ4_charAt_5068e, 2, (some FieldType.char))
def mJ4_setLength_d00df : SIG := (yJ4_setLength_d00df, cJ4_setLength_d00df, 2, none)
def mJ4_length_8abf5 : SIG := (yJ4_length_8abf5, cJ4_length_8abf5, 1, (some FieldType.int))
def mJx7c733_init_d00df : SIG := (yJx7c733_init_d00df, cJx7c733_init_d00df, 2, none)
def mJ1_charAt_3b067 : SIG := (yJ1_charAt_3b067, cJ1_charAt_3b067, 2, (some FieldType.char))
def mJ1_canEncode_fc78d : SIG := (yJ1_canEncode_fc78d, cJ1_canEncode_fc78d, 1, (some FieldType.boolean))
def mJ1_fillNull_b72d1 : SIG := (yJ1_fillNull_b72d1, cJ1_fillNull_b72d1, 3, none)
def mJ1_inflate_0e8fd : SIG := (yJ1_inflate_0e8fd, cJ1_inflate_0e8fd, 5, none)
def mJ2_newBytesFor_77867 : SIG := (yJ2_newBytesFor_77867, cJ2_newBytesFor_77867, 1, (some (FieldType.array FieldType.byte)))
def mJ2_newBytesLength_0f7a4 : SIG := (yJ2_newBytesLength_0f7a4, cJ2_newBytesLength_0f7a4, 1, (some FieldType.int))
def mJ2_putChar_b72d1 : SIG := (yJ2_putChar_b72d1, cJ2_putChar_b72d1, 3, none)
def mJ2_getChar_3b067 : SIG := (yJ2_getChar_3b067, cJ2_getChar_3b067, 2, (some FieldType.char))
def mJ2_length_9d52b : SIG := (yJ2_length_9d52b, cJ2_length_9d52b, 1, (some FieldType.int))
def mJ2_coderFromArrayLen_85cad : SIG := (yJ2_coderFromArrayLen_85cad, cJ2_coderFromArrayLen_85cad, 2, (some FieldType.byte))
def mJ2_compress_39247 : SIG := (yJ2_compress_39247, cJ2_compress_39247, 6, (some (FieldType.array FieldType.byte)))
def mJ2_compress_5af95 : SIG := (yJ2_compress_5af95, cJ2_compress_5af95, 7, (some FieldType.int))
def mJ2_fillNull_b72d1 : SIG := (yJ2_fillNull_b72d1, cJ2_fillNull_b72d1, 3, none)
def mJ2_putCharSB_b72d1 : SIG := (yJ2_putCharSB_b72d1, cJ2_putCharSB_b72d1, 3, none)
def mJ2_getChars_46870 : SIG := (yJ2_getChars_46870, cJ2_getChars_46870, 5, (some FieldType.int))
def mJ2_putCharsAt_cd4e5 : SIG := (yJ2_putCharsAt_cd4e5, cJ2_putCharsAt_cd4e5, 7, (some FieldType.int))
def mJ2_charAt_3b067 : SIG := (yJ2_charAt_3b067, cJ2_charAt_3b067, 2, (some FieldType.char))
def mJ2_inflate_0e8fd : SIG := (yJ2_inflate_0e8fd, cJ2_inflate_0e8fd, 6, none)
def mJ2_getChars_ba4f3 : SIG := (yJ2_getChars_ba4f3, cJ2_getChars_ba4f3, 7, (some FieldType.int))
def mJ2_checkIndex_2214a : SIG := (yJ2_checkIndex_2214a, cJ2_checkIndex_2214a, 2, none)
def mJ2_checkBoundsBeginEnd_d044e : SIG := (yJ2_checkBoundsBeginEnd_d044e, cJ2_checkBoundsBeginEnd_d044e, 3, none)
def mJ2_checkBoundsOffCount_d044e : SIG := (yJ2_checkBoundsOffCount_d044e, cJ2_checkBoundsOffCount_d044e, 3, none)
def mJ7_rangeCheck_23922 : SIG := (yJ7_rangeCheck_23922, cJ7_rangeCheck_23922, 3, none)
def mJ7_fill_eb02e : SIG := (yJ7_fill_eb02e, cJ7_fill_eb02e, 5, none)
def mJ7_copyOf_9075b : SIG := (yJ7_copyOf_9075b, cJ7_copyOf_9075b, 3, (some (FieldType.array FieldType.byte)))
def mJ7_checkLength_df160 : SIG := (yJ7_checkLength_df160, cJ7_checkLength_df160, 2, none)
def mJ7_copyOfRange_39247 : SIG := (yJ7_copyOfRange_39247, cJ7_copyOfRange_39247, 3, (some (FieldType.array FieldType.byte)))
def mJ7_copyOfRangeByte_39247 : SIG := (yJ7_copyOfRangeByte_39247, cJ7_copyOfRangeByte_39247, 5, (some (FieldType.array FieldType.byte)))
def mJ8_newLength_cabcc : SIG := (yJ8_newLength_cabcc, cJ8_newLength_cabcc, 4, (some FieldType.int))
def mJ8_hugeLength_7cf53 : SIG := (yJ8_hugeLength_7cf53, cJ8_hugeLength_7cf53, 3, (some FieldType.int))
def mJ3_checkIndex_8e157 : SIG := (yJ3_checkIndex_8e157, cJ3_checkIndex_8e157, 3, (some FieldType.int))
def mJ3_checkFromToIndex_8c36e : SIG := (yJ3_checkFromToIndex_8c36e, cJ3_checkFromToIndex_8c36e, 4, (some FieldType.int))
def mJ3_checkFromIndexSize_8c36e : SIG := (yJ3_checkFromIndexSize_8c36e, cJ3_checkFromIndexSize_8c36e, 4, (some FieldType.int))
def rX0_init : Room := { frames := 1, cells := 0, slots := 0, locals := 12 }
def rX1_init : Room := { frames := 2, cells := 12, slots := 120, locals := 32 }
def rX1_append : Room := { frames := 0, cells := 0, slots := 0, locals := 0 }
def rX1_command : Room := { frames := 0, cells := 0, slots := 0, locals := 0 }
def rX1_parse : Room := { frames := 8, cells := 0, slots := 0, locals := 175 }
def rX1_readCommand : Room := { frames := 7, cells := 0, slots := 0, locals := 154 }
def rX1_next : Room := { frames := 0, cells := 0, slots := 0, locals := 0 }
def rX1_readKeyword : Room := { frames := 6, cells := 0, slots := 0, locals := 129 }
def rX1_countSame : Room := { frames := 5, cells := 0, slots := 0, locals := 106 }
def rX1_keywordOf : Room := { frames := 0, cells := 0, slots := 0, locals := 0 }
def rX1_readSign : Room := { frames := 1, cells := 0, slots := 0, locals := 20 }
def rX1_readLetter : Room := { frames := 1, cells := 0, slots := 0, locals := 20 }
def rX1_readPolicy : Room := { frames := 1, cells := 0, slots := 0, locals := 20 }
def rX1_readDigit : Room := { frames := 2, cells := 0, slots := 0, locals := 41 }
def rX1_readNumber : Room := { frames := 2, cells := 0, slots := 0, locals := 41 }
def rX1_isDigit : Room := { frames := 0, cells := 0, slots := 0, locals := 0 }
def rX2_init : Room := { frames := 1, cells := 0, slots := 0, locals := 12 }
def rX2_copyFrom : Room := { frames := 0, cells := 0, slots := 0, locals := 0 }
def rX2_fill : Room := { frames := 0, cells := 0, slots := 0, locals := 0 }
def rX2_age : Room := { frames := 0, cells := 0, slots := 0, locals := 0 }
def rX3_init : Room := { frames := 4, cells := 631, slots := 4068, locals := 74 }
def rX3_row : Room := { frames := 1, cells := 0, slots := 0, locals := 22 }
def rX3_note : Room := { frames := 4, cells := 0, slots := 0, locals := 86 }
def rX3_keep : Room := { frames := 3, cells := 0, slots := 0, locals := 65 }
def rX3_takeBack : Room := { frames := 3, cells := 0, slots := 0, locals := 65 }
def rX3_confirm : Room := { frames := 1, cells := 0, slots := 0, locals := 22 }
def rX3_goBack : Room := { frames := 4, cells := 0, slots := 0, locals := 86 }
def rX4_init : Room := { frames := 1, cells := 0, slots := 0, locals := 12 }
def rX4_copyFrom : Room := { frames := 0, cells := 0, slots := 0, locals := 0 }
def rX4_speak : Room := { frames := 0, cells := 0, slots := 0, locals := 0 }
def rX5_init : Room := { frames := 2, cells := 7, slots := 60, locals := 32 }
def rX5_copyFrom : Room := { frames := 1, cells := 0, slots := 0, locals := 21 }
def rX5_fill : Room := { frames := 0, cells := 0, slots := 0, locals := 0 }
def rX5_countEchoes : Room := { frames := 0, cells := 0, slots := 0, locals := 0 }
def rX5_find : Room := { frames := 0, cells := 0, slots := 0, locals := 0 }
def rX5_letterAt : Room := { frames := 1, cells := 0, slots := 0, locals := 25 }
def rX5_sumOfAges : Room := { frames := 1, cells := 0, slots := 0, locals := 21 }
def rX5_hasOutlived : Room := { frames := 1, cells := 0, slots := 0, locals := 21 }
def rX5_outcome : Room := { frames := 2, cells := 0, slots := 0, locals := 43 }
def rX5_firstInOrder : Room := { frames := 0, cells := 0, slots := 0, locals := 0 }
def rX5_firstByScan : Room := { frames := 1, cells := 0, slots := 0, locals := 22 }
def rX5_isBefore : Room := { frames := 0, cells := 0, slots := 0, locals := 0 }
def rX5_sort : Room := { frames := 1, cells := 0, slots := 0, locals := 22 }
def rX5_remove : Room := { frames := 2, cells := 0, slots := 0, locals := 46 }
def rX5_fetch : Room := { frames := 2, cells := 0, slots := 0, locals := 46 }
def rX5_hit : Room := { frames := 2, cells := 0, slots := 0, locals := 46 }
def rX5_openLid : Room := { frames := 1, cells := 0, slots := 0, locals := 25 }
def rX6_init : Room := { frames := 3, cells := 69, slots := 442, locals := 53 }
def rX6_copyFrom : Room := { frames := 2, cells := 0, slots := 0, locals := 43 }
def rX6_jarRow : Room := { frames := 0, cells := 0, slots := 0, locals := 0 }
def rX6_findJar : Room := { frames := 1, cells := 0, slots := 0, locals := 22 }
def rX6_findShelf : Room := { frames := 0, cells := 0, slots := 0, locals := 0 }
def rX6_findWarming : Room := { frames := 0, cells := 0, slots := 0, locals := 0 }
def rX6_newJarFault : Room := { frames := 2, cells := 0, slots := 0, locals := 44 }
def rX6_jarFault : Room := { frames := 2, cells := 0, slots := 0, locals := 44 }
def rX6_wordFault : Room := { frames := 2, cells := 0, slots := 0, locals := 44 }
def rX6_newShelfFault : Room := { frames := 1, cells := 0, slots := 0, locals := 25 }
def rX6_shelfFault : Room := { frames := 1, cells := 0, slots := 0, locals := 22 }
def rX6_hearFault : Room := { frames := 3, cells := 0, slots := 0, locals := 65 }
def rX6_warmFault : Room := { frames := 4, cells := 0, slots := 0, locals := 87 }
def rX6_passFault : Room := { frames := 0, cells := 0, slots := 0, locals := 0 }
def rX6_countJars : Room := { frames := 0, cells := 0, slots := 0, locals := 0 }
def rX6_jarLetter : Room := { frames := 2, cells := 0, slots := 0, locals := 44 }
def rX6_putJar : Room := { frames := 1, cells := 0, slots := 0, locals := 25 }
def rX6_dropJar : Room := { frames := 3, cells := 0, slots := 0, locals := 67 }
def rX6_speak : Room := { frames := 2, cells := 0, slots := 0, locals := 47 }
def rX6_countShelves : Room := { frames := 0, cells := 0, slots := 0, locals := 0 }
def rX6_putShelf : Room := { frames := 1, cells := 0, slots := 0, locals := 25 }
def rX6_tune : Room := { frames := 1, cells := 0, slots := 0, locals := 22 }
def rX6_rankByHits : Room := { frames := 1, cells := 0, slots := 0, locals := 22 }
def rX6_isTrueByCount : Room := { frames := 2, cells := 0, slots := 0, locals := 44 }
def rX6_isTrueByOrder : Room := { frames := 2, cells := 0, slots := 0, locals := 44 }
def rX6_isSound : Room := { frames := 3, cells := 0, slots := 0, locals := 66 }
def rX6_listenTo : Room := { frames := 4, cells := 0, slots := 0, locals := 99 }
def rX6_countOutcome : Room := { frames := 0, cells := 0, slots := 0, locals := 0 }
def rX6_fetch : Room := { frames := 3, cells := 0, slots := 0, locals := 75 }
def rX6_countWarmings : Room := { frames := 0, cells := 0, slots := 0, locals := 0 }
def rX6_planWarming : Room := { frames := 2, cells := 0, slots := 0, locals := 45 }
def rX6_removeWarming : Room := { frames := 2, cells := 0, slots := 0, locals := 45 }
def rX6_sortWarmings : Room := { frames := 1, cells := 0, slots := 0, locals := 21 }
def rX6_letPass : Room := { frames := 4, cells := 0, slots := 0, locals := 99 }
def rX7_init : Room := { frames := 1, cells := 0, slots := 0, locals := 12 }
def rX7_copyFrom : Room := { frames := 0, cells := 0, slots := 0, locals := 0 }
def rX7_isBefore : Room := { frames := 0, cells := 0, slots := 0, locals := 0 }
def rX8_init : Room := { frames := 9, cells := 787, slots := 5118, locals := 320 }
def rX8_addJar : Room := { frames := 7, cells := 1, slots := 6, locals := 107 }
def rX8_removeJar : Room := { frames := 7, cells := 1, slots := 6, locals := 107 }
def rX8_say : Room := { frames := 7, cells := 1, slots := 6, locals := 107 }
def rX8_jarCount : Room := { frames := 1, cells := 0, slots := 0, locals := 25 }
def rX8_jarAt : Room := { frames := 6, cells := 1, slots := 6, locals := 82 }
def rX8_wordOf : Room := { frames := 7, cells := 1, slots := 6, locals := 104 }
def rX8_addShelf : Room := { frames := 7, cells := 1, slots := 6, locals := 107 }
def rX8_setListening : Room := { frames := 7, cells := 1, slots := 6, locals := 107 }
def rX8_shelfCount : Room := { frames := 1, cells := 0, slots := 0, locals := 25 }
def rX8_capacityOf : Room := { frames := 7, cells := 1, slots := 6, locals := 104 }
def rX8_lifetimeOf : Room := { frames := 7, cells := 1, slots := 6, locals := 104 }
def rX8_policyOf : Room := { frames := 7, cells := 1, slots := 6, locals := 104 }
def rX8_isListening : Room := { frames := 7, cells := 1, slots := 6, locals := 104 }
def rX8_echoCount : Room := { frames := 7, cells := 1, slots := 6, locals := 104 }
def rX8_echoAt : Room := { frames := 7, cells := 2, slots := 12, locals := 104 }
def rX8_hasEcho : Room := { frames := 7, cells := 1, slots := 6, locals := 104 }
def rX8_echoOf : Room := { frames := 8, cells := 2, slots := 12, locals := 127 }
def rX8_ageOf : Room := { frames := 8, cells := 2, slots := 12, locals := 127 }
def rX8_hitsOf : Room := { frames := 8, cells := 2, slots := 12, locals := 127 }
def rX8_isExpired : Room := { frames := 8, cells := 3, slots := 18, locals := 127 }
def rX8_isOpen : Room := { frames := 8, cells := 2, slots := 12, locals := 127 }
def rX8_isTrue : Room := { frames := 8, cells := 2, slots := 12, locals := 127 }
def rX8_isTrueBySteps : Room := { frames := 8, cells := 2, slots := 12, locals := 127 }
def rX8_victimOf : Room := { frames := 7, cells := 2, slots := 12, locals := 104 }
def rX8_victimByScan : Room := { frames := 7, cells := 2, slots := 12, locals := 104 }
def rX8_hear : Room := { frames := 7, cells := 1, slots := 6, locals := 126 }
def rX8_outcomeOf : Room := { frames := 7, cells := 2, slots := 12, locals := 104 }
def rX8_warm : Room := { frames := 7, cells := 1, slots := 6, locals := 111 }
def rX8_cancelWarming : Room := { frames := 7, cells := 1, slots := 6, locals := 107 }
def rX8_pass : Room := { frames := 7, cells := 1, slots := 6, locals := 126 }
def rX8_time : Room := { frames := 0, cells := 0, slots := 0, locals := 0 }
def rX8_warmingCount : Room := { frames := 1, cells := 0, slots := 0, locals := 25 }
def rX8_warmingMinute : Room := { frames := 7, cells := 1, slots := 6, locals := 104 }
def rX8_warmingJar : Room := { frames := 7, cells := 1, slots := 6, locals := 104 }
def rX8_hits : Room := { frames := 0, cells := 0, slots := 0, locals := 0 }
def rX8_misses : Room := { frames := 6, cells := 1, slots := 6, locals := 82 }
def rX8_hitShare : Room := { frames := 6, cells := 1, slots := 6, locals := 82 }
def rX8_meanAge : Room := { frames := 6, cells := 1, slots := 6, locals := 82 }
def rX8_shelfByHits : Room := { frames := 6, cells := 1, slots := 6, locals := 82 }
def rX8_writeShelf : Room := { frames := 16, cells := 31, slots := 4206, locals := 743 }
def rX8_lineAt : Room := { frames := 15, cells := 1, slots := 6, locals := 721 }
def rX8_isConsistent : Room := { frames := 4, cells := 0, slots := 0, locals := 88 }
def rX8_type : Room := { frames := 6, cells := 1, slots := 6, locals := 82 }
def rX8_execute : Room := { frames := 9, cells := 1, slots := 6, locals := 199 }
def rX8_undo : Room := { frames := 6, cells := 1, slots := 6, locals := 107 }
def rX8_wantJar : Room := { frames := 6, cells := 1, slots := 6, locals := 82 }
def rX8_wantShelf : Room := { frames := 6, cells := 1, slots := 6, locals := 82 }
def rX8_wantEcho : Room := { frames := 7, cells := 2, slots := 12, locals := 104 }
def rX8_wantWarming : Room := { frames := 6, cells := 1, slots := 6, locals := 82 }
def rX8_refuse : Room := { frames := 6, cells := 1, slots := 6, locals := 82 }
def rX8_writeEcho : Room := { frames := 15, cells := 5, slots := 700, locals := 721 }
def rX8_faultOf : Room := { frames := 5, cells := 0, slots := 0, locals := 111 }
def rX8_carryOut : Room := { frames := 5, cells := 0, slots := 0, locals := 126 }
def rJ5_init_d00df : Room := { frames := 2, cells := 0, slots := 0, locals := 40 }
def rJ5_length_8abf5 : Room := { frames := 0, cells := 0, slots := 0, locals := 0 }
def rJ5_ensureCapacityInternal_d00df : Room := { frames := 3, cells := 0, slots := 0, locals := 82 }
def rJ5_newCapacity_0f7a4 : Room := { frames := 2, cells := 0, slots := 0, locals := 45 }
def rJ5_inflate_da8c8 : Room := { frames := 5, cells := 0, slots := 0, locals := 116 }
def rJ5_setLength_d00df : Room := { frames := 25, cells := 0, slots := 0, locals := 946 }
def rJ5_charAt_5068e : Room := { frames := 2, cells := 0, slots := 0, locals := 43 }
def rJ5_append_cf1ce : Room := { frames := 8, cells := 0, slots := 0, locals := 180 }
def rJ5_appendNull_278bc : Room := { frames := 4, cells := 0, slots := 0, locals := 104 }
def rJ5_append_3fe6f : Room := { frames := 6, cells := 0, slots := 0, locals := 137 }
def rJ5_append_c97b9 : Room := { frames := 4, cells := 0, slots := 0, locals := 104 }
def rJ5_getValue_6d5f1 : Room := { frames := 0, cells := 0, slots := 0, locals := 0 }
def rJ5_isLatin1_aae02 : Room := { frames := 0, cells := 0, slots := 0, locals := 0 }
def rJ5_inflateIfNeededFor_a7421 : Room := { frames := 6, cells := 0, slots := 0, locals := 137 }
def rJ5_putStringAt_47b60 : Room := { frames := 7, cells := 0, slots := 0, locals := 158 }
def rJx00060_init_a7421 : Room := { frames := 6, cells := 0, slots := 0, locals := 82 }
def rJx00060_init_d00df : Room := { frames := 22, cells := 0, slots := 0, locals := 878 }
def rJ6_getChars_ba4f3 : Room := { frames := 0, cells := 0, slots := 0, locals := 0 }
def rJ6_stringSize_0f7a4 : Room := { frames := 0, cells := 0, slots := 0, locals := 0 }
def rJ9_floorMod_7cf53 : Room := { frames := 0, cells := 0, slots := 0, locals := 0 }
def rJ9_max_7cf53 : Room := { frames := 0, cells := 0, slots := 0, locals := 0 }
def rJ9_min_7cf53 : Room := { frames := 0, cells := 0, slots := 0, locals := 0 }
def rJ0_init_81219 : Room := { frames := 20, cells := 0, slots := 0, locals := 837 }
def rJ0_length_8abf5 : Room := { frames := 1, cells := 0, slots := 0, locals := 20 }
def rJ0_charAt_5068e : Room := { frames := 4, cells := 0, slots := 0, locals := 85 }
def rJ0_getBytes_840e7 : Room := { frames := 5, cells := 0, slots := 0, locals := 116 }
def rJ0_init_db425 : Room := { frames := 19, cells := 0, slots := 0, locals := 813 }
def rJ0_coder_7d493 : Room := { frames := 0, cells := 0, slots := 0, locals := 0 }
def rJ0_isLatin1_aae02 : Room := { frames := 0, cells := 0, slots := 0, locals := 0 }
def rJ0_checkIndex_df160 : Room := { frames := 1, cells := 0, slots := 0, locals := 22 }
def rJ0_checkBoundsOffCount_cabcc : Room := { frames := 1, cells := 0, slots := 0, locals := 23 }
def rJ0_checkBoundsBeginEnd_23922 : Room := { frames := 1, cells := 0, slots := 0, locals := 23 }
def rJ4_init_da8c8 : Room := { frames := 8, cells := 1, slots := 16, locals := 300 }
def rJ4_append_15ec4 : Room := { frames := 9, cells := 0, slots := 0, locals := 202 }
def rJ4_append_cf468 : Room := { frames := 14, cells := 1, slots := 140, locals := 700 }
def rJ4_append_bf812 : Room := { frames := 14, cells := 1, slots := 140, locals := 700 }
def rJ4_toString_0e30d : Room := { frames := 21, cells := 0, slots := 0, locals := 858 }
def rJ4_charAt_5068e : Room := { frames := 14, cells := 0, slots := 0, locals := 700 }
def rJ4_setLength_d00df : Room := { frames := 14, cells := 0, slots := 0, locals := 700 }
def rJ4_length_8abf5 : Room := { frames := 8, cells := 0, slots := 0, locals := 300 }
def rJx7c733_init_d00df : Room := { frames := 22, cells := 0, slots := 0, locals := 878 }
def rJ1_charAt_3b067 : Room := { frames := 2, cells := 0, slots := 0, locals := 43 }
def rJ1_canEncode_fc78d : Room := { frames := 0, cells := 0, slots := 0, locals := 0 }
def rJ1_fillNull_b72d1 : Room := { frames := 24, cells := 0, slots := 0, locals := 924 }
def rJ1_inflate_0e8fd : Room := { frames := 4, cells := 0, slots := 0, locals := 92 }
def rJ2_newBytesFor_77867 : Room := { frames := 1, cells := 0, slots := 0, locals := 20 }
def rJ2_newBytesLength_0f7a4 : Room := { frames := 0, cells := 0, slots := 0, locals := 0 }
def rJ2_putChar_b72d1 : Room := { frames := 1, cells := 0, slots := 0, locals := 20 }
def rJ2_getChar_3b067 : Room := { frames := 1, cells := 0, slots := 0, locals := 20 }
def rJ2_length_9d52b : Room := { frames := 0, cells := 0, slots := 0, locals := 0 }
def rJ2_coderFromArrayLen_85cad : Room := { frames := 0, cells := 0, slots := 0, locals := 0 }
def rJ2_compress_39247 : Room := { frames := 18, cells := 0, slots := 0, locals := 788 }
def rJ2_compress_5af95 : Room := { frames := 3, cells := 0, slots := 0, locals := 67 }
def rJ2_fillNull_b72d1 : Room := { frames := 24, cells := 0, slots := 0, locals := 924 }
def rJ2_putCharSB_b72d1 : Room := { frames := 3, cells := 0, slots := 0, locals := 64 }
def rJ2_getChars_46870 : Room := { frames := 3, cells := 0, slots := 0, locals := 68 }
def rJ2_putCharsAt_cd4e5 : Room := { frames := 3, cells := 0, slots := 0, locals := 67 }
def rJ2_charAt_3b067 : Room := { frames := 3, cells := 0, slots := 0, locals := 64 }
def rJ2_inflate_0e8fd : Room := { frames := 3, cells := 0, slots := 0, locals := 67 }
def rJ2_getChars_ba4f3 : Room := { frames := 2, cells := 0, slots := 0, locals := 42 }
def rJ2_checkIndex_2214a : Room := { frames := 2, cells := 0, slots := 0, locals := 43 }
def rJ2_checkBoundsBeginEnd_d044e : Room := { frames := 2, cells := 0, slots := 0, locals := 45 }
def rJ2_checkBoundsOffCount_d044e : Room := { frames := 2, cells := 0, slots := 0, locals := 45 }
def rJ7_rangeCheck_23922 : Room := { frames := 22, cells := 0, slots := 0, locals := 878 }
def rJ7_fill_eb02e : Room := { frames := 23, cells := 0, slots := 0, locals := 900 }
def rJ7_copyOf_9075b : Room := { frames := 1, cells := 0, slots := 0, locals := 60 }
def rJ7_checkLength_df160 : Room := { frames := 15, cells := 0, slots := 0, locals := 721 }
def rJ7_copyOfRange_39247 : Room := { frames := 17, cells := 0, slots := 0, locals := 766 }
def rJ7_copyOfRangeByte_39247 : Room := { frames := 16, cells := 0, slots := 0, locals := 742 }
def rJ8_newLength_cabcc : Room := { frames := 1, cells := 0, slots := 0, locals := 22 }
def rJ8_hugeLength_7cf53 : Room := { frames := 0, cells := 0, slots := 0, locals := 0 }
def rJ3_checkIndex_8e157 : Room := { frames := 0, cells := 0, slots := 0, locals := 0 }
def rJ3_checkFromToIndex_8c36e : Room := { frames := 0, cells := 0, slots := 0, locals := 0 }
def rJ3_checkFromIndexSize_8c36e : Room := { frames := 0, cells := 0, slots := 0, locals := 0 }
