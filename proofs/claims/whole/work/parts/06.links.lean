abbrev M_L_init : Mi := (yX10_init, cX10_init, 1, (Option.none : Option ClassFile.FieldType))
abbrev M_Tape_init : Mi := (yX6_init, cX6_init, 1, (Option.none : Option ClassFile.FieldType))
abbrev M_Words_init : Mi := (yX9_init, cX9_init, 1, (Option.none : Option ClassFile.FieldType))
abbrev M_LawCode_init : Mi := (yX0_init, cX0_init, 1, (Option.none : Option ClassFile.FieldType))
abbrev M_Reader_init : Mi := (yX1_init, cX1_init, 2, (Option.none : Option ClassFile.FieldType))
abbrev M_Steps_init : Mi := (yX5_init, cX5_init, 3, (Option.none : Option ClassFile.FieldType))
abbrev M_Ways_init : Mi := (yX8_init, cX8_init, 3, (Option.none : Option ClassFile.FieldType))
abbrev M_NewWords_init : Mi := (yX2_init, cX2_init, 4, (Option.none : Option ClassFile.FieldType))
abbrev M_Spelling_init : Mi := (yX3_init, cX3_init, 3, (Option.none : Option ClassFile.FieldType))
abbrev M_Told_init : Mi := (yX7_init, cX7_init, 5, (Option.none : Option ClassFile.FieldType))
abbrev M_Squares_init : Mi := (yX4_init, cX4_init, 2, (Option.none : Option ClassFile.FieldType))
abbrev M_L_feed : Mi := (yX10_feed, cX10_feed, 6, (some .int))
abbrev M_Tape_hasRoom : Mi := (yX6_hasRoom, cX6_hasRoom, 1, (some .boolean))
abbrev M_Tape_putNumber : Mi := (yX6_putNumber, cX6_putNumber, 3, (Option.none : Option ClassFile.FieldType))
abbrev M_L_word : Mi := (yX10_word, cX10_word, 8, (some .int))
abbrev M_L_isKnownLevel : Mi := (yX10_isKnownLevel, cX10_isKnownLevel, 1, (some .boolean))
abbrev M_Tape_take : Mi := (yX6_take, cX6_take, 2, (some .boolean))
abbrev M_Tape_isAllLetters : Mi := (yX6_isAllLetters, cX6_isAllLetters, 2, (some .boolean))
abbrev M_Tape_isLetterAt : Mi := (yX6_isLetterAt, cX6_isLetterAt, 2, (some .boolean))
abbrev M_Tape_byteAt : Mi := (yX6_byteAt, cX6_byteAt, 2, (some .int))
abbrev M_Tape_takenKey : Mi := (yX6_takenKey, cX6_takenKey, 4, (some .long))
abbrev M_Tape_letterAt : Mi := (yX6_letterAt, cX6_letterAt, 2, (some .int))
abbrev M_Words_keyOf : Mi := (yX9_keyOf, cX9_keyOf, 3, (some .long))
abbrev M_Words_holds : Mi := (yX9_holds, cX9_holds, 4, (some .boolean))
abbrev M_Words_add : Mi := (yX9_add, cX9_add, 7, (some .int))
abbrev M_Words_lengthOfKey : Mi := (yX9_lengthOfKey, cX9_lengthOfKey, 2, (some .int))
abbrev M_Words_letterOfKey : Mi := (yX9_letterOfKey, cX9_letterOfKey, 3, (some .int))
abbrev M_Words_findUsed : Mi := (yX9_findUsed, cX9_findUsed, 3, (Option.none : Option ClassFile.FieldType))
abbrev M_Steps_joinLast : Mi := (yX5_joinLast, cX5_joinLast, 3, (Option.none : Option ClassFile.FieldType))
abbrev M_Steps_findChange : Mi := (yX5_findChange, cX5_findChange, 4, (Option.none : Option ClassFile.FieldType))
abbrev M_Steps_findChangeOfLike : Mi := (yX5_findChangeOfLike, cX5_findChangeOfLike, 8, (Option.none : Option ClassFile.FieldType))
abbrev M_Steps_alikeAhead : Mi := (yX5_alikeAhead, cX5_alikeAhead, 4, (some .int))
abbrev M_Steps_alikeBehind : Mi := (yX5_alikeBehind, cX5_alikeBehind, 7, (some .int))
abbrev M_Steps_setChange : Mi := (yX5_setChange, cX5_setChange, 6, (Option.none : Option ClassFile.FieldType))
abbrev M_Steps_findChangeOfLength : Mi := (yX5_findChangeOfLength, cX5_findChangeOfLength, 7, (Option.none : Option ClassFile.FieldType))
abbrev M_JMath_min : Mi := (yJ9_min_7cf53, cJ9_min_7cf53, 2, (some .int))
abbrev M_L_bar : Mi := (yX10_bar, cX10_bar, 3, (some .boolean))
abbrev M_Words_has : Mi := (yX9_has, cX9_has, 2, (some .boolean))
abbrev M_Words_setBarred : Mi := (yX9_setBarred, cX9_setBarred, 3, (some .boolean))
abbrev M_L_know : Mi := (yX10_know, cX10_know, 3, (some .boolean))
abbrev M_Words_setKnown : Mi := (yX9_setKnown, cX9_setKnown, 3, (Option.none : Option ClassFile.FieldType))
abbrev M_L_speak : Mi := (yX10_speak, cX10_speak, 2, (some .boolean))
abbrev M_Words_setSpoken : Mi := (yX9_setSpoken, cX9_setSpoken, 2, (Option.none : Option ClassFile.FieldType))
abbrev M_L_law : Mi := (yX10_law, cX10_law, 2, (some .int))
abbrev M_Reader_readText : Mi := (yX1_readText, cX1_readText, 4, (some .boolean))
abbrev M_LawCode_restart : Mi := (yX0_restart, cX0_restart, 1, (Option.none : Option ClassFile.FieldType))
abbrev M_Reader_next : Mi := (yX1_next, cX1_next, 1, (some .int))
abbrev M_Reader_fails : Mi := (yX1_fails, cX1_fails, 2, (some .boolean))
abbrev M_Reader_readClause : Mi := (yX1_readClause, cX1_readClause, 4, (some .boolean))
abbrev M_Reader_readSum : Mi := (yX1_readSum, cX1_readSum, 4, (some .boolean))
abbrev M_Reader_readProduct : Mi := (yX1_readProduct, cX1_readProduct, 4, (some .boolean))
abbrev M_Reader_readFactor : Mi := (yX1_readFactor, cX1_readFactor, 4, (some .boolean))
abbrev M_Reader_opens : Mi := (yX1_opens, cX1_opens, 2, (some .boolean))
abbrev M_Reader_passes : Mi := (yX1_passes, cX1_passes, 2, (some .boolean))
abbrev M_Reader_isDigit : Mi := (yX1_isDigit, cX1_isDigit, 1, (some .boolean))
abbrev M_Reader_readNumber : Mi := (yX1_readNumber, cX1_readNumber, 3, (some .boolean))
abbrev M_LawCode_put : Mi := (yX0_put, cX0_put, 4, (some .int))
abbrev M_JString_indexOf : Mi := (yJ0_indexOf_0f7a4, cJ0_indexOf_0f7a4, 2, (some .int))
abbrev M_JString_indexOf_1 : Mi := (yJ0_indexOf_7cf53, cJ0_indexOf_7cf53, 3, (some .int))
abbrev M_JString_isLatin1 : Mi := (yJ0_isLatin1_aae02, cJ0_isLatin1_aae02, 1, (some .boolean))
abbrev M_JString_length : Mi := (yJ0_length_8abf5, cJ0_length_8abf5, 1, (some .int))
abbrev M_JString_coder : Mi := (yJ0_coder_7d493, cJ0_coder_7d493, 1, (some ClassFile.FieldType.byte))
abbrev M_JLatin1_indexOf : Mi := (yJ1_indexOf_4cfef, cJ1_indexOf_4cfef, 4, (some .int))
abbrev M_JLatin1_canEncode : Mi := (yJ1_canEncode_9a6ad, cJ1_canEncode_9a6ad, 1, (some .boolean))
abbrev M_JMath_max : Mi := (yJ9_max_7cf53, cJ9_max_7cf53, 2, (some .int))
abbrev M_JLatin1_indexOfChar : Mi := (yJ1_indexOfChar_4cfef, cJ1_indexOfChar_4cfef, 6, (some .int))
abbrev M_JUTF16_indexOf : Mi := (yJ2_indexOf_4cfef, cJ2_indexOf_4cfef, 4, (some .int))
abbrev M_JUTF16_indexOfChar : Mi := (yJ2_indexOfChar_4cfef, cJ2_indexOfChar_4cfef, 4, (some .int))
abbrev M_JUTF16_checkBoundsBeginEnd : Mi := (yJ2_checkBoundsBeginEnd_d044e, cJ2_checkBoundsBeginEnd_d044e, 3, (Option.none : Option ClassFile.FieldType))
abbrev M_JUTF16_length : Mi := (yJ2_length_9d52b, cJ2_length_9d52b, 1, (some .int))
abbrev M_JString_checkBoundsBeginEnd : Mi := (yJ0_checkBoundsBeginEnd_23922, cJ0_checkBoundsBeginEnd_23922, 3, (Option.none : Option ClassFile.FieldType))
abbrev M_jdk_internal_util_Preconditions_checkFromToIndex : Mi := (yJ3_checkFromToIndex_8c36e, cJ3_checkFromToIndex_8c36e, 4, (some .int))
abbrev M_JUTF16_indexOfCharUnsafe : Mi := (yJ2_indexOfCharUnsafe_4cfef, cJ2_indexOfCharUnsafe_4cfef, 5, (some .int))
abbrev M_JUTF16_getChar : Mi := (yJ2_getChar_3b067, cJ2_getChar_3b067, 2, (some ClassFile.FieldType.char))
abbrev M_JUTF16_indexOfSupplementary : Mi := (yJ2_indexOfSupplementary_4cfef, cJ2_indexOfSupplementary_4cfef, 7, (some .int))
abbrev M_java_lang_Character_isValidCodePoint : Mi := (yJ11_isValidCodePoint_9a6ad, cJ11_isValidCodePoint_9a6ad, 2, (some .boolean))
abbrev M_java_lang_Character_highSurrogate : Mi := (yJ11_highSurrogate_5068e, cJ11_highSurrogate_5068e, 1, (some ClassFile.FieldType.char))
abbrev M_java_lang_Character_lowSurrogate : Mi := (yJ11_lowSurrogate_5068e, cJ11_lowSurrogate_5068e, 1, (some ClassFile.FieldType.char))
abbrev M_Reader_readBrackets : Mi := (yX1_readBrackets, cX1_readBrackets, 2, (some .boolean))
abbrev M_Reader_readParts : Mi := (yX1_readParts, cX1_readParts, 4, (some .boolean))
abbrev M_Reader_readPieces : Mi := (yX1_readPieces, cX1_readPieces, 4, (some .boolean))
abbrev M_Reader_readPiece : Mi := (yX1_readPiece, cX1_readPiece, 3, (some .boolean))
abbrev M_Reader_readDenied : Mi := (yX1_readDenied, cX1_readDenied, 2, (some .boolean))
abbrev M_Reader_readCompared : Mi := (yX1_readCompared, cX1_readCompared, 3, (some .boolean))
abbrev M_LawCode_landHere : Mi := (yX0_landHere, cX0_landHere, 5, (Option.none : Option ClassFile.FieldType))
abbrev M_LawCode_addClause : Mi := (yX0_addClause, cX0_addClause, 3, (Option.none : Option ClassFile.FieldType))
abbrev M_LawCode_become : Mi := (yX0_become, cX0_become, 2, (Option.none : Option ClassFile.FieldType))
abbrev M_L_step : Mi := (yX10_step, cX10_step, 4, (some .int))
abbrev M_L_areWords : Mi := (yX10_areWords, cX10_areWords, 3, (some .boolean))
abbrev M_Steps_refresh : Mi := (yX5_refresh, cX5_refresh, 3, (Option.none : Option ClassFile.FieldType))
abbrev M_Words_isUsed : Mi := (yX9_isUsed, cX9_isUsed, 2, (some .boolean))
abbrev M_Steps_findCost : Mi := (yX5_findCost, cX5_findCost, 5, (Option.none : Option ClassFile.FieldType))
abbrev M_Steps_nameChange : Mi := (yX5_nameChange, cX5_nameChange, 6, (Option.none : Option ClassFile.FieldType))
abbrev M_Steps_letterIn : Mi := (yX5_letterIn, cX5_letterIn, 3, (some .int))
abbrev M_LawCode_costOfNamed : Mi := (yX0_costOfNamed, cX0_costOfNamed, 5, (some .int))
abbrev M_LawCode_runsThrough : Mi := (yX0_runsThrough, cX0_runsThrough, 6, (some .boolean))
abbrev M_LawCode_reckons : Mi := (yX0_reckons, cX0_reckons, 3, (some .boolean))
abbrev M_LawCode_joinsTwo : Mi := (yX0_joinsTwo, cX0_joinsTwo, 5, (some .boolean))
abbrev M_Steps_costOf : Mi := (yX5_costOf, cX5_costOf, 3, (some .int))
abbrev M_Steps_kindOf : Mi := (yX5_kindOf, cX5_kindOf, 3, (some .int))
abbrev M_Steps_placeOf : Mi := (yX5_placeOf, cX5_placeOf, 3, (some .int))
abbrev M_L_least : Mi := (yX10_least, cX10_least, 5, (some .int))
abbrev M_Ways_refresh : Mi := (yX8_refresh, cX8_refresh, 8, (Option.none : Option ClassFile.FieldType))
abbrev M_Ways_startWeights : Mi := (yX8_startWeights, cX8_startWeights, 4, (Option.none : Option ClassFile.FieldType))
abbrev M_Ways_findFarTwo : Mi := (yX8_findFarTwo, cX8_findFarTwo, 3, (Option.none : Option ClassFile.FieldType))
abbrev M_Ways_isWay : Mi := (yX8_isWay, cX8_isWay, 3, (some .boolean))
abbrev M_Ways_costOf : Mi := (yX8_costOf, cX8_costOf, 3, (some .int))
abbrev M_Ways_lengthOf : Mi := (yX8_lengthOf, cX8_lengthOf, 3, (some .int))
abbrev M_Ways_wordAt : Mi := (yX8_wordAt, cX8_wordAt, 6, (some .int))
abbrev M_Ways_stepToward : Mi := (yX8_stepToward, cX8_stepToward, 4, (some .int))
abbrev M_Steps_leads : Mi := (yX5_leads, cX5_leads, 3, (some .boolean))
abbrev M_L_howMany : Mi := (yX10_howMany, cX10_howMany, 3, (some .long))
abbrev M_Ways_countLeast : Mi := (yX8_countLeast, cX8_countLeast, 6, (some .long))
abbrev M_Ways_nearestUndone : Mi := (yX8_nearestUndone, cX8_nearestUndone, 4, (some .int))
abbrev M_Ways_countOnward : Mi := (yX8_countOnward, cX8_countOnward, 6, (some .long))
abbrev M_L_without : Mi := (yX10_without, cX10_without, 3, (some .long))
abbrev M_Ways_refreshReach : Mi := (yX8_refreshReach, cX8_refreshReach, 4, (Option.none : Option ClassFile.FieldType))
abbrev M_Ways_reaches : Mi := (yX8_reaches, cX8_reaches, 3, (some .boolean))
abbrev M_Ways_findHeaps : Mi := (yX8_findHeaps, cX8_findHeaps, 3, (Option.none : Option ClassFile.FieldType))
abbrev M_Ways_neededBetween : Mi := (yX8_neededBetween, cX8_neededBetween, 6, (some .long))
abbrev M_Ways_reachesWithout : Mi := (yX8_reachesWithout, cX8_reachesWithout, 12, (some .boolean))
abbrev M_L_heap : Mi := (yX10_heap, cX10_heap, 2, (some .int))
abbrev M_L_heaps : Mi := (yX10_heaps, cX10_heaps, 1, (some .int))
abbrev M_L_far : Mi := (yX10_far, cX10_far, 2, (some .int))
abbrev M_L_between : Mi := (yX10_between, cX10_between, 2, (some .int))
abbrev M_Ways_refreshBusiest : Mi := (yX8_refreshBusiest, cX8_refreshBusiest, 3, (Option.none : Option ClassFile.FieldType))
abbrev M_Ways_twosBy : Mi := (yX8_twosBy, cX8_twosBy, 6, (some .int))
abbrev M_L_newWord : Mi := (yX10_newWord, cX10_newWord, 3, (some .int))
abbrev M_NewWords_refresh : Mi := (yX2_refresh, cX2_refresh, 2, (Option.none : Option ClassFile.FieldType))
abbrev M_NewWords_emptyRows : Mi := (yX2_emptyRows, cX2_emptyRows, 2, (Option.none : Option ClassFile.FieldType))
abbrev M_NewWords_joinOtherLetters : Mi := (yX2_joinOtherLetters, cX2_joinOtherLetters, 7, (Option.none : Option ClassFile.FieldType))
abbrev M_NewWords_join : Mi := (yX2_join, cX2_join, 7, (Option.none : Option ClassFile.FieldType))
abbrev M_NewWords_addRow : Mi := (yX2_addRow, cX2_addRow, 5, (Option.none : Option ClassFile.FieldType))
abbrev M_NewWords_joinPutIn : Mi := (yX2_joinPutIn, cX2_joinPutIn, 12, (Option.none : Option ClassFile.FieldType))
abbrev M_NewWords_lettersOf : Mi := (yX2_lettersOf, cX2_lettersOf, 2, (some .long))
abbrev M_NewWords_joinShorterAndChangedAbout : Mi := (yX2_joinShorterAndChangedAbout, cX2_joinShorterAndChangedAbout, 11, (Option.none : Option ClassFile.FieldType))
abbrev M_NewWords_findBest : Mi := (yX2_findBest, cX2_findBest, 2, (Option.none : Option ClassFile.FieldType))
abbrev M_JLong_bitCount : Mi := (yJ13_bitCount_95d88, cJ13_bitCount_95d88, 2, (some .int))
abbrev M_NewWords_weigh : Mi := (yX2_weigh, cX2_weigh, 8, (Option.none : Option ClassFile.FieldType))
abbrev M_NewWords_heapsOf : Mi := (yX2_heapsOf, cX2_heapsOf, 6, (some .int))
abbrev M_NewWords_letterAt : Mi := (yX2_letterAt, cX2_letterAt, 2, (some .int))
abbrev M_L_walks : Mi := (yX10_walks, cX10_walks, 4, (some .long))
abbrev M_Ways_countWalks : Mi := (yX8_countWalks, cX8_countWalks, 6, (some .long))
abbrev M_Ways_walksInto : Mi := (yX8_walksInto, cX8_walksInto, 5, (some .long))
abbrev M_L_row : Mi := (yX10_row, cX10_row, 3, (some .int))
abbrev M_Told_readWords : Mi := (yX7_readWords, cX7_readWords, 6, (some .boolean))
abbrev M_Told_areUsed : Mi := (yX7_areUsed, cX7_areUsed, 2, (some .boolean))
abbrev M_Told_findRow : Mi := (yX7_findRow, cX7_findRow, 3, (some .boolean))
abbrev M_Told_sortList : Mi := (yX7_sortList, cX7_sortList, 4, (Option.none : Option ClassFile.FieldType))
abbrev M_Told_costOnward : Mi := (yX7_costOnward, cX7_costOnward, 6, (some .int))
abbrev M_Told_rowWordAt : Mi := (yX7_rowWordAt, cX7_rowWordAt, 7, (some .int))
abbrev M_Told_rowPlaceAfter : Mi := (yX7_rowPlaceAfter, cX7_rowPlaceAfter, 7, (some .int))
abbrev M_L_game : Mi := (yX10_game, cX10_game, 4, (some .int))
abbrev M_Told_winningWord : Mi := (yX7_winningWord, cX7_winningWord, 4, (some .int))
abbrev M_Told_findStepBits : Mi := (yX7_findStepBits, cX7_findStepBits, 3, (Option.none : Option ClassFile.FieldType))
abbrev M_Told_lostAfter : Mi := (yX7_lostAfter, cX7_lostAfter, 5, (some .int))
abbrev M_Told_placesFrom : Mi := (yX7_placesFrom, cX7_placesFrom, 4, (some .int))
abbrev M_L_farBy : Mi := (yX10_farBy, cX10_farBy, 3, (some .int))
abbrev M_Spelling_apart : Mi := (yX3_apart, cX3_apart, 3, (some .int))
abbrev M_Spelling_apartFrom : Mi := (yX3_apartFrom, cX3_apartFrom, 10, (some .int))
abbrev M_L_near : Mi := (yX10_near, cX10_near, 3, (some .int))
abbrev M_Spelling_findNearest : Mi := (yX3_findNearest, cX3_findNearest, 4, (Option.none : Option ClassFile.FieldType))
abbrev M_L_clear : Mi := (yX10_clear, cX10_clear, 6, (some .int))
abbrev M_Told_mostApart : Mi := (yX7_mostApart, cX7_mostApart, 7, (some .int))
abbrev M_Told_tooNearBefore : Mi := (yX7_tooNearBefore, cX7_tooNearBefore, 5, (some .int))
abbrev M_JInteger_bitCount : Mi := (yJ6_bitCount_0f7a4, cJ6_bitCount_0f7a4, 1, (some .int))
abbrev M_L_rubbed : Mi := (yX10_rubbed, cX10_rubbed, 2, (some .long))
abbrev M_Tape_isRubbedText : Mi := (yX6_isRubbedText, cX6_isRubbedText, 2, (some .boolean))
abbrev M_Spelling_fitting : Mi := (yX3_fitting, cX3_fitting, 5, (some .long))
abbrev M_Spelling_fits : Mi := (yX3_fits, cX3_fits, 3, (some .boolean))
abbrev M_L_square : Mi := (yX10_square, cX10_square, 3, (some .int))
abbrev M_Squares_refresh : Mi := (yX4_refresh, cX4_refresh, 3, (Option.none : Option ClassFile.FieldType))
abbrev M_Squares_findWords : Mi := (yX4_findWords, cX4_findWords, 3, (Option.none : Option ClassFile.FieldType))
abbrev M_JArrays_fill : Mi := (yJ7_fill_d0a16, cJ7_fill_d0a16, 5, (Option.none : Option ClassFile.FieldType))
abbrev M_Squares_putRow : Mi := (yX4_putRow, cX4_putRow, 3, (Option.none : Option ClassFile.FieldType))
abbrev M_Squares_keepSquare : Mi := (yX4_keepSquare, cX4_keepSquare, 1, (Option.none : Option ClassFile.FieldType))
abbrev M_Squares_tryRow : Mi := (yX4_tryRow, cX4_tryRow, 3, (Option.none : Option ClassFile.FieldType))
abbrev M_Squares_keepsColumnsOpen : Mi := (yX4_keepsColumnsOpen, cX4_keepsColumnsOpen, 7, (some .boolean))
abbrev M_L_seed : Mi := (yX10_seed, cX10_seed, 2, (some .boolean))
abbrev M_L_draw : Mi := (yX10_draw, cX10_draw, 8, (some .int))
abbrev M_Steps_goneTo : Mi := (yX5_goneTo, cX5_goneTo, 6, (some .int))
abbrev M_L_off : Mi := (yX10_off, cX10_off, 1, (some .int))
abbrev M_Words_takeLast : Mi := (yX9_takeLast, cX9_takeLast, 1, (some .int))
abbrev M_L_check : Mi := (yX10_check, cX10_check, 5, (some .int))
abbrev M_Tape_numberAt : Mi := (yX6_numberAt, cX6_numberAt, 4, (some .int))
abbrev M_L_count : Mi := (yX10_count, cX10_count, 2, (some .int))
abbrev M_L_countOfWord : Mi := (yX10_countOfWord, cX10_countOfWord, 2, (some .int))
abbrev M_M_init : Mi := (yX11_init, cX11_init, 1, (Option.none : Option ClassFile.FieldType))
abbrev M_M_word : Mi := (yX11_word, cX11_word, 5, (some .int))
abbrev M_M_in : Mi := (yX11_in, cX11_in, 3, (some .boolean))
abbrev M_M_takesLetters : Mi := (yX11_takesLetters, cX11_takesLetters, 3, (some .boolean))
abbrev M_M_isRowWord : Mi := (yX11_isRowWord, cX11_isRowWord, 2, (some .boolean))
abbrev M_M_isRow : Mi := (yX11_isRow, cX11_isRow, 3, (some .boolean))
abbrev M_M_bar : Mi := (yX11_bar, cX11_bar, 3, (some .boolean))
abbrev M_M_isWord : Mi := (yX11_isWord, cX11_isWord, 2, (some .boolean))
abbrev M_M_know : Mi := (yX11_know, cX11_know, 3, (some .boolean))
abbrev M_M_speak : Mi := (yX11_speak, cX11_speak, 2, (some .boolean))
abbrev M_M_off : Mi := (yX11_off, cX11_off, 1, (some .int))
abbrev M_M_feed : Mi := (yX11_feed, cX11_feed, 6, (some .int))
abbrev M_M_types : Mi := (yX11_types, cX11_types, 3, (Option.none : Option ClassFile.FieldType))
abbrev M_M_law : Mi := (yX11_law, cX11_law, 4, (some .int))
abbrev M_M_readsClause : Mi := (yX11_readsClause, cX11_readsClause, 2, (some .boolean))
abbrev M_M_here : Mi := (yX11_here, cX11_here, 1, (some .int))
abbrev M_M_wrongAt : Mi := (yX11_wrongAt, cX11_wrongAt, 3, (some .boolean))
abbrev M_M_readsSum : Mi := (yX11_readsSum, cX11_readsSum, 3, (some .boolean))
abbrev M_M_readsFactor : Mi := (yX11_readsFactor, cX11_readsFactor, 2, (some .boolean))
abbrev M_M_opens : Mi := (yX11_opens, cX11_opens, 2, (some .boolean))
abbrev M_M_isDigit : Mi := (yX11_isDigit, cX11_isDigit, 1, (some .boolean))
abbrev M_M_readsNumber : Mi := (yX11_readsNumber, cX11_readsNumber, 2, (some .boolean))
abbrev M_M_notes : Mi := (yX11_notes, cX11_notes, 3, (Option.none : Option ClassFile.FieldType))
abbrev M_M_factOf : Mi := (yX11_factOf, cX11_factOf, 1, (some .int))
abbrev M_M_sumSign : Mi := (yX11_sumSign, cX11_sumSign, 1, (some .int))
abbrev M_M_closesSums : Mi := (yX11_closesSums, cX11_closesSums, 2, (Option.none : Option ClassFile.FieldType))
abbrev M_M_top : Mi := (yX11_top, cX11_top, 1, (some .int))
abbrev M_M_hasOpenSum : Mi := (yX11_hasOpenSum, cX11_hasOpenSum, 3, (some .boolean))
abbrev M_M_readsCondition : Mi := (yX11_readsCondition, cX11_readsCondition, 1, (some .boolean))
abbrev M_M_readsCompared : Mi := (yX11_readsCompared, cX11_readsCompared, 2, (some .boolean))
abbrev M_M_endsPiece : Mi := (yX11_endsPiece, cX11_endsPiece, 1, (Option.none : Option ClassFile.FieldType))
abbrev M_M_lands : Mi := (yX11_lands, cX11_lands, 3, (Option.none : Option ClassFile.FieldType))
abbrev M_M_jumps : Mi := (yX11_jumps, cX11_jumps, 2, (Option.none : Option ClassFile.FieldType))
abbrev M_M_takes : Mi := (yX11_takes, cX11_takes, 2, (some .boolean))
abbrev M_M_step : Mi := (yX11_step, cX11_step, 4, (some .int))
abbrev M_M_laysSteps : Mi := (yX11_laysSteps, cX11_laysSteps, 3, (Option.none : Option ClassFile.FieldType))
abbrev M_M_isUsed : Mi := (yX11_isUsed, cX11_isUsed, 2, (some .boolean))
abbrev M_M_mayNear : Mi := (yX11_mayNear, cX11_mayNear, 3, (some .boolean))
abbrev M_M_laysStep : Mi := (yX11_laysStep, cX11_laysStep, 7, (Option.none : Option ClassFile.FieldType))
abbrev M_M_isChange : Mi := (yX11_isChange, cX11_isChange, 6, (some .boolean))
abbrev M_M_letter : Mi := (yX11_letter, cX11_letter, 3, (some .int))
abbrev M_M_areAlikeBut : Mi := (yX11_areAlikeBut, cX11_areAlikeBut, 6, (some .boolean))
abbrev M_M_isWithout : Mi := (yX11_isWithout, cX11_isWithout, 5, (some .boolean))
abbrev M_M_feels : Mi := (yX11_feels, cX11_feels, 5, (Option.none : Option ClassFile.FieldType))
abbrev M_M_costOf : Mi := (yX11_costOf, cX11_costOf, 4, (some .int))
abbrev M_M_comesTo : Mi := (yX11_comesTo, cX11_comesTo, 8, (some .int))
abbrev M_M_reckon : Mi := (yX11_reckon, cX11_reckon, 3, (some .int))
abbrev M_M_isStep : Mi := (yX11_isStep, cX11_isStep, 3, (some .boolean))
abbrev M_M_least : Mi := (yX11_least, cX11_least, 7, (some .int))
abbrev M_M_laysWays : Mi := (yX11_laysWays, cX11_laysWays, 4, (Option.none : Option ClassFile.FieldType))
abbrev M_M_stepWay : Mi := (yX11_stepWay, cX11_stepWay, 3, (some .int))
abbrev M_M_sum : Mi := (yX11_sum, cX11_sum, 2, (some .int))
abbrev M_M_min : Mi := (yX11_min, cX11_min, 2, (some .int))
abbrev M_M_nextOn : Mi := (yX11_nextOn, cX11_nextOn, 4, (some .int))
abbrev M_M_howMany : Mi := (yX11_howMany, cX11_howMany, 6, (some .long))
abbrev M_M_leastOf : Mi := (yX11_leastOf, cX11_leastOf, 3, (some .int))
abbrev M_M_sumOf : Mi := (yX11_sumOf, cX11_sumOf, 7, (some .long))
abbrev M_M_without : Mi := (yX11_without, cX11_without, 6, (some .long))
abbrev M_M_comes : Mi := (yX11_comes, cX11_comes, 7, (some .boolean))
abbrev M_M_heap : Mi := (yX11_heap, cX11_heap, 2, (some .int))
abbrev M_M_heapOf : Mi := (yX11_heapOf, cX11_heapOf, 3, (some .int))
abbrev M_M_heaps : Mi := (yX11_heaps, cX11_heaps, 3, (some .int))
abbrev M_M_far : Mi := (yX11_far, cX11_far, 7, (some .int))
abbrev M_M_between : Mi := (yX11_between, cX11_between, 6, (some .int))
abbrev M_M_twosBy : Mi := (yX11_twosBy, cX11_twosBy, 5, (some .int))
abbrev M_M_newWord : Mi := (yX11_newWord, cX11_newWord, 3, (some .int))
abbrev M_M_triesAbout : Mi := (yX11_triesAbout, cX11_triesAbout, 4, (Option.none : Option ClassFile.FieldType))
abbrev M_M_putsIn : Mi := (yX11_putsIn, cX11_putsIn, 5, (Option.none : Option ClassFile.FieldType))
abbrev M_M_triesNew : Mi := (yX11_triesNew, cX11_triesNew, 6, (Option.none : Option ClassFile.FieldType))
abbrev M_M_isNear : Mi := (yX11_isNear, cX11_isNear, 5, (some .boolean))
abbrev M_M_isNearAlike : Mi := (yX11_isNearAlike, cX11_isNearAlike, 6, (some .boolean))
abbrev M_M_isRowWithout : Mi := (yX11_isRowWithout, cX11_isRowWithout, 7, (some .boolean))
abbrev M_M_isAheadOfNew : Mi := (yX11_isAheadOfNew, cX11_isAheadOfNew, 2, (some .boolean))
abbrev M_M_laysRow : Mi := (yX11_laysRow, cX11_laysRow, 3, (Option.none : Option ClassFile.FieldType))
abbrev M_M_leavesOut : Mi := (yX11_leavesOut, cX11_leavesOut, 4, (Option.none : Option ClassFile.FieldType))
abbrev M_M_walks : Mi := (yX11_walks, cX11_walks, 7, (some .long))
abbrev M_M_row : Mi := (yX11_row, cX11_row, 9, (some .int))
abbrev M_M_takesWords : Mi := (yX11_takesWords, cX11_takesWords, 4, (some .boolean))
abbrev M_M_areUsed : Mi := (yX11_areUsed, cX11_areUsed, 3, (some .boolean))
abbrev M_M_laysRest : Mi := (yX11_laysRest, cX11_laysRest, 7, (Option.none : Option ClassFile.FieldType))
abbrev M_M_rowBy : Mi := (yX11_rowBy, cX11_rowBy, 5, (some .int))
abbrev M_M_stepTold : Mi := (yX11_stepTold, cX11_stepTold, 3, (some .int))
abbrev M_M_game : Mi := (yX11_game, cX11_game, 5, (some .int))
abbrev M_M_wins : Mi := (yX11_wins, cX11_wins, 5, (some .boolean))
abbrev M_M_farBy : Mi := (yX11_farBy, cX11_farBy, 3, (some .int))
abbrev M_M_farBetween : Mi := (yX11_farBetween, cX11_farBetween, 3, (some .int))
abbrev M_M_farFromRow : Mi := (yX11_farFromRow, cX11_farFromRow, 5, (some .int))
abbrev M_M_near : Mi := (yX11_near, cX11_near, 8, (some .int))
abbrev M_M_clear : Mi := (yX11_clear, cX11_clear, 6, (some .int))
abbrev M_M_bits : Mi := (yX11_bits, cX11_bits, 3, (some .int))
abbrev M_M_isClear : Mi := (yX11_isClear, cX11_isClear, 4, (some .boolean))
abbrev M_M_rubbed : Mi := (yX11_rubbed, cX11_rubbed, 5, (some .long))
abbrev M_M_isRubbed : Mi := (yX11_isRubbed, cX11_isRubbed, 4, (some .boolean))
abbrev M_M_square : Mi := (yX11_square, cX11_square, 3, (some .int))
abbrev M_M_laysSquares : Mi := (yX11_laysSquares, cX11_laysSquares, 4, (Option.none : Option ClassFile.FieldType))
abbrev M_M_isOf : Mi := (yX11_isOf, cX11_isOf, 3, (some .boolean))
abbrev M_M_canRows : Mi := (yX11_canRows, cX11_canRows, 4, (some .boolean))
abbrev M_M_canColumn : Mi := (yX11_canColumn, cX11_canColumn, 7, (some .boolean))
abbrev M_M_seed : Mi := (yX11_seed, cX11_seed, 2, (some .boolean))
abbrev M_M_draw : Mi := (yX11_draw, cX11_draw, 7, (some .int))
abbrev M_M_stepsFrom : Mi := (yX11_stepsFrom, cX11_stepsFrom, 4, (some .int))
abbrev M_M_stepTo : Mi := (yX11_stepTo, cX11_stepTo, 5, (some .int))
abbrev M_M_check : Mi := (yX11_check, cX11_check, 4, (some .int))
abbrev M_M_tapeNumber : Mi := (yX11_tapeNumber, cX11_tapeNumber, 4, (some .int))
abbrev M_M_count : Mi := (yX11_count, cX11_count, 2, (some .int))
abbrev M_M_usedMany : Mi := (yX11_usedMany, cX11_usedMany, 3, (some .int))
theorem cl_0 : ClOk 0 := ⟨RX0, TX0, 10, rfl, tb_all [264, 266, 268, 270, 272, 274, 276, 278, 280, 282] (by decide +kernel) (by decide +kernel), ⟨tyX0, tyX0_ok⟩, nmX0⟩
theorem cl_1 : ClOk 1 := ⟨RX1, TX1, 5, rfl, tb_all [301, 303, 305, 307, 309] (by decide +kernel) (by decide +kernel), ⟨tyX1, tyX1_ok⟩, nmX1⟩
theorem cl_2 : ClOk 2 := ⟨RX2, TX2, 12, rfl, tb_all [445, 447, 449, 451, 453, 455, 457, 459, 461, 463, 465, 467] (by decide +kernel) (by decide +kernel), ⟨tyX2, tyX2_ok⟩, nmX2⟩
theorem cl_3 : ClOk 3 := ⟨RX3, TX3, 7, rfl, tb_all [486, 488, 490, 492, 494, 496, 498] (by decide +kernel) (by decide +kernel), ⟨tyX3, tyX3_ok⟩, nmX3⟩
theorem cl_4 : ClOk 4 := ⟨RX4, TX4, 9, rfl, tb_all [562, 564, 566, 568, 570, 572, 574, 576, 578] (by decide +kernel) (by decide +kernel), ⟨tyX4, tyX4_ok⟩, nmX4⟩
theorem cl_5 : ClOk 5 := ⟨RX5, TX5, 11, rfl, tb_all [333, 335, 337, 339, 341, 343, 345, 347, 349, 351, 353] (by decide +kernel) (by decide +kernel), ⟨tyX5, tyX5_ok⟩, nmX5⟩
theorem cl_6 : ClOk 6 := ⟨RX6, TX6, 3, rfl, tb_all [173, 175, 177] (by decide +kernel) (by decide +kernel), ⟨tyX6, tyX6_ok⟩, nmX6⟩
theorem cl_7 : ClOk 7 := ⟨RX7, TX7, 12, rfl, tb_all [520, 522, 524, 526, 528, 530, 532, 534, 536, 538, 540, 542] (by decide +kernel) (by decide +kernel), ⟨tyX7, tyX7_ok⟩, nmX7⟩
theorem cl_8 : ClOk 8 := ⟨RX8, TX8, 17, rfl, tb_all [388, 390, 392, 394, 396, 398, 400, 402, 404, 406, 408, 410, 412, 414, 416, 418, 420] (by decide +kernel) (by decide +kernel), ⟨tyX8, tyX8_ok⟩, nmX8⟩
theorem cl_9 : ClOk 9 := ⟨RX9, TX9, 10, rfl, tb_all [221, 223, 225, 227, 229, 231, 233, 235, 237, 239] (by decide +kernel) (by decide +kernel), ⟨tyX9, tyX9_ok⟩, nmX9⟩
theorem cl_10 : ClOk 10 := ⟨RX10, TX10, 11, rfl, tb_all [592, 594, 596, 598, 600, 602, 604, 606, 608, 610, 612] (by decide +kernel) (by decide +kernel), ⟨tyX10, tyX10_ok⟩, nmX10⟩
theorem cl_11 : ClOk 11 := ⟨RX11, TX11, 54, rfl, tb_all [1427, 1429, 1431, 1433, 1435, 1437, 1439, 1441, 1443, 1445, 1447, 1449, 1451, 1453, 1455, 1457, 1459, 1461, 1463, 1465, 1467, 1469, 1471, 1473, 1475, 1477, 1479, 1481, 1483, 1485, 1487, 1489, 1491, 1493, 1495, 1497, 1499, 1501, 1503, 1505, 1507, 1509, 1511, 1513, 1515, 1517, 1519, 1521, 1523, 1525, 1527, 1529, 1531, 1533] (by decide +kernel) (by decide +kernel), ⟨tyX11, tyX11_ok⟩, nmX11⟩
theorem fl_L_10 : FL RX10 10 10 0 := ⟨cl_10, ⟨_, rfl, by decide, tb_mem (i := 581) (by decide +kernel) rfl⟩⟩
theorem fl_L_19 : FL RX10 19 10 1 := ⟨cl_10, ⟨_, rfl, by decide, tb_mem (i := 582) (by decide +kernel) rfl⟩⟩
theorem fl_L_26 : FL RX10 26 10 2 := ⟨cl_10, ⟨_, rfl, by decide, tb_mem (i := 583) (by decide +kernel) rfl⟩⟩
theorem fl_L_35 : FL RX10 35 10 3 := ⟨cl_10, ⟨_, rfl, by decide, tb_mem (i := 584) (by decide +kernel) rfl⟩⟩
theorem fl_L_44 : FL RX10 44 10 4 := ⟨cl_10, ⟨_, rfl, by decide, tb_mem (i := 585) (by decide +kernel) rfl⟩⟩
theorem fl_L_53 : FL RX10 53 10 5 := ⟨cl_10, ⟨_, rfl, by decide, tb_mem (i := 586) (by decide +kernel) rfl⟩⟩
theorem fl_L_62 : FL RX10 62 10 6 := ⟨cl_10, ⟨_, rfl, by decide, tb_mem (i := 587) (by decide +kernel) rfl⟩⟩
theorem fl_L_71 : FL RX10 71 10 7 := ⟨cl_10, ⟨_, rfl, by decide, tb_mem (i := 588) (by decide +kernel) rfl⟩⟩
theorem fl_L_80 : FL RX10 80 10 8 := ⟨cl_10, ⟨_, rfl, by decide, tb_mem (i := 589) (by decide +kernel) rfl⟩⟩
theorem fl_L_89 : FL RX10 89 10 9 := ⟨cl_10, ⟨_, rfl, by decide, tb_mem (i := 590) (by decide +kernel) rfl⟩⟩
theorem fl_L_93 : FL RX10 93 10 10 := ⟨cl_10, ⟨_, rfl, by decide, tb_mem (i := 591) (by decide +kernel) rfl⟩⟩
theorem fp_L_93 : FP RX10 93 10 10 .int := ⟨fl_L_93, ⟨_, rfl, rfl, tyX10_ok 10 (by decide)⟩⟩
theorem lk_L_97 : LV RX10 97 M_Tape_hasRoom 0 6 := ⟨⟨tb_mem (i := 619) (by decide +kernel) rfl, tb_mem (i := 620) (by decide +kernel) rfl, tb_mem (i := 621) (by decide +kernel) rfl, tb_mem (i := 134) (by decide +kernel) rfl, tb_mem (i := 622) (by decide +kernel) rfl⟩, ⟨by decide +kernel, by decide +kernel, by decide +kernel⟩, by decide, ⟨_, rfl, rfl⟩⟩
theorem lk_L_101 : LV RX10 101 M_Tape_putNumber 1 6 := ⟨⟨tb_mem (i := 623) (by decide +kernel) rfl, tb_mem (i := 624) (by decide +kernel) rfl, tb_mem (i := 625) (by decide +kernel) rfl, tb_mem (i := 134) (by decide +kernel) rfl, tb_mem (i := 626) (by decide +kernel) rfl⟩, ⟨by decide +kernel, by decide +kernel, by decide +kernel⟩, by decide, ⟨_, rfl, rfl⟩⟩
theorem fl_L_105 : FL RX10 105 6 1 := ⟨cl_6, ⟨_, rfl, by decide, tb_mem (i := 171) (by decide +kernel) rfl⟩⟩
theorem lk_L_108 : LSt RX10 108 M_L_isKnownLevel 1 := ⟨⟨tb_mem (i := 631) (by decide +kernel) rfl, tb_mem (i := 632) (by decide +kernel) rfl, tb_mem (i := 133) (by decide +kernel) rfl, tb_mem (i := 633) (by decide +kernel) rfl⟩, ⟨by decide +kernel, by decide +kernel, by decide +kernel⟩, by decide⟩
theorem fl_L_112 : FL RX10 112 9 6 := ⟨cl_9, ⟨_, rfl, by decide, tb_mem (i := 211) (by decide +kernel) rfl⟩⟩
theorem lk_L_113 : LV RX10 113 M_Tape_take 1 6 := ⟨⟨tb_mem (i := 634) (by decide +kernel) rfl, tb_mem (i := 635) (by decide +kernel) rfl, tb_mem (i := 636) (by decide +kernel) rfl, tb_mem (i := 134) (by decide +kernel) rfl, tb_mem (i := 637) (by decide +kernel) rfl⟩, ⟨by decide +kernel, by decide +kernel, by decide +kernel⟩, by decide, ⟨_, rfl, rfl⟩⟩
theorem lk_L_116 : LV RX10 116 M_Tape_isAllLetters 0 6 := ⟨⟨tb_mem (i := 638) (by decide +kernel) rfl, tb_mem (i := 639) (by decide +kernel) rfl, tb_mem (i := 640) (by decide +kernel) rfl, tb_mem (i := 134) (by decide +kernel) rfl, tb_mem (i := 641) (by decide +kernel) rfl⟩, ⟨by decide +kernel, by decide +kernel, by decide +kernel⟩, by decide, ⟨_, rfl, rfl⟩⟩
theorem lk_L_119 : LV RX10 119 M_Tape_takenKey 0 6 := ⟨⟨tb_mem (i := 650) (by decide +kernel) rfl, tb_mem (i := 651) (by decide +kernel) rfl, tb_mem (i := 652) (by decide +kernel) rfl, tb_mem (i := 134) (by decide +kernel) rfl, tb_mem (i := 653) (by decide +kernel) rfl⟩, ⟨by decide +kernel, by decide +kernel, by decide +kernel⟩, by decide, ⟨_, rfl, rfl⟩⟩
theorem lk_L_123 : LV RX10 123 M_Words_holds 1 9 := ⟨⟨tb_mem (i := 661) (by decide +kernel) rfl, tb_mem (i := 662) (by decide +kernel) rfl, tb_mem (i := 663) (by decide +kernel) rfl, tb_mem (i := 135) (by decide +kernel) rfl, tb_mem (i := 664) (by decide +kernel) rfl⟩, ⟨by decide +kernel, by decide +kernel, by decide +kernel⟩, by decide, ⟨_, rfl, rfl⟩⟩
theorem lk_L_127 : LV RX10 127 M_Words_add 3 9 := ⟨⟨tb_mem (i := 665) (by decide +kernel) rfl, tb_mem (i := 666) (by decide +kernel) rfl, tb_mem (i := 667) (by decide +kernel) rfl, tb_mem (i := 135) (by decide +kernel) rfl, tb_mem (i := 668) (by decide +kernel) rfl⟩, ⟨by decide +kernel, by decide +kernel, by decide +kernel⟩, by decide, ⟨_, rfl, rfl⟩⟩
theorem lk_L_131 : LV RX10 131 M_Steps_joinLast 0 5 := ⟨⟨tb_mem (i := 679) (by decide +kernel) rfl, tb_mem (i := 680) (by decide +kernel) rfl, tb_mem (i := 681) (by decide +kernel) rfl, tb_mem (i := 138) (by decide +kernel) rfl, tb_mem (i := 682) (by decide +kernel) rfl⟩, ⟨by decide +kernel, by decide +kernel, by decide +kernel⟩, by decide, ⟨_, rfl, rfl⟩⟩
theorem lk_L_134 : LV RX10 134 M_Words_has 1 9 := ⟨⟨tb_mem (i := 713) (by decide +kernel) rfl, tb_mem (i := 714) (by decide +kernel) rfl, tb_mem (i := 715) (by decide +kernel) rfl, tb_mem (i := 135) (by decide +kernel) rfl, tb_mem (i := 716) (by decide +kernel) rfl⟩, ⟨by decide +kernel, by decide +kernel, by decide +kernel⟩, by decide, ⟨_, rfl, rfl⟩⟩
theorem lk_L_137 : LV RX10 137 M_Words_setBarred 2 9 := ⟨⟨tb_mem (i := 717) (by decide +kernel) rfl, tb_mem (i := 718) (by decide +kernel) rfl, tb_mem (i := 719) (by decide +kernel) rfl, tb_mem (i := 135) (by decide +kernel) rfl, tb_mem (i := 720) (by decide +kernel) rfl⟩, ⟨by decide +kernel, by decide +kernel, by decide +kernel⟩, by decide, ⟨_, rfl, rfl⟩⟩
theorem lk_L_141 : LV RX10 141 M_Words_setKnown 2 9 := ⟨⟨tb_mem (i := 725) (by decide +kernel) rfl, tb_mem (i := 726) (by decide +kernel) rfl, tb_mem (i := 727) (by decide +kernel) rfl, tb_mem (i := 135) (by decide +kernel) rfl, tb_mem (i := 728) (by decide +kernel) rfl⟩, ⟨by decide +kernel, by decide +kernel, by decide +kernel⟩, by decide, ⟨_, rfl, rfl⟩⟩
theorem lk_L_145 : LV RX10 145 M_Words_setSpoken 1 9 := ⟨⟨tb_mem (i := 733) (by decide +kernel) rfl, tb_mem (i := 734) (by decide +kernel) rfl, tb_mem (i := 735) (by decide +kernel) rfl, tb_mem (i := 135) (by decide +kernel) rfl, tb_mem (i := 736) (by decide +kernel) rfl⟩, ⟨by decide +kernel, by decide +kernel, by decide +kernel⟩, by decide, ⟨_, rfl, rfl⟩⟩
theorem lk_L_148 : LV RX10 148 M_Reader_readText 1 1 := ⟨⟨tb_mem (i := 741) (by decide +kernel) rfl, tb_mem (i := 742) (by decide +kernel) rfl, tb_mem (i := 743) (by decide +kernel) rfl, tb_mem (i := 137) (by decide +kernel) rfl, tb_mem (i := 744) (by decide +kernel) rfl⟩, ⟨by decide +kernel, by decide +kernel, by decide +kernel⟩, by decide, ⟨_, rfl, rfl⟩⟩
theorem fl_L_151 : FL RX10 151 1 4 := ⟨cl_1, ⟨_, rfl, by decide, tb_mem (i := 300) (by decide +kernel) rfl⟩⟩
theorem fl_L_154 : FL RX10 154 1 3 := ⟨cl_1, ⟨_, rfl, by decide, tb_mem (i := 298) (by decide +kernel) rfl⟩⟩
theorem fl_L_157 : FL RX10 157 1 1 := ⟨cl_1, ⟨_, rfl, by decide, tb_mem (i := 295) (by decide +kernel) rfl⟩⟩
theorem lk_L_160 : LV RX10 160 M_LawCode_become 1 0 := ⟨⟨tb_mem (i := 910) (by decide +kernel) rfl, tb_mem (i := 911) (by decide +kernel) rfl, tb_mem (i := 912) (by decide +kernel) rfl, tb_mem (i := 136) (by decide +kernel) rfl, tb_mem (i := 913) (by decide +kernel) rfl⟩, ⟨by decide +kernel, by decide +kernel, by decide +kernel⟩, by decide, ⟨_, rfl, rfl⟩⟩
theorem fl_L_164 : FL RX10 164 0 6 := ⟨cl_0, ⟨_, rfl, by decide, tb_mem (i := 259) (by decide +kernel) rfl⟩⟩
theorem lk_L_167 : LV RX10 167 M_L_areWords 2 10 := ⟨⟨tb_mem (i := 922) (by decide +kernel) rfl, tb_mem (i := 924) (by decide +kernel) rfl, tb_mem (i := 21) (by decide +kernel) rfl, tb_mem (i := 133) (by decide +kernel) rfl, tb_mem (i := 925) (by decide +kernel) rfl⟩, ⟨by decide +kernel, by decide +kernel, by decide +kernel⟩, by decide, ⟨_, rfl, rfl⟩⟩
theorem lk_L_171 : LV RX10 171 M_Steps_refresh 0 5 := ⟨⟨tb_mem (i := 926) (by decide +kernel) rfl, tb_mem (i := 927) (by decide +kernel) rfl, tb_mem (i := 928) (by decide +kernel) rfl, tb_mem (i := 138) (by decide +kernel) rfl, tb_mem (i := 929) (by decide +kernel) rfl⟩, ⟨by decide +kernel, by decide +kernel, by decide +kernel⟩, by decide, ⟨_, rfl, rfl⟩⟩
theorem lk_L_174 : LV RX10 174 M_Steps_costOf 2 5 := ⟨⟨tb_mem (i := 965) (by decide +kernel) rfl, tb_mem (i := 966) (by decide +kernel) rfl, tb_mem (i := 967) (by decide +kernel) rfl, tb_mem (i := 138) (by decide +kernel) rfl, tb_mem (i := 968) (by decide +kernel) rfl⟩, ⟨by decide +kernel, by decide +kernel, by decide +kernel⟩, by decide, ⟨_, rfl, rfl⟩⟩
theorem lk_L_178 : LV RX10 178 M_Steps_kindOf 2 5 := ⟨⟨tb_mem (i := 970) (by decide +kernel) rfl, tb_mem (i := 971) (by decide +kernel) rfl, tb_mem (i := 972) (by decide +kernel) rfl, tb_mem (i := 138) (by decide +kernel) rfl, tb_mem (i := 973) (by decide +kernel) rfl⟩, ⟨by decide +kernel, by decide +kernel, by decide +kernel⟩, by decide, ⟨_, rfl, rfl⟩⟩
theorem lk_L_181 : LV RX10 181 M_Steps_placeOf 2 5 := ⟨⟨tb_mem (i := 974) (by decide +kernel) rfl, tb_mem (i := 975) (by decide +kernel) rfl, tb_mem (i := 976) (by decide +kernel) rfl, tb_mem (i := 138) (by decide +kernel) rfl, tb_mem (i := 977) (by decide +kernel) rfl⟩, ⟨by decide +kernel, by decide +kernel, by decide +kernel⟩, by decide, ⟨_, rfl, rfl⟩⟩
theorem lk_L_184 : LV RX10 184 M_Ways_refresh 0 8 := ⟨⟨tb_mem (i := 982) (by decide +kernel) rfl, tb_mem (i := 983) (by decide +kernel) rfl, tb_mem (i := 984) (by decide +kernel) rfl, tb_mem (i := 139) (by decide +kernel) rfl, tb_mem (i := 985) (by decide +kernel) rfl⟩, ⟨by decide +kernel, by decide +kernel, by decide +kernel⟩, by decide, ⟨_, rfl, rfl⟩⟩
theorem lk_L_185 : LV RX10 185 M_Ways_isWay 2 8 := ⟨⟨tb_mem (i := 1005) (by decide +kernel) rfl, tb_mem (i := 998) (by decide +kernel) rfl, tb_mem (i := 999) (by decide +kernel) rfl, tb_mem (i := 139) (by decide +kernel) rfl, tb_mem (i := 1000) (by decide +kernel) rfl⟩, ⟨by decide +kernel, by decide +kernel, by decide +kernel⟩, by decide, ⟨_, rfl, rfl⟩⟩
theorem lk_L_188 : LV RX10 188 M_Ways_costOf 2 8 := ⟨⟨tb_mem (i := 1006) (by decide +kernel) rfl, tb_mem (i := 1002) (by decide +kernel) rfl, tb_mem (i := 1003) (by decide +kernel) rfl, tb_mem (i := 139) (by decide +kernel) rfl, tb_mem (i := 1004) (by decide +kernel) rfl⟩, ⟨by decide +kernel, by decide +kernel, by decide +kernel⟩, by decide, ⟨_, rfl, rfl⟩⟩
theorem lk_L_189 : LV RX10 189 M_Ways_lengthOf 2 8 := ⟨⟨tb_mem (i := 1007) (by decide +kernel) rfl, tb_mem (i := 1008) (by decide +kernel) rfl, tb_mem (i := 1009) (by decide +kernel) rfl, tb_mem (i := 139) (by decide +kernel) rfl, tb_mem (i := 1010) (by decide +kernel) rfl⟩, ⟨by decide +kernel, by decide +kernel, by decide +kernel⟩, by decide, ⟨_, rfl, rfl⟩⟩
theorem lk_L_192 : LV RX10 192 M_Ways_wordAt 3 8 := ⟨⟨tb_mem (i := 1011) (by decide +kernel) rfl, tb_mem (i := 1012) (by decide +kernel) rfl, tb_mem (i := 1013) (by decide +kernel) rfl, tb_mem (i := 139) (by decide +kernel) rfl, tb_mem (i := 1014) (by decide +kernel) rfl⟩, ⟨by decide +kernel, by decide +kernel, by decide +kernel⟩, by decide, ⟨_, rfl, rfl⟩⟩
theorem kc_L_196 : Cond.constantLong RX10 196 (Int64.ofInt (-1)) ∈ TB := tb_mem (i := 1027) (by decide +kernel) rfl
theorem lk_L_198 : LV RX10 198 M_Ways_countLeast 2 8 := ⟨⟨tb_mem (i := 1028) (by decide +kernel) rfl, tb_mem (i := 1029) (by decide +kernel) rfl, tb_mem (i := 1030) (by decide +kernel) rfl, tb_mem (i := 139) (by decide +kernel) rfl, tb_mem (i := 1031) (by decide +kernel) rfl⟩, ⟨by decide +kernel, by decide +kernel, by decide +kernel⟩, by decide, ⟨_, rfl, rfl⟩⟩
theorem lk_L_202 : LV RX10 202 M_Ways_refreshReach 0 8 := ⟨⟨tb_mem (i := 1044) (by decide +kernel) rfl, tb_mem (i := 1045) (by decide +kernel) rfl, tb_mem (i := 1046) (by decide +kernel) rfl, tb_mem (i := 139) (by decide +kernel) rfl, tb_mem (i := 1047) (by decide +kernel) rfl⟩, ⟨by decide +kernel, by decide +kernel, by decide +kernel⟩, by decide, ⟨_, rfl, rfl⟩⟩
theorem lk_L_205 : LV RX10 205 M_Ways_reaches 2 8 := ⟨⟨tb_mem (i := 1056) (by decide +kernel) rfl, tb_mem (i := 1049) (by decide +kernel) rfl, tb_mem (i := 1050) (by decide +kernel) rfl, tb_mem (i := 139) (by decide +kernel) rfl, tb_mem (i := 1051) (by decide +kernel) rfl⟩, ⟨by decide +kernel, by decide +kernel, by decide +kernel⟩, by decide, ⟨_, rfl, rfl⟩⟩
theorem lk_L_208 : LV RX10 208 M_Ways_neededBetween 2 8 := ⟨⟨tb_mem (i := 1057) (by decide +kernel) rfl, tb_mem (i := 1058) (by decide +kernel) rfl, tb_mem (i := 1059) (by decide +kernel) rfl, tb_mem (i := 139) (by decide +kernel) rfl, tb_mem (i := 1060) (by decide +kernel) rfl⟩, ⟨by decide +kernel, by decide +kernel, by decide +kernel⟩, by decide, ⟨_, rfl, rfl⟩⟩
theorem kc_L_211 : Cond.constantLong RX10 211 (Int64.ofInt (-2)) ∈ TB := tb_mem (i := 1066) (by decide +kernel) rfl
theorem lk_L_213 : LV RX10 213 M_Words_isUsed 1 9 := ⟨⟨tb_mem (i := 1071) (by decide +kernel) rfl, tb_mem (i := 931) (by decide +kernel) rfl, tb_mem (i := 932) (by decide +kernel) rfl, tb_mem (i := 135) (by decide +kernel) rfl, tb_mem (i := 933) (by decide +kernel) rfl⟩, ⟨by decide +kernel, by decide +kernel, by decide +kernel⟩, by decide, ⟨_, rfl, rfl⟩⟩
theorem fl_L_216 : FL RX10 216 8 4 := ⟨cl_8, ⟨_, rfl, by decide, tb_mem (i := 368) (by decide +kernel) rfl⟩⟩
theorem fl_L_220 : FL RX10 220 8 8 := ⟨cl_8, ⟨_, rfl, by decide, tb_mem (i := 374) (by decide +kernel) rfl⟩⟩
theorem fl_L_223 : FL RX10 223 8 9 := ⟨cl_8, ⟨_, rfl, by decide, tb_mem (i := 376) (by decide +kernel) rfl⟩⟩
theorem fl_L_226 : FL RX10 226 8 11 := ⟨cl_8, ⟨_, rfl, by decide, tb_mem (i := 380) (by decide +kernel) rfl⟩⟩
theorem fl_L_229 : FL RX10 229 8 10 := ⟨cl_8, ⟨_, rfl, by decide, tb_mem (i := 378) (by decide +kernel) rfl⟩⟩
theorem fl_L_232 : FL RX10 232 9 8 := ⟨cl_9, ⟨_, rfl, by decide, tb_mem (i := 217) (by decide +kernel) rfl⟩⟩
theorem lk_L_236 : LV RX10 236 M_Ways_refreshBusiest 0 8 := ⟨⟨tb_mem (i := 1084) (by decide +kernel) rfl, tb_mem (i := 1085) (by decide +kernel) rfl, tb_mem (i := 1086) (by decide +kernel) rfl, tb_mem (i := 139) (by decide +kernel) rfl, tb_mem (i := 1087) (by decide +kernel) rfl⟩, ⟨by decide +kernel, by decide +kernel, by decide +kernel⟩, by decide, ⟨_, rfl, rfl⟩⟩
theorem fl_L_239 : FL RX10 239 8 12 := ⟨cl_8, ⟨_, rfl, by decide, tb_mem (i := 381) (by decide +kernel) rfl⟩⟩
theorem fl_L_242 : FL RX10 242 8 13 := ⟨cl_8, ⟨_, rfl, by decide, tb_mem (i := 383) (by decide +kernel) rfl⟩⟩
theorem lk_L_245 : LV RX10 245 M_NewWords_refresh 0 2 := ⟨⟨tb_mem (i := 1096) (by decide +kernel) rfl, tb_mem (i := 1097) (by decide +kernel) rfl, tb_mem (i := 1098) (by decide +kernel) rfl, tb_mem (i := 140) (by decide +kernel) rfl, tb_mem (i := 1099) (by decide +kernel) rfl⟩, ⟨by decide +kernel, by decide +kernel, by decide +kernel⟩, by decide, ⟨_, rfl, rfl⟩⟩
theorem lk_L_246 : LV RX10 246 M_NewWords_letterAt 1 2 := ⟨⟨tb_mem (i := 1153) (by decide +kernel) rfl, tb_mem (i := 1154) (by decide +kernel) rfl, tb_mem (i := 1155) (by decide +kernel) rfl, tb_mem (i := 140) (by decide +kernel) rfl, tb_mem (i := 1156) (by decide +kernel) rfl⟩, ⟨by decide +kernel, by decide +kernel, by decide +kernel⟩, by decide, ⟨_, rfl, rfl⟩⟩
theorem fl_L_250 : FL RX10 250 2 8 := ⟨cl_2, ⟨_, rfl, by decide, tb_mem (i := 439) (by decide +kernel) rfl⟩⟩
theorem fl_L_253 : FL RX10 253 2 9 := ⟨cl_2, ⟨_, rfl, by decide, tb_mem (i := 441) (by decide +kernel) rfl⟩⟩
theorem fl_L_256 : FL RX10 256 2 10 := ⟨cl_2, ⟨_, rfl, by decide, tb_mem (i := 443) (by decide +kernel) rfl⟩⟩
theorem lk_L_259 : LSt RX10 259 M_Words_lengthOfKey 1 := ⟨⟨tb_mem (i := 1159) (by decide +kernel) rfl, tb_mem (i := 670) (by decide +kernel) rfl, tb_mem (i := 135) (by decide +kernel) rfl, tb_mem (i := 671) (by decide +kernel) rfl⟩, ⟨by decide +kernel, by decide +kernel, by decide +kernel⟩, by decide⟩
theorem lk_L_263 : LV RX10 263 M_Ways_countWalks 3 8 := ⟨⟨tb_mem (i := 1164) (by decide +kernel) rfl, tb_mem (i := 1165) (by decide +kernel) rfl, tb_mem (i := 1166) (by decide +kernel) rfl, tb_mem (i := 139) (by decide +kernel) rfl, tb_mem (i := 1167) (by decide +kernel) rfl⟩, ⟨by decide +kernel, by decide +kernel, by decide +kernel⟩, by decide, ⟨_, rfl, rfl⟩⟩
theorem lk_L_267 : LV RX10 267 M_Told_readWords 1 7 := ⟨⟨tb_mem (i := 1177) (by decide +kernel) rfl, tb_mem (i := 1178) (by decide +kernel) rfl, tb_mem (i := 1179) (by decide +kernel) rfl, tb_mem (i := 142) (by decide +kernel) rfl, tb_mem (i := 1180) (by decide +kernel) rfl⟩, ⟨by decide +kernel, by decide +kernel, by decide +kernel⟩, by decide, ⟨_, rfl, rfl⟩⟩
theorem lk_L_270 : LV RX10 270 M_Told_areUsed 0 7 := ⟨⟨tb_mem (i := 1183) (by decide +kernel) rfl, tb_mem (i := 1184) (by decide +kernel) rfl, tb_mem (i := 1185) (by decide +kernel) rfl, tb_mem (i := 142) (by decide +kernel) rfl, tb_mem (i := 1186) (by decide +kernel) rfl⟩, ⟨by decide +kernel, by decide +kernel, by decide +kernel⟩, by decide, ⟨_, rfl, rfl⟩⟩
theorem lk_L_273 : LV RX10 273 M_Told_findRow 0 7 := ⟨⟨tb_mem (i := 1188) (by decide +kernel) rfl, tb_mem (i := 1189) (by decide +kernel) rfl, tb_mem (i := 1190) (by decide +kernel) rfl, tb_mem (i := 142) (by decide +kernel) rfl, tb_mem (i := 1191) (by decide +kernel) rfl⟩, ⟨by decide +kernel, by decide +kernel, by decide +kernel⟩, by decide, ⟨_, rfl, rfl⟩⟩
theorem fl_L_276 : FL RX10 276 7 11 := ⟨cl_7, ⟨_, rfl, by decide, tb_mem (i := 519) (by decide +kernel) rfl⟩⟩
theorem lk_L_279 : LV RX10 279 M_Told_rowWordAt 1 7 := ⟨⟨tb_mem (i := 1203) (by decide +kernel) rfl, tb_mem (i := 1204) (by decide +kernel) rfl, tb_mem (i := 1205) (by decide +kernel) rfl, tb_mem (i := 142) (by decide +kernel) rfl, tb_mem (i := 1206) (by decide +kernel) rfl⟩, ⟨by decide +kernel, by decide +kernel, by decide +kernel⟩, by decide, ⟨_, rfl, rfl⟩⟩
theorem lk_L_282 : LV RX10 282 M_Told_winningWord 0 7 := ⟨⟨tb_mem (i := 1215) (by decide +kernel) rfl, tb_mem (i := 1216) (by decide +kernel) rfl, tb_mem (i := 1217) (by decide +kernel) rfl, tb_mem (i := 142) (by decide +kernel) rfl, tb_mem (i := 1218) (by decide +kernel) rfl⟩, ⟨by decide +kernel, by decide +kernel, by decide +kernel⟩, by decide, ⟨_, rfl, rfl⟩⟩
theorem lk_L_286 : LV RX10 286 M_Spelling_apart 2 3 := ⟨⟨tb_mem (i := 1236) (by decide +kernel) rfl, tb_mem (i := 1237) (by decide +kernel) rfl, tb_mem (i := 1238) (by decide +kernel) rfl, tb_mem (i := 141) (by decide +kernel) rfl, tb_mem (i := 1239) (by decide +kernel) rfl⟩, ⟨by decide +kernel, by decide +kernel, by decide +kernel⟩, by decide, ⟨_, rfl, rfl⟩⟩
theorem lk_L_289 : LV RX10 289 M_Spelling_findNearest 1 3 := ⟨⟨tb_mem (i := 1249) (by decide +kernel) rfl, tb_mem (i := 1250) (by decide +kernel) rfl, tb_mem (i := 1251) (by decide +kernel) rfl, tb_mem (i := 141) (by decide +kernel) rfl, tb_mem (i := 1252) (by decide +kernel) rfl⟩, ⟨by decide +kernel, by decide +kernel, by decide +kernel⟩, by decide, ⟨_, rfl, rfl⟩⟩
theorem fl_L_292 : FL RX10 292 3 4 := ⟨cl_3, ⟨_, rfl, by decide, tb_mem (i := 481) (by decide +kernel) rfl⟩⟩
theorem fl_L_295 : FL RX10 295 3 5 := ⟨cl_3, ⟨_, rfl, by decide, tb_mem (i := 483) (by decide +kernel) rfl⟩⟩
theorem fl_L_298 : FL RX10 298 3 6 := ⟨cl_3, ⟨_, rfl, by decide, tb_mem (i := 485) (by decide +kernel) rfl⟩⟩
theorem lk_L_301 : LV RX10 301 M_Told_mostApart 1 7 := ⟨⟨tb_mem (i := 1259) (by decide +kernel) rfl, tb_mem (i := 1260) (by decide +kernel) rfl, tb_mem (i := 1261) (by decide +kernel) rfl, tb_mem (i := 142) (by decide +kernel) rfl, tb_mem (i := 1262) (by decide +kernel) rfl⟩, ⟨by decide +kernel, by decide +kernel, by decide +kernel⟩, by decide, ⟨_, rfl, rfl⟩⟩
theorem lk_L_304 : LSt RX10 304 M_JInteger_bitCount 1 := ⟨⟨tb_mem (i := 1274) (by decide +kernel) rfl, tb_mem (i := 1269) (by decide +kernel) rfl, tb_mem (i := 153) (by decide +kernel) rfl, tb_mem (i := 1270) (by decide +kernel) rfl⟩, ⟨by decide +kernel, by decide +kernel, by decide +kernel⟩, by decide⟩
theorem lk_L_309 : LV RX10 309 M_Tape_isRubbedText 0 6 := ⟨⟨tb_mem (i := 1279) (by decide +kernel) rfl, tb_mem (i := 1280) (by decide +kernel) rfl, tb_mem (i := 1281) (by decide +kernel) rfl, tb_mem (i := 134) (by decide +kernel) rfl, tb_mem (i := 1282) (by decide +kernel) rfl⟩, ⟨by decide +kernel, by decide +kernel, by decide +kernel⟩, by decide, ⟨_, rfl, rfl⟩⟩
theorem lk_L_312 : LV RX10 312 M_Spelling_fitting 1 3 := ⟨⟨tb_mem (i := 1283) (by decide +kernel) rfl, tb_mem (i := 1284) (by decide +kernel) rfl, tb_mem (i := 1285) (by decide +kernel) rfl, tb_mem (i := 141) (by decide +kernel) rfl, tb_mem (i := 1286) (by decide +kernel) rfl⟩, ⟨by decide +kernel, by decide +kernel, by decide +kernel⟩, by decide, ⟨_, rfl, rfl⟩⟩
theorem lk_L_316 : LV RX10 316 M_Squares_refresh 1 4 := ⟨⟨tb_mem (i := 1296) (by decide +kernel) rfl, tb_mem (i := 1297) (by decide +kernel) rfl, tb_mem (i := 1298) (by decide +kernel) rfl, tb_mem (i := 143) (by decide +kernel) rfl, tb_mem (i := 1299) (by decide +kernel) rfl⟩, ⟨by decide +kernel, by decide +kernel, by decide +kernel⟩, by decide, ⟨_, rfl, rfl⟩⟩
theorem fl_L_318 : FL RX10 318 4 7 := ⟨cl_4, ⟨_, rfl, by decide, tb_mem (i := 560) (by decide +kernel) rfl⟩⟩
theorem fl_L_321 : FL RX10 321 4 4 := ⟨cl_4, ⟨_, rfl, by decide, tb_mem (i := 556) (by decide +kernel) rfl⟩⟩
theorem kc_L_324 : Cond.constant RX10 324 (Int32.ofInt (65535)) ∈ TB := tb_mem (i := 1329) (by decide +kernel) rfl
theorem lk_L_325 : LV RX10 325 M_Steps_goneTo 2 5 := ⟨⟨tb_mem (i := 1334) (by decide +kernel) rfl, tb_mem (i := 1335) (by decide +kernel) rfl, tb_mem (i := 1336) (by decide +kernel) rfl, tb_mem (i := 138) (by decide +kernel) rfl, tb_mem (i := 1337) (by decide +kernel) rfl⟩, ⟨by decide +kernel, by decide +kernel, by decide +kernel⟩, by decide, ⟨_, rfl, rfl⟩⟩
theorem lk_L_328 : LSt RX10 328 M_JLong_bitCount 1 := ⟨⟨tb_mem (i := 1340) (by decide +kernel) rfl, tb_mem (i := 1139) (by decide +kernel) rfl, tb_mem (i := 152) (by decide +kernel) rfl, tb_mem (i := 1140) (by decide +kernel) rfl⟩, ⟨by decide +kernel, by decide +kernel, by decide +kernel⟩, by decide⟩
theorem lk_L_332 : LV RX10 332 M_Words_takeLast 0 9 := ⟨⟨tb_mem (i := 1345) (by decide +kernel) rfl, tb_mem (i := 1346) (by decide +kernel) rfl, tb_mem (i := 1347) (by decide +kernel) rfl, tb_mem (i := 135) (by decide +kernel) rfl, tb_mem (i := 1348) (by decide +kernel) rfl⟩, ⟨by decide +kernel, by decide +kernel, by decide +kernel⟩, by decide, ⟨_, rfl, rfl⟩⟩
theorem fl_L_335 : FL RX10 335 9 1 := ⟨cl_9, ⟨_, rfl, by decide, tb_mem (i := 199) (by decide +kernel) rfl⟩⟩
theorem lk_L_338 : LV RX10 338 M_Tape_numberAt 1 6 := ⟨⟨tb_mem (i := 1353) (by decide +kernel) rfl, tb_mem (i := 1354) (by decide +kernel) rfl, tb_mem (i := 1355) (by decide +kernel) rfl, tb_mem (i := 134) (by decide +kernel) rfl, tb_mem (i := 1356) (by decide +kernel) rfl⟩, ⟨by decide +kernel, by decide +kernel, by decide +kernel⟩, by decide, ⟨_, rfl, rfl⟩⟩
theorem fl_L_341 : FL RX10 341 9 0 := ⟨cl_9, ⟨_, rfl, by decide, tb_mem (i := 193) (by decide +kernel) rfl⟩⟩
theorem lk_L_345 : LSt RX10 345 M_JMath_min 2 := ⟨⟨tb_mem (i := 1357) (by decide +kernel) rfl, tb_mem (i := 707) (by decide +kernel) rfl, tb_mem (i := 145) (by decide +kernel) rfl, tb_mem (i := 708) (by decide +kernel) rfl⟩, ⟨by decide +kernel, by decide +kernel, by decide +kernel⟩, by decide⟩
theorem fl_L_350 : FL RX10 350 9 7 := ⟨cl_9, ⟨_, rfl, by decide, tb_mem (i := 215) (by decide +kernel) rfl⟩⟩
theorem lk_L_353 : LV RX10 353 M_L_countOfWord 1 10 := ⟨⟨tb_mem (i := 1362) (by decide +kernel) rfl, tb_mem (i := 1364) (by decide +kernel) rfl, tb_mem (i := 61) (by decide +kernel) rfl, tb_mem (i := 133) (by decide +kernel) rfl, tb_mem (i := 1365) (by decide +kernel) rfl⟩, ⟨by decide +kernel, by decide +kernel, by decide +kernel⟩, by decide, ⟨_, rfl, rfl⟩⟩
theorem fl_L_356 : FL RX10 356 9 3 := ⟨cl_9, ⟨_, rfl, by decide, tb_mem (i := 204) (by decide +kernel) rfl⟩⟩
theorem fl_LawCode_11 : FL RX0 11 0 0 := ⟨cl_0, ⟨_, rfl, by decide, tb_mem (i := 250) (by decide +kernel) rfl⟩⟩
theorem fl_LawCode_15 : FL RX0 15 0 1 := ⟨cl_0, ⟨_, rfl, by decide, tb_mem (i := 251) (by decide +kernel) rfl⟩⟩
theorem fl_LawCode_18 : FL RX0 18 0 2 := ⟨cl_0, ⟨_, rfl, by decide, tb_mem (i := 252) (by decide +kernel) rfl⟩⟩
theorem fl_LawCode_21 : FL RX0 21 0 3 := ⟨cl_0, ⟨_, rfl, by decide, tb_mem (i := 253) (by decide +kernel) rfl⟩⟩
theorem fl_LawCode_24 : FL RX0 24 0 4 := ⟨cl_0, ⟨_, rfl, by decide, tb_mem (i := 255) (by decide +kernel) rfl⟩⟩
theorem fl_LawCode_27 : FL RX0 27 0 5 := ⟨cl_0, ⟨_, rfl, by decide, tb_mem (i := 256) (by decide +kernel) rfl⟩⟩
theorem fp_LawCode_27 : FP RX0 27 0 5 .int := ⟨fl_LawCode_27, ⟨_, rfl, rfl, tyX0_ok 5 (by decide)⟩⟩
theorem fl_LawCode_31 : FL RX0 31 0 6 := ⟨cl_0, ⟨_, rfl, by decide, tb_mem (i := 258) (by decide +kernel) rfl⟩⟩
theorem fp_LawCode_31 : FP RX0 31 0 6 .int := ⟨fl_LawCode_31, ⟨_, rfl, rfl, tyX0_ok 6 (by decide)⟩⟩
theorem fl_LawCode_40 : FL RX0 40 0 7 := ⟨cl_0, ⟨_, rfl, by decide, tb_mem (i := 260) (by decide +kernel) rfl⟩⟩
theorem fp_LawCode_40 : FP RX0 40 0 7 .int := ⟨fl_LawCode_40, ⟨_, rfl, rfl, tyX0_ok 7 (by decide)⟩⟩
theorem lk_LawCode_43 : LV RX0 43 M_LawCode_runsThrough 1 0 := ⟨⟨tb_mem (i := 951) (by decide +kernel) rfl, tb_mem (i := 953) (by decide +kernel) rfl, tb_mem (i := 25) (by decide +kernel) rfl, tb_mem (i := 136) (by decide +kernel) rfl, tb_mem (i := 954) (by decide +kernel) rfl⟩, ⟨by decide +kernel, by decide +kernel, by decide +kernel⟩, by decide, ⟨_, rfl, rfl⟩⟩
theorem fl_LawCode_47 : FL RX0 47 0 9 := ⟨cl_0, ⟨_, rfl, by decide, tb_mem (i := 263) (by decide +kernel) rfl⟩⟩
theorem fp_LawCode_47 : FP RX0 47 0 9 .boolean := ⟨fl_LawCode_47, ⟨_, rfl, rfl, tyX0_ok 9 (by decide)⟩⟩
theorem fl_LawCode_51 : FL RX0 51 0 8 := ⟨cl_0, ⟨_, rfl, by decide, tb_mem (i := 262) (by decide +kernel) rfl⟩⟩
theorem fp_LawCode_51 : FP RX0 51 0 8 .int := ⟨fl_LawCode_51, ⟨_, rfl, rfl, tyX0_ok 8 (by decide)⟩⟩
theorem lk_LawCode_54 : LSt RX0 54 M_JMath_min 2 := ⟨⟨tb_mem (i := 963) (by decide +kernel) rfl, tb_mem (i := 707) (by decide +kernel) rfl, tb_mem (i := 145) (by decide +kernel) rfl, tb_mem (i := 708) (by decide +kernel) rfl⟩, ⟨by decide +kernel, by decide +kernel, by decide +kernel⟩, by decide⟩
theorem lk_LawCode_60 : LSt RX0 60 M_JMath_max 2 := ⟨⟨tb_mem (i := 964) (by decide +kernel) rfl, tb_mem (i := 823) (by decide +kernel) rfl, tb_mem (i := 145) (by decide +kernel) rfl, tb_mem (i := 824) (by decide +kernel) rfl⟩, ⟨by decide +kernel, by decide +kernel, by decide +kernel⟩, by decide⟩
theorem lk_LawCode_63 : LV RX0 63 M_LawCode_reckons 2 0 := ⟨⟨tb_mem (i := 955) (by decide +kernel) rfl, tb_mem (i := 957) (by decide +kernel) rfl, tb_mem (i := 26) (by decide +kernel) rfl, tb_mem (i := 136) (by decide +kernel) rfl, tb_mem (i := 958) (by decide +kernel) rfl⟩, ⟨by decide +kernel, by decide +kernel, by decide +kernel⟩, by decide, ⟨_, rfl, rfl⟩⟩
theorem lk_LawCode_67 : LV RX0 67 M_LawCode_joinsTwo 1 0 := ⟨⟨tb_mem (i := 959) (by decide +kernel) rfl, tb_mem (i := 961) (by decide +kernel) rfl, tb_mem (i := 27) (by decide +kernel) rfl, tb_mem (i := 136) (by decide +kernel) rfl, tb_mem (i := 962) (by decide +kernel) rfl⟩, ⟨by decide +kernel, by decide +kernel, by decide +kernel⟩, by decide, ⟨_, rfl, rfl⟩⟩
theorem fl_Reader_12 : FL RX1 12 1 1 := ⟨cl_1, ⟨_, rfl, by decide, tb_mem (i := 294) (by decide +kernel) rfl⟩⟩
theorem fl_Reader_18 : FL RX1 18 1 0 := ⟨cl_1, ⟨_, rfl, by decide, tb_mem (i := 293) (by decide +kernel) rfl⟩⟩
theorem fl_Reader_22 : FL RX1 22 1 2 := ⟨cl_1, ⟨_, rfl, by decide, tb_mem (i := 296) (by decide +kernel) rfl⟩⟩
theorem fp_Reader_22 : FP RX1 22 1 2 .int := ⟨fl_Reader_22, ⟨_, rfl, rfl, tyX1_ok 2 (by decide)⟩⟩
theorem fl_Reader_26 : FL RX1 26 1 3 := ⟨cl_1, ⟨_, rfl, by decide, tb_mem (i := 297) (by decide +kernel) rfl⟩⟩
theorem fp_Reader_26 : FP RX1 26 1 3 .int := ⟨fl_Reader_26, ⟨_, rfl, rfl, tyX1_ok 3 (by decide)⟩⟩
theorem fl_Reader_29 : FL RX1 29 1 4 := ⟨cl_1, ⟨_, rfl, by decide, tb_mem (i := 299) (by decide +kernel) rfl⟩⟩
theorem fp_Reader_29 : FP RX1 29 1 4 .int := ⟨fl_Reader_29, ⟨_, rfl, rfl, tyX1_ok 4 (by decide)⟩⟩
theorem lk_Reader_32 : LV RX1 32 M_LawCode_restart 0 0 := ⟨⟨tb_mem (i := 745) (by decide +kernel) rfl, tb_mem (i := 746) (by decide +kernel) rfl, tb_mem (i := 747) (by decide +kernel) rfl, tb_mem (i := 136) (by decide +kernel) rfl, tb_mem (i := 748) (by decide +kernel) rfl⟩, ⟨by decide +kernel, by decide +kernel, by decide +kernel⟩, by decide, ⟨_, rfl, rfl⟩⟩
theorem lk_Reader_35 : LV RX1 35 M_Reader_next 0 1 := ⟨⟨tb_mem (i := 749) (by decide +kernel) rfl, tb_mem (i := 751) (by decide +kernel) rfl, tb_mem (i := 6) (by decide +kernel) rfl, tb_mem (i := 137) (by decide +kernel) rfl, tb_mem (i := 752) (by decide +kernel) rfl⟩, ⟨by decide +kernel, by decide +kernel, by decide +kernel⟩, by decide, ⟨_, rfl, rfl⟩⟩
theorem lk_Reader_39 : LV RX1 39 M_Reader_fails 1 1 := ⟨⟨tb_mem (i := 754) (by decide +kernel) rfl, tb_mem (i := 756) (by decide +kernel) rfl, tb_mem (i := 7) (by decide +kernel) rfl, tb_mem (i := 137) (by decide +kernel) rfl, tb_mem (i := 757) (by decide +kernel) rfl⟩, ⟨by decide +kernel, by decide +kernel, by decide +kernel⟩, by decide, ⟨_, rfl, rfl⟩⟩
theorem lk_Reader_43 : LV RX1 43 M_Reader_readClause 1 1 := ⟨⟨tb_mem (i := 758) (by decide +kernel) rfl, tb_mem (i := 760) (by decide +kernel) rfl, tb_mem (i := 8) (by decide +kernel) rfl, tb_mem (i := 137) (by decide +kernel) rfl, tb_mem (i := 761) (by decide +kernel) rfl⟩, ⟨by decide +kernel, by decide +kernel, by decide +kernel⟩, by decide, ⟨_, rfl, rfl⟩⟩
theorem lk_Reader_47 : LV RX1 47 M_Reader_passes 1 1 := ⟨⟨tb_mem (i := 778) (by decide +kernel) rfl, tb_mem (i := 780) (by decide +kernel) rfl, tb_mem (i := 13) (by decide +kernel) rfl, tb_mem (i := 137) (by decide +kernel) rfl, tb_mem (i := 781) (by decide +kernel) rfl⟩, ⟨by decide +kernel, by decide +kernel, by decide +kernel⟩, by decide, ⟨_, rfl, rfl⟩⟩
theorem fl_Reader_50 : FL RX1 50 0 5 := ⟨cl_0, ⟨_, rfl, by decide, tb_mem (i := 257) (by decide +kernel) rfl⟩⟩
theorem lk_Reader_53 : LV RX1 53 M_Reader_readSum 1 1 := ⟨⟨tb_mem (i := 762) (by decide +kernel) rfl, tb_mem (i := 764) (by decide +kernel) rfl, tb_mem (i := 9) (by decide +kernel) rfl, tb_mem (i := 137) (by decide +kernel) rfl, tb_mem (i := 765) (by decide +kernel) rfl⟩, ⟨by decide +kernel, by decide +kernel, by decide +kernel⟩, by decide, ⟨_, rfl, rfl⟩⟩
theorem lk_Reader_56 : LV RX1 56 M_LawCode_put 2 0 := ⟨⟨tb_mem (i := 789) (by decide +kernel) rfl, tb_mem (i := 790) (by decide +kernel) rfl, tb_mem (i := 791) (by decide +kernel) rfl, tb_mem (i := 136) (by decide +kernel) rfl, tb_mem (i := 792) (by decide +kernel) rfl⟩, ⟨by decide +kernel, by decide +kernel, by decide +kernel⟩, by decide, ⟨_, rfl, rfl⟩⟩
theorem lk_Reader_60 : LV RX1 60 M_Reader_readBrackets 1 1 := ⟨⟨tb_mem (i := 878) (by decide +kernel) rfl, tb_mem (i := 880) (by decide +kernel) rfl, tb_mem (i := 15) (by decide +kernel) rfl, tb_mem (i := 137) (by decide +kernel) rfl, tb_mem (i := 881) (by decide +kernel) rfl⟩, ⟨by decide +kernel, by decide +kernel, by decide +kernel⟩, by decide, ⟨_, rfl, rfl⟩⟩
theorem lk_Reader_63 : LV RX1 63 M_LawCode_addClause 2 0 := ⟨⟨tb_mem (i := 906) (by decide +kernel) rfl, tb_mem (i := 907) (by decide +kernel) rfl, tb_mem (i := 908) (by decide +kernel) rfl, tb_mem (i := 136) (by decide +kernel) rfl, tb_mem (i := 909) (by decide +kernel) rfl⟩, ⟨by decide +kernel, by decide +kernel, by decide +kernel⟩, by decide, ⟨_, rfl, rfl⟩⟩
theorem lk_Reader_67 : LV RX1 67 M_Reader_opens 1 1 := ⟨⟨tb_mem (i := 774) (by decide +kernel) rfl, tb_mem (i := 776) (by decide +kernel) rfl, tb_mem (i := 12) (by decide +kernel) rfl, tb_mem (i := 137) (by decide +kernel) rfl, tb_mem (i := 777) (by decide +kernel) rfl⟩, ⟨by decide +kernel, by decide +kernel, by decide +kernel⟩, by decide, ⟨_, rfl, rfl⟩⟩
theorem lk_Reader_70 : LV RX1 70 M_Reader_readParts 1 1 := ⟨⟨tb_mem (i := 882) (by decide +kernel) rfl, tb_mem (i := 884) (by decide +kernel) rfl, tb_mem (i := 16) (by decide +kernel) rfl, tb_mem (i := 137) (by decide +kernel) rfl, tb_mem (i := 885) (by decide +kernel) rfl⟩, ⟨by decide +kernel, by decide +kernel, by decide +kernel⟩, by decide, ⟨_, rfl, rfl⟩⟩
theorem lk_Reader_73 : LV RX1 73 M_Reader_readPieces 1 1 := ⟨⟨tb_mem (i := 886) (by decide +kernel) rfl, tb_mem (i := 888) (by decide +kernel) rfl, tb_mem (i := 17) (by decide +kernel) rfl, tb_mem (i := 137) (by decide +kernel) rfl, tb_mem (i := 889) (by decide +kernel) rfl⟩, ⟨by decide +kernel, by decide +kernel, by decide +kernel⟩, by decide, ⟨_, rfl, rfl⟩⟩
theorem lk_Reader_76 : LV RX1 76 M_LawCode_landHere 1 0 := ⟨⟨tb_mem (i := 902) (by decide +kernel) rfl, tb_mem (i := 903) (by decide +kernel) rfl, tb_mem (i := 904) (by decide +kernel) rfl, tb_mem (i := 136) (by decide +kernel) rfl, tb_mem (i := 905) (by decide +kernel) rfl⟩, ⟨by decide +kernel, by decide +kernel, by decide +kernel⟩, by decide, ⟨_, rfl, rfl⟩⟩
theorem lk_Reader_80 : LV RX1 80 M_Reader_readPiece 1 1 := ⟨⟨tb_mem (i := 890) (by decide +kernel) rfl, tb_mem (i := 892) (by decide +kernel) rfl, tb_mem (i := 18) (by decide +kernel) rfl, tb_mem (i := 137) (by decide +kernel) rfl, tb_mem (i := 893) (by decide +kernel) rfl⟩, ⟨by decide +kernel, by decide +kernel, by decide +kernel⟩, by decide, ⟨_, rfl, rfl⟩⟩
theorem lk_Reader_83 : LV RX1 83 M_Reader_readDenied 1 1 := ⟨⟨tb_mem (i := 894) (by decide +kernel) rfl, tb_mem (i := 896) (by decide +kernel) rfl, tb_mem (i := 19) (by decide +kernel) rfl, tb_mem (i := 137) (by decide +kernel) rfl, tb_mem (i := 897) (by decide +kernel) rfl⟩, ⟨by decide +kernel, by decide +kernel, by decide +kernel⟩, by decide, ⟨_, rfl, rfl⟩⟩
theorem lk_Reader_86 : LV RX1 86 M_Reader_readCompared 1 1 := ⟨⟨tb_mem (i := 898) (by decide +kernel) rfl, tb_mem (i := 900) (by decide +kernel) rfl, tb_mem (i := 20) (by decide +kernel) rfl, tb_mem (i := 137) (by decide +kernel) rfl, tb_mem (i := 901) (by decide +kernel) rfl⟩, ⟨by decide +kernel, by decide +kernel, by decide +kernel⟩, by decide, ⟨_, rfl, rfl⟩⟩
theorem lk_Reader_89 : LV RX1 89 M_Reader_readProduct 1 1 := ⟨⟨tb_mem (i := 766) (by decide +kernel) rfl, tb_mem (i := 768) (by decide +kernel) rfl, tb_mem (i := 10) (by decide +kernel) rfl, tb_mem (i := 137) (by decide +kernel) rfl, tb_mem (i := 769) (by decide +kernel) rfl⟩, ⟨by decide +kernel, by decide +kernel, by decide +kernel⟩, by decide, ⟨_, rfl, rfl⟩⟩
theorem lk_Reader_92 : LV RX1 92 M_Reader_readFactor 1 1 := ⟨⟨tb_mem (i := 770) (by decide +kernel) rfl, tb_mem (i := 772) (by decide +kernel) rfl, tb_mem (i := 11) (by decide +kernel) rfl, tb_mem (i := 137) (by decide +kernel) rfl, tb_mem (i := 773) (by decide +kernel) rfl⟩, ⟨by decide +kernel, by decide +kernel, by decide +kernel⟩, by decide, ⟨_, rfl, rfl⟩⟩
theorem lk_Reader_95 : LSt RX1 95 M_Reader_isDigit 1 := ⟨⟨tb_mem (i := 782) (by decide +kernel) rfl, tb_mem (i := 783) (by decide +kernel) rfl, tb_mem (i := 137) (by decide +kernel) rfl, tb_mem (i := 784) (by decide +kernel) rfl⟩, ⟨by decide +kernel, by decide +kernel, by decide +kernel⟩, by decide⟩
theorem lk_Reader_98 : LV RX1 98 M_Reader_readNumber 0 1 := ⟨⟨tb_mem (i := 785) (by decide +kernel) rfl, tb_mem (i := 787) (by decide +kernel) rfl, tb_mem (i := 14) (by decide +kernel) rfl, tb_mem (i := 137) (by decide +kernel) rfl, tb_mem (i := 788) (by decide +kernel) rfl⟩, ⟨by decide +kernel, by decide +kernel, by decide +kernel⟩, by decide, ⟨_, rfl, rfl⟩⟩
theorem lk_Reader_110 : LV RX1 110 M_Tape_byteAt 1 6 := ⟨⟨tb_mem (i := 753) (by decide +kernel) rfl, tb_mem (i := 647) (by decide +kernel) rfl, tb_mem (i := 648) (by decide +kernel) rfl, tb_mem (i := 134) (by decide +kernel) rfl, tb_mem (i := 649) (by decide +kernel) rfl⟩, ⟨by decide +kernel, by decide +kernel, by decide +kernel⟩, by decide, ⟨_, rfl, rfl⟩⟩
theorem kc_NewWords_11 : Cond.constant RX2 11 (Int32.ofInt (32768)) ∈ TB := tb_mem (i := 429) (by decide +kernel) rfl
theorem fl_NewWords_12 : FL RX2 12 2 3 := ⟨cl_2, ⟨_, rfl, by decide, tb_mem (i := 433) (by decide +kernel) rfl⟩⟩
theorem fl_NewWords_16 : FL RX2 16 2 4 := ⟨cl_2, ⟨_, rfl, by decide, tb_mem (i := 434) (by decide +kernel) rfl⟩⟩
theorem fl_NewWords_19 : FL RX2 19 2 5 := ⟨cl_2, ⟨_, rfl, by decide, tb_mem (i := 435) (by decide +kernel) rfl⟩⟩
theorem fl_NewWords_23 : FL RX2 23 2 6 := ⟨cl_2, ⟨_, rfl, by decide, tb_mem (i := 436) (by decide +kernel) rfl⟩⟩
theorem fl_NewWords_26 : FL RX2 26 2 11 := ⟨cl_2, ⟨_, rfl, by decide, tb_mem (i := 444) (by decide +kernel) rfl⟩⟩
theorem fp_NewWords_26 : FP RX2 26 2 11 .int := ⟨fl_NewWords_26, ⟨_, rfl, rfl, tyX2_ok 11 (by decide)⟩⟩
theorem fl_NewWords_30 : FL RX2 30 2 0 := ⟨cl_2, ⟨_, rfl, by decide, tb_mem (i := 430) (by decide +kernel) rfl⟩⟩
theorem fl_NewWords_34 : FL RX2 34 2 1 := ⟨cl_2, ⟨_, rfl, by decide, tb_mem (i := 431) (by decide +kernel) rfl⟩⟩
theorem fl_NewWords_38 : FL RX2 38 2 2 := ⟨cl_2, ⟨_, rfl, by decide, tb_mem (i := 432) (by decide +kernel) rfl⟩⟩
theorem fl_NewWords_42 : FL RX2 42 5 10 := ⟨cl_5, ⟨_, rfl, by decide, tb_mem (i := 331) (by decide +kernel) rfl⟩⟩
theorem lk_NewWords_45 : LV RX2 45 M_NewWords_emptyRows 0 2 := ⟨⟨tb_mem (i := 1100) (by decide +kernel) rfl, tb_mem (i := 1102) (by decide +kernel) rfl, tb_mem (i := 36) (by decide +kernel) rfl, tb_mem (i := 140) (by decide +kernel) rfl, tb_mem (i := 1103) (by decide +kernel) rfl⟩, ⟨by decide +kernel, by decide +kernel, by decide +kernel⟩, by decide, ⟨_, rfl, rfl⟩⟩
theorem fl_NewWords_48 : FL RX2 48 9 6 := ⟨cl_9, ⟨_, rfl, by decide, tb_mem (i := 209) (by decide +kernel) rfl⟩⟩
theorem lk_NewWords_53 : LV RX2 53 M_Words_isUsed 1 9 := ⟨⟨tb_mem (i := 1104) (by decide +kernel) rfl, tb_mem (i := 931) (by decide +kernel) rfl, tb_mem (i := 932) (by decide +kernel) rfl, tb_mem (i := 135) (by decide +kernel) rfl, tb_mem (i := 933) (by decide +kernel) rfl⟩, ⟨by decide +kernel, by decide +kernel, by decide +kernel⟩, by decide, ⟨_, rfl, rfl⟩⟩
theorem lk_NewWords_57 : LV RX2 57 M_NewWords_joinOtherLetters 1 2 := ⟨⟨tb_mem (i := 1105) (by decide +kernel) rfl, tb_mem (i := 1107) (by decide +kernel) rfl, tb_mem (i := 37) (by decide +kernel) rfl, tb_mem (i := 140) (by decide +kernel) rfl, tb_mem (i := 1108) (by decide +kernel) rfl⟩, ⟨by decide +kernel, by decide +kernel, by decide +kernel⟩, by decide, ⟨_, rfl, rfl⟩⟩
theorem lk_NewWords_61 : LV RX2 61 M_NewWords_joinPutIn 1 2 := ⟨⟨tb_mem (i := 1120) (by decide +kernel) rfl, tb_mem (i := 1122) (by decide +kernel) rfl, tb_mem (i := 40) (by decide +kernel) rfl, tb_mem (i := 140) (by decide +kernel) rfl, tb_mem (i := 1123) (by decide +kernel) rfl⟩, ⟨by decide +kernel, by decide +kernel, by decide +kernel⟩, by decide, ⟨_, rfl, rfl⟩⟩
theorem lk_NewWords_64 : LV RX2 64 M_NewWords_joinShorterAndChangedAbout 1 2 := ⟨⟨tb_mem (i := 1130) (by decide +kernel) rfl, tb_mem (i := 1132) (by decide +kernel) rfl, tb_mem (i := 42) (by decide +kernel) rfl, tb_mem (i := 140) (by decide +kernel) rfl, tb_mem (i := 1133) (by decide +kernel) rfl⟩, ⟨by decide +kernel, by decide +kernel, by decide +kernel⟩, by decide, ⟨_, rfl, rfl⟩⟩
theorem lk_NewWords_67 : LV RX2 67 M_NewWords_findBest 0 2 := ⟨⟨tb_mem (i := 1134) (by decide +kernel) rfl, tb_mem (i := 1136) (by decide +kernel) rfl, tb_mem (i := 43) (by decide +kernel) rfl, tb_mem (i := 140) (by decide +kernel) rfl, tb_mem (i := 1137) (by decide +kernel) rfl⟩, ⟨by decide +kernel, by decide +kernel, by decide +kernel⟩, by decide, ⟨_, rfl, rfl⟩⟩
theorem fl_NewWords_70 : FL RX2 70 2 7 := ⟨cl_2, ⟨_, rfl, by decide, tb_mem (i := 437) (by decide +kernel) rfl⟩⟩
theorem fp_NewWords_70 : FP RX2 70 2 7 .int := ⟨fl_NewWords_70, ⟨_, rfl, rfl, tyX2_ok 7 (by decide)⟩⟩
theorem fl_NewWords_73 : FL RX2 73 2 10 := ⟨cl_2, ⟨_, rfl, by decide, tb_mem (i := 442) (by decide +kernel) rfl⟩⟩
theorem fp_NewWords_73 : FP RX2 73 2 10 .long := ⟨fl_NewWords_73, ⟨_, rfl, rfl, tyX2_ok 10 (by decide)⟩⟩
theorem lk_NewWords_77 : LSt RX2 77 M_Words_lengthOfKey 1 := ⟨⟨tb_mem (i := 1157) (by decide +kernel) rfl, tb_mem (i := 670) (by decide +kernel) rfl, tb_mem (i := 135) (by decide +kernel) rfl, tb_mem (i := 671) (by decide +kernel) rfl⟩, ⟨by decide +kernel, by decide +kernel, by decide +kernel⟩, by decide⟩
theorem lk_NewWords_81 : LSt RX2 81 M_Words_letterOfKey 2 := ⟨⟨tb_mem (i := 1158) (by decide +kernel) rfl, tb_mem (i := 673) (by decide +kernel) rfl, tb_mem (i := 135) (by decide +kernel) rfl, tb_mem (i := 674) (by decide +kernel) rfl⟩, ⟨by decide +kernel, by decide +kernel, by decide +kernel⟩, by decide⟩
theorem fl_NewWords_85 : FL RX2 85 9 1 := ⟨cl_9, ⟨_, rfl, by decide, tb_mem (i := 198) (by decide +kernel) rfl⟩⟩
theorem fl_NewWords_88 : FL RX2 88 9 2 := ⟨cl_9, ⟨_, rfl, by decide, tb_mem (i := 201) (by decide +kernel) rfl⟩⟩
theorem kc_NewWords_89 : Cond.constantLong RX2 89 (Int64.ofInt (31)) ∈ TB := tb_mem (i := 1109) (by decide +kernel) rfl
theorem kc_NewWords_91 : Cond.constantLong RX2 91 (Int64.ofInt (-1)) ∈ TB := tb_mem (i := 1110) (by decide +kernel) rfl
theorem lk_NewWords_93 : LV RX2 93 M_NewWords_join 2 2 := ⟨⟨tb_mem (i := 1111) (by decide +kernel) rfl, tb_mem (i := 1113) (by decide +kernel) rfl, tb_mem (i := 38) (by decide +kernel) rfl, tb_mem (i := 140) (by decide +kernel) rfl, tb_mem (i := 1114) (by decide +kernel) rfl⟩, ⟨by decide +kernel, by decide +kernel, by decide +kernel⟩, by decide, ⟨_, rfl, rfl⟩⟩
theorem lk_NewWords_97 : LV RX2 97 M_NewWords_lettersOf 1 2 := ⟨⟨tb_mem (i := 1124) (by decide +kernel) rfl, tb_mem (i := 1126) (by decide +kernel) rfl, tb_mem (i := 41) (by decide +kernel) rfl, tb_mem (i := 140) (by decide +kernel) rfl, tb_mem (i := 1127) (by decide +kernel) rfl⟩, ⟨by decide +kernel, by decide +kernel, by decide +kernel⟩, by decide, ⟨_, rfl, rfl⟩⟩
theorem lk_NewWords_101 : LSt RX2 101 M_Words_keyOf 2 := ⟨⟨tb_mem (i := 1129) (by decide +kernel) rfl, tb_mem (i := 659) (by decide +kernel) rfl, tb_mem (i := 135) (by decide +kernel) rfl, tb_mem (i := 660) (by decide +kernel) rfl⟩, ⟨by decide +kernel, by decide +kernel, by decide +kernel⟩, by decide⟩
theorem kc_NewWords_105 : Cond.constantLong RX2 105 (Int64.ofInt (1099511627775)) ∈ TB := tb_mem (i := 1128) (by decide +kernel) rfl
theorem kc_NewWords_107 : Cond.constantLong RX2 107 (Int64.ofInt (-7046029254386353131)) ∈ TB := tb_mem (i := 1115) (by decide +kernel) rfl
theorem lk_NewWords_109 : LV RX2 109 M_NewWords_addRow 3 2 := ⟨⟨tb_mem (i := 1116) (by decide +kernel) rfl, tb_mem (i := 1118) (by decide +kernel) rfl, tb_mem (i := 39) (by decide +kernel) rfl, tb_mem (i := 140) (by decide +kernel) rfl, tb_mem (i := 1119) (by decide +kernel) rfl⟩, ⟨by decide +kernel, by decide +kernel, by decide +kernel⟩, by decide, ⟨_, rfl, rfl⟩⟩
theorem fl_NewWords_113 : FL RX2 113 2 8 := ⟨cl_2, ⟨_, rfl, by decide, tb_mem (i := 438) (by decide +kernel) rfl⟩⟩
theorem fp_NewWords_113 : FP RX2 113 2 8 .int := ⟨fl_NewWords_113, ⟨_, rfl, rfl, tyX2_ok 8 (by decide)⟩⟩
theorem fl_NewWords_116 : FL RX2 116 2 9 := ⟨cl_2, ⟨_, rfl, by decide, tb_mem (i := 440) (by decide +kernel) rfl⟩⟩
theorem fp_NewWords_116 : FP RX2 116 2 9 .int := ⟨fl_NewWords_116, ⟨_, rfl, rfl, tyX2_ok 9 (by decide)⟩⟩
theorem lk_NewWords_119 : LSt RX2 119 M_JLong_bitCount 1 := ⟨⟨tb_mem (i := 1138) (by decide +kernel) rfl, tb_mem (i := 1139) (by decide +kernel) rfl, tb_mem (i := 152) (by decide +kernel) rfl, tb_mem (i := 1140) (by decide +kernel) rfl⟩, ⟨by decide +kernel, by decide +kernel, by decide +kernel⟩, by decide⟩
theorem lk_NewWords_124 : LV RX2 124 M_NewWords_weigh 2 2 := ⟨⟨tb_mem (i := 1144) (by decide +kernel) rfl, tb_mem (i := 1146) (by decide +kernel) rfl, tb_mem (i := 44) (by decide +kernel) rfl, tb_mem (i := 140) (by decide +kernel) rfl, tb_mem (i := 1147) (by decide +kernel) rfl⟩, ⟨by decide +kernel, by decide +kernel, by decide +kernel⟩, by decide, ⟨_, rfl, rfl⟩⟩
theorem lk_NewWords_128 : LV RX2 128 M_NewWords_heapsOf 1 2 := ⟨⟨tb_mem (i := 1148) (by decide +kernel) rfl, tb_mem (i := 1150) (by decide +kernel) rfl, tb_mem (i := 45) (by decide +kernel) rfl, tb_mem (i := 140) (by decide +kernel) rfl, tb_mem (i := 1151) (by decide +kernel) rfl⟩, ⟨by decide +kernel, by decide +kernel, by decide +kernel⟩, by decide, ⟨_, rfl, rfl⟩⟩
theorem lk_NewWords_131 : LV RX2 131 M_Words_holds 1 9 := ⟨⟨tb_mem (i := 1152) (by decide +kernel) rfl, tb_mem (i := 662) (by decide +kernel) rfl, tb_mem (i := 663) (by decide +kernel) rfl, tb_mem (i := 135) (by decide +kernel) rfl, tb_mem (i := 664) (by decide +kernel) rfl⟩, ⟨by decide +kernel, by decide +kernel, by decide +kernel⟩, by decide, ⟨_, rfl, rfl⟩⟩
theorem fl_NewWords_135 : FL RX2 135 8 4 := ⟨cl_8, ⟨_, rfl, by decide, tb_mem (i := 369) (by decide +kernel) rfl⟩⟩
theorem fl_Spelling_9 : FL RX3 9 3 2 := ⟨cl_3, ⟨_, rfl, by decide, tb_mem (i := 478) (by decide +kernel) rfl⟩⟩
theorem fl_Spelling_15 : FL RX3 15 3 3 := ⟨cl_3, ⟨_, rfl, by decide, tb_mem (i := 479) (by decide +kernel) rfl⟩⟩
theorem fl_Spelling_18 : FL RX3 18 3 0 := ⟨cl_3, ⟨_, rfl, by decide, tb_mem (i := 476) (by decide +kernel) rfl⟩⟩
theorem fl_Spelling_22 : FL RX3 22 3 1 := ⟨cl_3, ⟨_, rfl, by decide, tb_mem (i := 477) (by decide +kernel) rfl⟩⟩
theorem fl_Spelling_26 : FL RX3 26 9 0 := ⟨cl_9, ⟨_, rfl, by decide, tb_mem (i := 190) (by decide +kernel) rfl⟩⟩
theorem fl_Spelling_32 : FL RX3 32 9 1 := ⟨cl_9, ⟨_, rfl, by decide, tb_mem (i := 195) (by decide +kernel) rfl⟩⟩
theorem lk_Spelling_35 : LV RX3 35 M_Spelling_apartFrom 3 3 := ⟨⟨tb_mem (i := 1240) (by decide +kernel) rfl, tb_mem (i := 1242) (by decide +kernel) rfl, tb_mem (i := 53) (by decide +kernel) rfl, tb_mem (i := 141) (by decide +kernel) rfl, tb_mem (i := 1243) (by decide +kernel) rfl⟩, ⟨by decide +kernel, by decide +kernel, by decide +kernel⟩, by decide, ⟨_, rfl, rfl⟩⟩
theorem lk_Spelling_39 : LSt RX3 39 M_JMath_min 2 := ⟨⟨tb_mem (i := 1244) (by decide +kernel) rfl, tb_mem (i := 707) (by decide +kernel) rfl, tb_mem (i := 145) (by decide +kernel) rfl, tb_mem (i := 708) (by decide +kernel) rfl⟩, ⟨by decide +kernel, by decide +kernel, by decide +kernel⟩, by decide⟩
theorem lk_Spelling_45 : LV RX3 45 M_Tape_letterAt 1 6 := ⟨⟨tb_mem (i := 1253) (by decide +kernel) rfl, tb_mem (i := 655) (by decide +kernel) rfl, tb_mem (i := 656) (by decide +kernel) rfl, tb_mem (i := 134) (by decide +kernel) rfl, tb_mem (i := 657) (by decide +kernel) rfl⟩, ⟨by decide +kernel, by decide +kernel, by decide +kernel⟩, by decide, ⟨_, rfl, rfl⟩⟩
theorem fl_Spelling_51 : FL RX3 51 3 5 := ⟨cl_3, ⟨_, rfl, by decide, tb_mem (i := 482) (by decide +kernel) rfl⟩⟩
theorem fp_Spelling_51 : FP RX3 51 3 5 .int := ⟨fl_Spelling_51, ⟨_, rfl, rfl, tyX3_ok 5 (by decide)⟩⟩
theorem fl_Spelling_55 : FL RX3 55 3 4 := ⟨cl_3, ⟨_, rfl, by decide, tb_mem (i := 480) (by decide +kernel) rfl⟩⟩
theorem fp_Spelling_55 : FP RX3 55 3 4 .int := ⟨fl_Spelling_55, ⟨_, rfl, rfl, tyX3_ok 4 (by decide)⟩⟩
theorem fl_Spelling_58 : FL RX3 58 3 6 := ⟨cl_3, ⟨_, rfl, by decide, tb_mem (i := 484) (by decide +kernel) rfl⟩⟩
theorem fp_Spelling_58 : FP RX3 58 3 6 .int := ⟨fl_Spelling_58, ⟨_, rfl, rfl, tyX3_ok 6 (by decide)⟩⟩
theorem fl_Spelling_61 : FL RX3 61 9 6 := ⟨cl_9, ⟨_, rfl, by decide, tb_mem (i := 212) (by decide +kernel) rfl⟩⟩
theorem lk_Spelling_64 : LV RX3 64 M_Words_isUsed 1 9 := ⟨⟨tb_mem (i := 1254) (by decide +kernel) rfl, tb_mem (i := 931) (by decide +kernel) rfl, tb_mem (i := 932) (by decide +kernel) rfl, tb_mem (i := 135) (by decide +kernel) rfl, tb_mem (i := 933) (by decide +kernel) rfl⟩, ⟨by decide +kernel, by decide +kernel, by decide +kernel⟩, by decide, ⟨_, rfl, rfl⟩⟩
theorem lk_Spelling_68 : LV RX3 68 M_Spelling_fits 1 3 := ⟨⟨tb_mem (i := 1287) (by decide +kernel) rfl, tb_mem (i := 1289) (by decide +kernel) rfl, tb_mem (i := 55) (by decide +kernel) rfl, tb_mem (i := 141) (by decide +kernel) rfl, tb_mem (i := 1290) (by decide +kernel) rfl⟩, ⟨by decide +kernel, by decide +kernel, by decide +kernel⟩, by decide, ⟨_, rfl, rfl⟩⟩
theorem lk_Spelling_71 : LV RX3 71 M_Tape_byteAt 1 6 := ⟨⟨tb_mem (i := 1291) (by decide +kernel) rfl, tb_mem (i := 647) (by decide +kernel) rfl, tb_mem (i := 648) (by decide +kernel) rfl, tb_mem (i := 134) (by decide +kernel) rfl, tb_mem (i := 649) (by decide +kernel) rfl⟩, ⟨by decide +kernel, by decide +kernel, by decide +kernel⟩, by decide, ⟨_, rfl, rfl⟩⟩
theorem fl_Squares_9 : FL RX4 9 4 1 := ⟨cl_4, ⟨_, rfl, by decide, tb_mem (i := 552) (by decide +kernel) rfl⟩⟩
theorem fl_Squares_15 : FL RX4 15 4 2 := ⟨cl_4, ⟨_, rfl, by decide, tb_mem (i := 553) (by decide +kernel) rfl⟩⟩
theorem fl_Squares_18 : FL RX4 18 4 3 := ⟨cl_4, ⟨_, rfl, by decide, tb_mem (i := 554) (by decide +kernel) rfl⟩⟩
theorem fl_Squares_22 : FL RX4 22 4 4 := ⟨cl_4, ⟨_, rfl, by decide, tb_mem (i := 555) (by decide +kernel) rfl⟩⟩
theorem fl_Squares_25 : FL RX4 25 4 8 := ⟨cl_4, ⟨_, rfl, by decide, tb_mem (i := 561) (by decide +kernel) rfl⟩⟩
theorem fp_Squares_25 : FP RX4 25 4 8 .int := ⟨fl_Squares_25, ⟨_, rfl, rfl, tyX4_ok 8 (by decide)⟩⟩
theorem fl_Squares_29 : FL RX4 29 4 0 := ⟨cl_4, ⟨_, rfl, by decide, tb_mem (i := 551) (by decide +kernel) rfl⟩⟩
theorem fl_Squares_33 : FL RX4 33 9 9 := ⟨cl_9, ⟨_, rfl, by decide, tb_mem (i := 218) (by decide +kernel) rfl⟩⟩
theorem fl_Squares_36 : FL RX4 36 4 6 := ⟨cl_4, ⟨_, rfl, by decide, tb_mem (i := 558) (by decide +kernel) rfl⟩⟩
theorem fp_Squares_36 : FP RX4 36 4 6 .int := ⟨fl_Squares_36, ⟨_, rfl, rfl, tyX4_ok 6 (by decide)⟩⟩
theorem fl_Squares_39 : FL RX4 39 4 7 := ⟨cl_4, ⟨_, rfl, by decide, tb_mem (i := 559) (by decide +kernel) rfl⟩⟩
theorem fp_Squares_39 : FP RX4 39 4 7 .int := ⟨fl_Squares_39, ⟨_, rfl, rfl, tyX4_ok 7 (by decide)⟩⟩
theorem lk_Squares_42 : LV RX4 42 M_Squares_findWords 0 4 := ⟨⟨tb_mem (i := 1300) (by decide +kernel) rfl, tb_mem (i := 1302) (by decide +kernel) rfl, tb_mem (i := 56) (by decide +kernel) rfl, tb_mem (i := 143) (by decide +kernel) rfl, tb_mem (i := 1303) (by decide +kernel) rfl⟩, ⟨by decide +kernel, by decide +kernel, by decide +kernel⟩, by decide, ⟨_, rfl, rfl⟩⟩
theorem fl_Squares_45 : FL RX4 45 4 5 := ⟨cl_4, ⟨_, rfl, by decide, tb_mem (i := 557) (by decide +kernel) rfl⟩⟩
theorem fp_Squares_45 : FP RX4 45 4 5 .long := ⟨fl_Squares_45, ⟨_, rfl, rfl, tyX4_ok 5 (by decide)⟩⟩
theorem lk_Squares_49 : LV RX4 49 M_Squares_putRow 1 4 := ⟨⟨tb_mem (i := 1308) (by decide +kernel) rfl, tb_mem (i := 1310) (by decide +kernel) rfl, tb_mem (i := 57) (by decide +kernel) rfl, tb_mem (i := 143) (by decide +kernel) rfl, tb_mem (i := 1311) (by decide +kernel) rfl⟩, ⟨by decide +kernel, by decide +kernel, by decide +kernel⟩, by decide, ⟨_, rfl, rfl⟩⟩
theorem lk_Squares_53 : LSt RX4 53 M_JArrays_fill 2 := ⟨⟨tb_mem (i := 1304) (by decide +kernel) rfl, tb_mem (i := 1305) (by decide +kernel) rfl, tb_mem (i := 154) (by decide +kernel) rfl, tb_mem (i := 1306) (by decide +kernel) rfl⟩, ⟨by decide +kernel, by decide +kernel, by decide +kernel⟩, by decide⟩
theorem fl_Squares_59 : FL RX4 59 9 6 := ⟨cl_9, ⟨_, rfl, by decide, tb_mem (i := 210) (by decide +kernel) rfl⟩⟩
theorem lk_Squares_62 : LV RX4 62 M_Words_isUsed 1 9 := ⟨⟨tb_mem (i := 1307) (by decide +kernel) rfl, tb_mem (i := 931) (by decide +kernel) rfl, tb_mem (i := 932) (by decide +kernel) rfl, tb_mem (i := 135) (by decide +kernel) rfl, tb_mem (i := 933) (by decide +kernel) rfl⟩, ⟨by decide +kernel, by decide +kernel, by decide +kernel⟩, by decide, ⟨_, rfl, rfl⟩⟩
theorem fl_Squares_66 : FL RX4 66 9 1 := ⟨cl_9, ⟨_, rfl, by decide, tb_mem (i := 197) (by decide +kernel) rfl⟩⟩
theorem fl_Squares_69 : FL RX4 69 9 0 := ⟨cl_9, ⟨_, rfl, by decide, tb_mem (i := 191) (by decide +kernel) rfl⟩⟩
theorem lk_Squares_73 : LV RX4 73 M_Squares_keepSquare 0 4 := ⟨⟨tb_mem (i := 1312) (by decide +kernel) rfl, tb_mem (i := 1314) (by decide +kernel) rfl, tb_mem (i := 58) (by decide +kernel) rfl, tb_mem (i := 143) (by decide +kernel) rfl, tb_mem (i := 1315) (by decide +kernel) rfl⟩, ⟨by decide +kernel, by decide +kernel, by decide +kernel⟩, by decide, ⟨_, rfl, rfl⟩⟩
theorem lk_Squares_76 : LV RX4 76 M_Squares_tryRow 2 4 := ⟨⟨tb_mem (i := 1317) (by decide +kernel) rfl, tb_mem (i := 1319) (by decide +kernel) rfl, tb_mem (i := 59) (by decide +kernel) rfl, tb_mem (i := 143) (by decide +kernel) rfl, tb_mem (i := 1320) (by decide +kernel) rfl⟩, ⟨by decide +kernel, by decide +kernel, by decide +kernel⟩, by decide, ⟨_, rfl, rfl⟩⟩
theorem lk_Squares_80 : LV RX4 80 M_Squares_keepsColumnsOpen 2 4 := ⟨⟨tb_mem (i := 1321) (by decide +kernel) rfl, tb_mem (i := 1323) (by decide +kernel) rfl, tb_mem (i := 60) (by decide +kernel) rfl, tb_mem (i := 143) (by decide +kernel) rfl, tb_mem (i := 1324) (by decide +kernel) rfl⟩, ⟨by decide +kernel, by decide +kernel, by decide +kernel⟩, by decide, ⟨_, rfl, rfl⟩⟩
theorem fl_Steps_11 : FL RX5 11 5 2 := ⟨cl_5, ⟨_, rfl, by decide, tb_mem (i := 321) (by decide +kernel) rfl⟩⟩
theorem fl_Steps_16 : FL RX5 16 5 3 := ⟨cl_5, ⟨_, rfl, by decide, tb_mem (i := 322) (by decide +kernel) rfl⟩⟩
theorem fl_Steps_19 : FL RX5 19 5 4 := ⟨cl_5, ⟨_, rfl, by decide, tb_mem (i := 323) (by decide +kernel) rfl⟩⟩
theorem fl_Steps_22 : FL RX5 22 5 5 := ⟨cl_5, ⟨_, rfl, by decide, tb_mem (i := 324) (by decide +kernel) rfl⟩⟩
theorem fl_Steps_25 : FL RX5 25 5 6 := ⟨cl_5, ⟨_, rfl, by decide, tb_mem (i := 325) (by decide +kernel) rfl⟩⟩
theorem fl_Steps_28 : FL RX5 28 5 7 := ⟨cl_5, ⟨_, rfl, by decide, tb_mem (i := 326) (by decide +kernel) rfl⟩⟩
theorem fl_Steps_32 : FL RX5 32 5 8 := ⟨cl_5, ⟨_, rfl, by decide, tb_mem (i := 328) (by decide +kernel) rfl⟩⟩
theorem fp_Steps_32 : FP RX5 32 5 8 .int := ⟨fl_Steps_32, ⟨_, rfl, rfl, tyX5_ok 8 (by decide)⟩⟩
theorem fl_Steps_36 : FL RX5 36 5 9 := ⟨cl_5, ⟨_, rfl, by decide, tb_mem (i := 329) (by decide +kernel) rfl⟩⟩
theorem fp_Steps_36 : FP RX5 36 5 9 .int := ⟨fl_Steps_36, ⟨_, rfl, rfl, tyX5_ok 9 (by decide)⟩⟩
theorem fl_Steps_39 : FL RX5 39 5 0 := ⟨cl_5, ⟨_, rfl, by decide, tb_mem (i := 319) (by decide +kernel) rfl⟩⟩
theorem fl_Steps_43 : FL RX5 43 5 1 := ⟨cl_5, ⟨_, rfl, by decide, tb_mem (i := 320) (by decide +kernel) rfl⟩⟩
theorem fl_Steps_47 : FL RX5 47 9 6 := ⟨cl_9, ⟨_, rfl, by decide, tb_mem (i := 207) (by decide +kernel) rfl⟩⟩
theorem lk_Steps_52 : LV RX5 52 M_Steps_findChange 2 5 := ⟨⟨tb_mem (i := 683) (by decide +kernel) rfl, tb_mem (i := 685) (by decide +kernel) rfl, tb_mem (i := 1) (by decide +kernel) rfl, tb_mem (i := 138) (by decide +kernel) rfl, tb_mem (i := 686) (by decide +kernel) rfl⟩, ⟨by decide +kernel, by decide +kernel, by decide +kernel⟩, by decide, ⟨_, rfl, rfl⟩⟩
theorem fl_Steps_56 : FL RX5 56 9 1 := ⟨cl_9, ⟨_, rfl, by decide, tb_mem (i := 196) (by decide +kernel) rfl⟩⟩
theorem lk_Steps_60 : LV RX5 60 M_Steps_findChangeOfLike 2 5 := ⟨⟨tb_mem (i := 687) (by decide +kernel) rfl, tb_mem (i := 689) (by decide +kernel) rfl, tb_mem (i := 2) (by decide +kernel) rfl, tb_mem (i := 138) (by decide +kernel) rfl, tb_mem (i := 690) (by decide +kernel) rfl⟩, ⟨by decide +kernel, by decide +kernel, by decide +kernel⟩, by decide, ⟨_, rfl, rfl⟩⟩
theorem lk_Steps_63 : LV RX5 63 M_Steps_findChangeOfLength 3 5 := ⟨⟨tb_mem (i := 702) (by decide +kernel) rfl, tb_mem (i := 704) (by decide +kernel) rfl, tb_mem (i := 5) (by decide +kernel) rfl, tb_mem (i := 138) (by decide +kernel) rfl, tb_mem (i := 705) (by decide +kernel) rfl⟩, ⟨by decide +kernel, by decide +kernel, by decide +kernel⟩, by decide, ⟨_, rfl, rfl⟩⟩
theorem fl_Steps_67 : FL RX5 67 9 0 := ⟨cl_9, ⟨_, rfl, by decide, tb_mem (i := 192) (by decide +kernel) rfl⟩⟩
theorem lk_Steps_70 : LSt RX5 70 M_Steps_alikeAhead 3 := ⟨⟨tb_mem (i := 691) (by decide +kernel) rfl, tb_mem (i := 692) (by decide +kernel) rfl, tb_mem (i := 138) (by decide +kernel) rfl, tb_mem (i := 693) (by decide +kernel) rfl⟩, ⟨by decide +kernel, by decide +kernel, by decide +kernel⟩, by decide⟩
theorem lk_Steps_74 : LV RX5 74 M_Steps_alikeBehind 3 5 := ⟨⟨tb_mem (i := 694) (by decide +kernel) rfl, tb_mem (i := 696) (by decide +kernel) rfl, tb_mem (i := 3) (by decide +kernel) rfl, tb_mem (i := 138) (by decide +kernel) rfl, tb_mem (i := 697) (by decide +kernel) rfl⟩, ⟨by decide +kernel, by decide +kernel, by decide +kernel⟩, by decide, ⟨_, rfl, rfl⟩⟩
theorem lk_Steps_78 : LV RX5 78 M_Steps_setChange 5 5 := ⟨⟨tb_mem (i := 698) (by decide +kernel) rfl, tb_mem (i := 700) (by decide +kernel) rfl, tb_mem (i := 4) (by decide +kernel) rfl, tb_mem (i := 138) (by decide +kernel) rfl, tb_mem (i := 701) (by decide +kernel) rfl⟩, ⟨by decide +kernel, by decide +kernel, by decide +kernel⟩, by decide, ⟨_, rfl, rfl⟩⟩
theorem lk_Steps_82 : LSt RX5 82 M_JMath_min 2 := ⟨⟨tb_mem (i := 706) (by decide +kernel) rfl, tb_mem (i := 707) (by decide +kernel) rfl, tb_mem (i := 145) (by decide +kernel) rfl, tb_mem (i := 708) (by decide +kernel) rfl⟩, ⟨by decide +kernel, by decide +kernel, by decide +kernel⟩, by decide⟩
theorem fl_Steps_88 : FL RX5 88 9 9 := ⟨cl_9, ⟨_, rfl, by decide, tb_mem (i := 219) (by decide +kernel) rfl⟩⟩
theorem fl_Steps_91 : FL RX5 91 0 7 := ⟨cl_0, ⟨_, rfl, by decide, tb_mem (i := 261) (by decide +kernel) rfl⟩⟩
theorem fl_Steps_94 : FL RX5 94 5 10 := ⟨cl_5, ⟨_, rfl, by decide, tb_mem (i := 332) (by decide +kernel) rfl⟩⟩
theorem fp_Steps_94 : FP RX5 94 5 10 .int := ⟨fl_Steps_94, ⟨_, rfl, rfl, tyX5_ok 10 (by decide)⟩⟩
theorem lk_Steps_95 : LV RX5 95 M_Words_isUsed 1 9 := ⟨⟨tb_mem (i := 930) (by decide +kernel) rfl, tb_mem (i := 931) (by decide +kernel) rfl, tb_mem (i := 932) (by decide +kernel) rfl, tb_mem (i := 135) (by decide +kernel) rfl, tb_mem (i := 933) (by decide +kernel) rfl⟩, ⟨by decide +kernel, by decide +kernel, by decide +kernel⟩, by decide, ⟨_, rfl, rfl⟩⟩
theorem lk_Steps_99 : LV RX5 99 M_Steps_findCost 2 5 := ⟨⟨tb_mem (i := 935) (by decide +kernel) rfl, tb_mem (i := 937) (by decide +kernel) rfl, tb_mem (i := 22) (by decide +kernel) rfl, tb_mem (i := 138) (by decide +kernel) rfl, tb_mem (i := 938) (by decide +kernel) rfl⟩, ⟨by decide +kernel, by decide +kernel, by decide +kernel⟩, by decide, ⟨_, rfl, rfl⟩⟩
theorem lk_Steps_102 : LV RX5 102 M_Steps_nameChange 2 5 := ⟨⟨tb_mem (i := 939) (by decide +kernel) rfl, tb_mem (i := 941) (by decide +kernel) rfl, tb_mem (i := 23) (by decide +kernel) rfl, tb_mem (i := 138) (by decide +kernel) rfl, tb_mem (i := 942) (by decide +kernel) rfl⟩, ⟨by decide +kernel, by decide +kernel, by decide +kernel⟩, by decide, ⟨_, rfl, rfl⟩⟩
theorem fl_Steps_105 : FL RX5 105 0 3 := ⟨cl_0, ⟨_, rfl, by decide, tb_mem (i := 254) (by decide +kernel) rfl⟩⟩
theorem lk_Steps_108 : LV RX5 108 M_LawCode_costOfNamed 0 0 := ⟨⟨tb_mem (i := 947) (by decide +kernel) rfl, tb_mem (i := 948) (by decide +kernel) rfl, tb_mem (i := 949) (by decide +kernel) rfl, tb_mem (i := 136) (by decide +kernel) rfl, tb_mem (i := 950) (by decide +kernel) rfl⟩, ⟨by decide +kernel, by decide +kernel, by decide +kernel⟩, by decide, ⟨_, rfl, rfl⟩⟩
theorem lk_Steps_112 : LV RX5 112 M_Steps_letterIn 2 5 := ⟨⟨tb_mem (i := 943) (by decide +kernel) rfl, tb_mem (i := 945) (by decide +kernel) rfl, tb_mem (i := 24) (by decide +kernel) rfl, tb_mem (i := 138) (by decide +kernel) rfl, tb_mem (i := 946) (by decide +kernel) rfl⟩, ⟨by decide +kernel, by decide +kernel, by decide +kernel⟩, by decide, ⟨_, rfl, rfl⟩⟩
theorem fl_Steps_115 : FL RX5 115 9 3 := ⟨cl_9, ⟨_, rfl, by decide, tb_mem (i := 203) (by decide +kernel) rfl⟩⟩
theorem lk_Steps_118 : LV RX5 118 M_Words_has 1 9 := ⟨⟨tb_mem (i := 969) (by decide +kernel) rfl, tb_mem (i := 714) (by decide +kernel) rfl, tb_mem (i := 715) (by decide +kernel) rfl, tb_mem (i := 135) (by decide +kernel) rfl, tb_mem (i := 716) (by decide +kernel) rfl⟩, ⟨by decide +kernel, by decide +kernel, by decide +kernel⟩, by decide, ⟨_, rfl, rfl⟩⟩
theorem lk_Steps_121 : LSt RX5 121 M_JLong_bitCount 1 := ⟨⟨tb_mem (i := 1338) (by decide +kernel) rfl, tb_mem (i := 1139) (by decide +kernel) rfl, tb_mem (i := 152) (by decide +kernel) rfl, tb_mem (i := 1140) (by decide +kernel) rfl⟩, ⟨by decide +kernel, by decide +kernel, by decide +kernel⟩, by decide⟩
theorem lk_Steps_127 : LV RX5 127 M_Steps_leads 2 5 := ⟨⟨tb_mem (i := 1339) (by decide +kernel) rfl, tb_mem (i := 1020) (by decide +kernel) rfl, tb_mem (i := 1021) (by decide +kernel) rfl, tb_mem (i := 138) (by decide +kernel) rfl, tb_mem (i := 1022) (by decide +kernel) rfl⟩, ⟨by decide +kernel, by decide +kernel, by decide +kernel⟩, by decide, ⟨_, rfl, rfl⟩⟩
theorem fl_Tape_11 : FL RX6 11 6 0 := ⟨cl_6, ⟨_, rfl, by decide, tb_mem (i := 169) (by decide +kernel) rfl⟩⟩
theorem fl_Tape_15 : FL RX6 15 6 1 := ⟨cl_6, ⟨_, rfl, by decide, tb_mem (i := 170) (by decide +kernel) rfl⟩⟩
theorem fp_Tape_15 : FP RX6 15 6 1 .int := ⟨fl_Tape_15, ⟨_, rfl, rfl, tyX6_ok 1 (by decide)⟩⟩
theorem fl_Tape_19 : FL RX6 19 6 2 := ⟨cl_6, ⟨_, rfl, by decide, tb_mem (i := 172) (by decide +kernel) rfl⟩⟩
theorem fp_Tape_19 : FP RX6 19 6 2 .int := ⟨fl_Tape_19, ⟨_, rfl, rfl, tyX6_ok 2 (by decide)⟩⟩
theorem lk_Tape_22 : LV RX6 22 M_Tape_byteAt 1 6 := ⟨⟨tb_mem (i := 646) (by decide +kernel) rfl, tb_mem (i := 647) (by decide +kernel) rfl, tb_mem (i := 648) (by decide +kernel) rfl, tb_mem (i := 134) (by decide +kernel) rfl, tb_mem (i := 649) (by decide +kernel) rfl⟩, ⟨by decide +kernel, by decide +kernel, by decide +kernel⟩, by decide, ⟨_, rfl, rfl⟩⟩
theorem lk_Tape_26 : LV RX6 26 M_Tape_isLetterAt 1 6 := ⟨⟨tb_mem (i := 642) (by decide +kernel) rfl, tb_mem (i := 643) (by decide +kernel) rfl, tb_mem (i := 644) (by decide +kernel) rfl, tb_mem (i := 134) (by decide +kernel) rfl, tb_mem (i := 645) (by decide +kernel) rfl⟩, ⟨by decide +kernel, by decide +kernel, by decide +kernel⟩, by decide, ⟨_, rfl, rfl⟩⟩
theorem lk_Tape_32 : LV RX6 32 M_Tape_letterAt 1 6 := ⟨⟨tb_mem (i := 654) (by decide +kernel) rfl, tb_mem (i := 655) (by decide +kernel) rfl, tb_mem (i := 656) (by decide +kernel) rfl, tb_mem (i := 134) (by decide +kernel) rfl, tb_mem (i := 657) (by decide +kernel) rfl⟩, ⟨by decide +kernel, by decide +kernel, by decide +kernel⟩, by decide, ⟨_, rfl, rfl⟩⟩
theorem lk_Tape_35 : LSt RX6 35 M_Words_keyOf 2 := ⟨⟨tb_mem (i := 658) (by decide +kernel) rfl, tb_mem (i := 659) (by decide +kernel) rfl, tb_mem (i := 135) (by decide +kernel) rfl, tb_mem (i := 660) (by decide +kernel) rfl⟩, ⟨by decide +kernel, by decide +kernel, by decide +kernel⟩, by decide⟩
theorem fl_Told_9 : FL RX7 9 7 4 := ⟨cl_7, ⟨_, rfl, by decide, tb_mem (i := 511) (by decide +kernel) rfl⟩⟩
theorem fl_Told_15 : FL RX7 15 7 5 := ⟨cl_7, ⟨_, rfl, by decide, tb_mem (i := 512) (by decide +kernel) rfl⟩⟩
theorem fl_Told_18 : FL RX7 18 7 6 := ⟨cl_7, ⟨_, rfl, by decide, tb_mem (i := 513) (by decide +kernel) rfl⟩⟩
theorem fl_Told_21 : FL RX7 21 7 7 := ⟨cl_7, ⟨_, rfl, by decide, tb_mem (i := 514) (by decide +kernel) rfl⟩⟩
theorem fl_Told_24 : FL RX7 24 7 8 := ⟨cl_7, ⟨_, rfl, by decide, tb_mem (i := 515) (by decide +kernel) rfl⟩⟩
theorem fl_Told_27 : FL RX7 27 7 9 := ⟨cl_7, ⟨_, rfl, by decide, tb_mem (i := 516) (by decide +kernel) rfl⟩⟩
theorem fl_Told_31 : FL RX7 31 7 0 := ⟨cl_7, ⟨_, rfl, by decide, tb_mem (i := 507) (by decide +kernel) rfl⟩⟩
theorem fl_Told_35 : FL RX7 35 7 1 := ⟨cl_7, ⟨_, rfl, by decide, tb_mem (i := 508) (by decide +kernel) rfl⟩⟩
theorem fl_Told_39 : FL RX7 39 7 2 := ⟨cl_7, ⟨_, rfl, by decide, tb_mem (i := 509) (by decide +kernel) rfl⟩⟩
theorem fl_Told_43 : FL RX7 43 7 3 := ⟨cl_7, ⟨_, rfl, by decide, tb_mem (i := 510) (by decide +kernel) rfl⟩⟩
theorem fl_Told_47 : FL RX7 47 7 10 := ⟨cl_7, ⟨_, rfl, by decide, tb_mem (i := 517) (by decide +kernel) rfl⟩⟩
theorem fp_Told_47 : FP RX7 47 7 10 .int := ⟨fl_Told_47, ⟨_, rfl, rfl, tyX7_ok 10 (by decide)⟩⟩
theorem lk_Told_51 : LV RX7 51 M_Tape_byteAt 1 6 := ⟨⟨tb_mem (i := 1181) (by decide +kernel) rfl, tb_mem (i := 647) (by decide +kernel) rfl, tb_mem (i := 648) (by decide +kernel) rfl, tb_mem (i := 134) (by decide +kernel) rfl, tb_mem (i := 649) (by decide +kernel) rfl⟩, ⟨by decide +kernel, by decide +kernel, by decide +kernel⟩, by decide, ⟨_, rfl, rfl⟩⟩
theorem lk_Told_57 : LV RX7 57 M_Words_has 1 9 := ⟨⟨tb_mem (i := 1182) (by decide +kernel) rfl, tb_mem (i := 714) (by decide +kernel) rfl, tb_mem (i := 715) (by decide +kernel) rfl, tb_mem (i := 135) (by decide +kernel) rfl, tb_mem (i := 716) (by decide +kernel) rfl⟩, ⟨by decide +kernel, by decide +kernel, by decide +kernel⟩, by decide, ⟨_, rfl, rfl⟩⟩
theorem lk_Told_63 : LV RX7 63 M_Words_isUsed 1 9 := ⟨⟨tb_mem (i := 1187) (by decide +kernel) rfl, tb_mem (i := 931) (by decide +kernel) rfl, tb_mem (i := 932) (by decide +kernel) rfl, tb_mem (i := 135) (by decide +kernel) rfl, tb_mem (i := 933) (by decide +kernel) rfl⟩, ⟨by decide +kernel, by decide +kernel, by decide +kernel⟩, by decide, ⟨_, rfl, rfl⟩⟩
theorem lk_Told_66 : LV RX7 66 M_Told_sortList 0 7 := ⟨⟨tb_mem (i := 1192) (by decide +kernel) rfl, tb_mem (i := 1194) (by decide +kernel) rfl, tb_mem (i := 47) (by decide +kernel) rfl, tb_mem (i := 142) (by decide +kernel) rfl, tb_mem (i := 1195) (by decide +kernel) rfl⟩, ⟨by decide +kernel, by decide +kernel, by decide +kernel⟩, by decide, ⟨_, rfl, rfl⟩⟩
theorem lk_Told_69 : LV RX7 69 M_Steps_costOf 2 5 := ⟨⟨tb_mem (i := 1196) (by decide +kernel) rfl, tb_mem (i := 966) (by decide +kernel) rfl, tb_mem (i := 967) (by decide +kernel) rfl, tb_mem (i := 138) (by decide +kernel) rfl, tb_mem (i := 968) (by decide +kernel) rfl⟩, ⟨by decide +kernel, by decide +kernel, by decide +kernel⟩, by decide, ⟨_, rfl, rfl⟩⟩
theorem lk_Told_75 : LV RX7 75 M_Told_costOnward 2 7 := ⟨⟨tb_mem (i := 1197) (by decide +kernel) rfl, tb_mem (i := 1199) (by decide +kernel) rfl, tb_mem (i := 48) (by decide +kernel) rfl, tb_mem (i := 142) (by decide +kernel) rfl, tb_mem (i := 1200) (by decide +kernel) rfl⟩, ⟨by decide +kernel, by decide +kernel, by decide +kernel⟩, by decide, ⟨_, rfl, rfl⟩⟩
theorem kc_Told_78 : Cond.constant RX7 78 (Int32.ofInt (536870912)) ∈ TB := tb_mem (i := 1201) (by decide +kernel) rfl
theorem fl_Told_79 : FL RX7 79 7 11 := ⟨cl_7, ⟨_, rfl, by decide, tb_mem (i := 518) (by decide +kernel) rfl⟩⟩
theorem fp_Told_79 : FP RX7 79 7 11 .int := ⟨fl_Told_79, ⟨_, rfl, rfl, tyX7_ok 11 (by decide)⟩⟩
theorem lk_Told_82 : LSt RX7 82 M_JMath_min 2 := ⟨⟨tb_mem (i := 1202) (by decide +kernel) rfl, tb_mem (i := 707) (by decide +kernel) rfl, tb_mem (i := 145) (by decide +kernel) rfl, tb_mem (i := 708) (by decide +kernel) rfl⟩, ⟨by decide +kernel, by decide +kernel, by decide +kernel⟩, by decide⟩
theorem lk_Told_87 : LV RX7 87 M_Told_rowPlaceAfter 3 7 := ⟨⟨tb_mem (i := 1207) (by decide +kernel) rfl, tb_mem (i := 1209) (by decide +kernel) rfl, tb_mem (i := 49) (by decide +kernel) rfl, tb_mem (i := 142) (by decide +kernel) rfl, tb_mem (i := 1210) (by decide +kernel) rfl⟩, ⟨by decide +kernel, by decide +kernel, by decide +kernel⟩, by decide, ⟨_, rfl, rfl⟩⟩
theorem lk_Told_91 : LV RX7 91 M_Told_findStepBits 0 7 := ⟨⟨tb_mem (i := 1219) (by decide +kernel) rfl, tb_mem (i := 1221) (by decide +kernel) rfl, tb_mem (i := 50) (by decide +kernel) rfl, tb_mem (i := 142) (by decide +kernel) rfl, tb_mem (i := 1222) (by decide +kernel) rfl⟩, ⟨by decide +kernel, by decide +kernel, by decide +kernel⟩, by decide, ⟨_, rfl, rfl⟩⟩
theorem lk_Told_94 : LV RX7 94 M_Told_lostAfter 1 7 := ⟨⟨tb_mem (i := 1224) (by decide +kernel) rfl, tb_mem (i := 1226) (by decide +kernel) rfl, tb_mem (i := 51) (by decide +kernel) rfl, tb_mem (i := 142) (by decide +kernel) rfl, tb_mem (i := 1227) (by decide +kernel) rfl⟩, ⟨by decide +kernel, by decide +kernel, by decide +kernel⟩, by decide, ⟨_, rfl, rfl⟩⟩
theorem lk_Told_97 : LV RX7 97 M_Told_placesFrom 1 7 := ⟨⟨tb_mem (i := 1228) (by decide +kernel) rfl, tb_mem (i := 1230) (by decide +kernel) rfl, tb_mem (i := 52) (by decide +kernel) rfl, tb_mem (i := 142) (by decide +kernel) rfl, tb_mem (i := 1231) (by decide +kernel) rfl⟩, ⟨by decide +kernel, by decide +kernel, by decide +kernel⟩, by decide, ⟨_, rfl, rfl⟩⟩
theorem lk_Told_100 : LV RX7 100 M_Steps_leads 2 5 := ⟨⟨tb_mem (i := 1223) (by decide +kernel) rfl, tb_mem (i := 1020) (by decide +kernel) rfl, tb_mem (i := 1021) (by decide +kernel) rfl, tb_mem (i := 138) (by decide +kernel) rfl, tb_mem (i := 1022) (by decide +kernel) rfl⟩, ⟨by decide +kernel, by decide +kernel, by decide +kernel⟩, by decide, ⟨_, rfl, rfl⟩⟩
theorem lk_Told_104 : LV RX7 104 M_Told_tooNearBefore 2 7 := ⟨⟨tb_mem (i := 1263) (by decide +kernel) rfl, tb_mem (i := 1265) (by decide +kernel) rfl, tb_mem (i := 54) (by decide +kernel) rfl, tb_mem (i := 142) (by decide +kernel) rfl, tb_mem (i := 1266) (by decide +kernel) rfl⟩, ⟨by decide +kernel, by decide +kernel, by decide +kernel⟩, by decide, ⟨_, rfl, rfl⟩⟩
theorem lk_Told_107 : LSt RX7 107 M_JInteger_bitCount 1 := ⟨⟨tb_mem (i := 1268) (by decide +kernel) rfl, tb_mem (i := 1269) (by decide +kernel) rfl, tb_mem (i := 153) (by decide +kernel) rfl, tb_mem (i := 1270) (by decide +kernel) rfl⟩, ⟨by decide +kernel, by decide +kernel, by decide +kernel⟩, by decide⟩
theorem lk_Told_112 : LV RX7 112 M_Spelling_apart 2 3 := ⟨⟨tb_mem (i := 1267) (by decide +kernel) rfl, tb_mem (i := 1237) (by decide +kernel) rfl, tb_mem (i := 1238) (by decide +kernel) rfl, tb_mem (i := 141) (by decide +kernel) rfl, tb_mem (i := 1239) (by decide +kernel) rfl⟩, ⟨by decide +kernel, by decide +kernel, by decide +kernel⟩, by decide, ⟨_, rfl, rfl⟩⟩
theorem fl_Ways_11 : FL RX8 11 8 2 := ⟨cl_8, ⟨_, rfl, by decide, tb_mem (i := 365) (by decide +kernel) rfl⟩⟩
theorem fl_Ways_16 : FL RX8 16 8 3 := ⟨cl_8, ⟨_, rfl, by decide, tb_mem (i := 366) (by decide +kernel) rfl⟩⟩
theorem fl_Ways_20 : FL RX8 20 8 4 := ⟨cl_8, ⟨_, rfl, by decide, tb_mem (i := 367) (by decide +kernel) rfl⟩⟩
theorem fl_Ways_24 : FL RX8 24 8 5 := ⟨cl_8, ⟨_, rfl, by decide, tb_mem (i := 370) (by decide +kernel) rfl⟩⟩
theorem fl_Ways_27 : FL RX8 27 8 6 := ⟨cl_8, ⟨_, rfl, by decide, tb_mem (i := 371) (by decide +kernel) rfl⟩⟩
theorem fl_Ways_30 : FL RX8 30 8 7 := ⟨cl_8, ⟨_, rfl, by decide, tb_mem (i := 372) (by decide +kernel) rfl⟩⟩
theorem fl_Ways_34 : FL RX8 34 8 14 := ⟨cl_8, ⟨_, rfl, by decide, tb_mem (i := 385) (by decide +kernel) rfl⟩⟩
theorem fp_Ways_34 : FP RX8 34 8 14 .int := ⟨fl_Ways_34, ⟨_, rfl, rfl, tyX8_ok 14 (by decide)⟩⟩
theorem fl_Ways_38 : FL RX8 38 8 15 := ⟨cl_8, ⟨_, rfl, by decide, tb_mem (i := 386) (by decide +kernel) rfl⟩⟩
theorem fp_Ways_38 : FP RX8 38 8 15 .int := ⟨fl_Ways_38, ⟨_, rfl, rfl, tyX8_ok 15 (by decide)⟩⟩
theorem fl_Ways_41 : FL RX8 41 8 16 := ⟨cl_8, ⟨_, rfl, by decide, tb_mem (i := 387) (by decide +kernel) rfl⟩⟩
theorem fp_Ways_41 : FP RX8 41 8 16 .int := ⟨fl_Ways_41, ⟨_, rfl, rfl, tyX8_ok 16 (by decide)⟩⟩
theorem fl_Ways_44 : FL RX8 44 8 0 := ⟨cl_8, ⟨_, rfl, by decide, tb_mem (i := 363) (by decide +kernel) rfl⟩⟩
theorem fl_Ways_48 : FL RX8 48 8 1 := ⟨cl_8, ⟨_, rfl, by decide, tb_mem (i := 364) (by decide +kernel) rfl⟩⟩
theorem fl_Ways_52 : FL RX8 52 5 10 := ⟨cl_5, ⟨_, rfl, by decide, tb_mem (i := 330) (by decide +kernel) rfl⟩⟩
theorem fl_Ways_57 : FL RX8 57 9 6 := ⟨cl_9, ⟨_, rfl, by decide, tb_mem (i := 208) (by decide +kernel) rfl⟩⟩
theorem lk_Ways_62 : LV RX8 62 M_Words_isUsed 1 9 := ⟨⟨tb_mem (i := 992) (by decide +kernel) rfl, tb_mem (i := 931) (by decide +kernel) rfl, tb_mem (i := 932) (by decide +kernel) rfl, tb_mem (i := 135) (by decide +kernel) rfl, tb_mem (i := 933) (by decide +kernel) rfl⟩, ⟨by decide +kernel, by decide +kernel, by decide +kernel⟩, by decide, ⟨_, rfl, rfl⟩⟩
theorem fl_Ways_66 : FL RX8 66 5 7 := ⟨cl_5, ⟨_, rfl, by decide, tb_mem (i := 327) (by decide +kernel) rfl⟩⟩
theorem lk_Ways_69 : LV RX8 69 M_Ways_reaches 2 8 := ⟨⟨tb_mem (i := 1048) (by decide +kernel) rfl, tb_mem (i := 1049) (by decide +kernel) rfl, tb_mem (i := 1050) (by decide +kernel) rfl, tb_mem (i := 139) (by decide +kernel) rfl, tb_mem (i := 1051) (by decide +kernel) rfl⟩, ⟨by decide +kernel, by decide +kernel, by decide +kernel⟩, by decide, ⟨_, rfl, rfl⟩⟩
theorem lk_Ways_73 : LV RX8 73 M_Ways_findHeaps 0 8 := ⟨⟨tb_mem (i := 1052) (by decide +kernel) rfl, tb_mem (i := 1054) (by decide +kernel) rfl, tb_mem (i := 33) (by decide +kernel) rfl, tb_mem (i := 139) (by decide +kernel) rfl, tb_mem (i := 1055) (by decide +kernel) rfl⟩, ⟨by decide +kernel, by decide +kernel, by decide +kernel⟩, by decide, ⟨_, rfl, rfl⟩⟩
theorem fl_Ways_76 : FL RX8 76 8 8 := ⟨cl_8, ⟨_, rfl, by decide, tb_mem (i := 373) (by decide +kernel) rfl⟩⟩
theorem fp_Ways_76 : FP RX8 76 8 8 .int := ⟨fl_Ways_76, ⟨_, rfl, rfl, tyX8_ok 8 (by decide)⟩⟩
theorem lk_Ways_79 : LV RX8 79 M_Ways_startWeights 0 8 := ⟨⟨tb_mem (i := 986) (by decide +kernel) rfl, tb_mem (i := 988) (by decide +kernel) rfl, tb_mem (i := 28) (by decide +kernel) rfl, tb_mem (i := 139) (by decide +kernel) rfl, tb_mem (i := 989) (by decide +kernel) rfl⟩, ⟨by decide +kernel, by decide +kernel, by decide +kernel⟩, by decide, ⟨_, rfl, rfl⟩⟩
theorem kc_Ways_82 : Cond.constant RX8 82 (Int32.ofInt (536870912)) ∈ TB := tb_mem (i := 991) (by decide +kernel) rfl
theorem lk_Ways_83 : LV RX8 83 M_Ways_findFarTwo 0 8 := ⟨⟨tb_mem (i := 993) (by decide +kernel) rfl, tb_mem (i := 995) (by decide +kernel) rfl, tb_mem (i := 29) (by decide +kernel) rfl, tb_mem (i := 139) (by decide +kernel) rfl, tb_mem (i := 996) (by decide +kernel) rfl⟩, ⟨by decide +kernel, by decide +kernel, by decide +kernel⟩, by decide, ⟨_, rfl, rfl⟩⟩
theorem lk_Ways_86 : LV RX8 86 M_Steps_costOf 2 5 := ⟨⟨tb_mem (i := 990) (by decide +kernel) rfl, tb_mem (i := 966) (by decide +kernel) rfl, tb_mem (i := 967) (by decide +kernel) rfl, tb_mem (i := 138) (by decide +kernel) rfl, tb_mem (i := 968) (by decide +kernel) rfl⟩, ⟨by decide +kernel, by decide +kernel, by decide +kernel⟩, by decide, ⟨_, rfl, rfl⟩⟩
theorem fl_Ways_90 : FL RX8 90 8 9 := ⟨cl_8, ⟨_, rfl, by decide, tb_mem (i := 375) (by decide +kernel) rfl⟩⟩
theorem fp_Ways_90 : FP RX8 90 8 9 .int := ⟨fl_Ways_90, ⟨_, rfl, rfl, tyX8_ok 9 (by decide)⟩⟩
theorem fl_Ways_93 : FL RX8 93 8 10 := ⟨cl_8, ⟨_, rfl, by decide, tb_mem (i := 377) (by decide +kernel) rfl⟩⟩
theorem fp_Ways_93 : FP RX8 93 8 10 .int := ⟨fl_Ways_93, ⟨_, rfl, rfl, tyX8_ok 10 (by decide)⟩⟩
theorem fl_Ways_96 : FL RX8 96 8 11 := ⟨cl_8, ⟨_, rfl, by decide, tb_mem (i := 379) (by decide +kernel) rfl⟩⟩
theorem fp_Ways_96 : FP RX8 96 8 11 .int := ⟨fl_Ways_96, ⟨_, rfl, rfl, tyX8_ok 11 (by decide)⟩⟩
theorem lk_Ways_99 : LV RX8 99 M_Ways_isWay 2 8 := ⟨⟨tb_mem (i := 997) (by decide +kernel) rfl, tb_mem (i := 998) (by decide +kernel) rfl, tb_mem (i := 999) (by decide +kernel) rfl, tb_mem (i := 139) (by decide +kernel) rfl, tb_mem (i := 1000) (by decide +kernel) rfl⟩, ⟨by decide +kernel, by decide +kernel, by decide +kernel⟩, by decide, ⟨_, rfl, rfl⟩⟩
theorem lk_Ways_102 : LV RX8 102 M_Ways_costOf 2 8 := ⟨⟨tb_mem (i := 1001) (by decide +kernel) rfl, tb_mem (i := 1002) (by decide +kernel) rfl, tb_mem (i := 1003) (by decide +kernel) rfl, tb_mem (i := 139) (by decide +kernel) rfl, tb_mem (i := 1004) (by decide +kernel) rfl⟩, ⟨by decide +kernel, by decide +kernel, by decide +kernel⟩, by decide, ⟨_, rfl, rfl⟩⟩
theorem lk_Ways_103 : LV RX8 103 M_Ways_stepToward 2 8 := ⟨⟨tb_mem (i := 1015) (by decide +kernel) rfl, tb_mem (i := 1017) (by decide +kernel) rfl, tb_mem (i := 30) (by decide +kernel) rfl, tb_mem (i := 139) (by decide +kernel) rfl, tb_mem (i := 1018) (by decide +kernel) rfl⟩, ⟨by decide +kernel, by decide +kernel, by decide +kernel⟩, by decide, ⟨_, rfl, rfl⟩⟩
theorem lk_Ways_106 : LV RX8 106 M_Steps_leads 2 5 := ⟨⟨tb_mem (i := 1019) (by decide +kernel) rfl, tb_mem (i := 1020) (by decide +kernel) rfl, tb_mem (i := 1021) (by decide +kernel) rfl, tb_mem (i := 138) (by decide +kernel) rfl, tb_mem (i := 1022) (by decide +kernel) rfl⟩, ⟨by decide +kernel, by decide +kernel, by decide +kernel⟩, by decide, ⟨_, rfl, rfl⟩⟩
theorem lk_Ways_109 : LV RX8 109 M_Ways_nearestUndone 1 8 := ⟨⟨tb_mem (i := 1032) (by decide +kernel) rfl, tb_mem (i := 1034) (by decide +kernel) rfl, tb_mem (i := 31) (by decide +kernel) rfl, tb_mem (i := 139) (by decide +kernel) rfl, tb_mem (i := 1035) (by decide +kernel) rfl⟩, ⟨by decide +kernel, by decide +kernel, by decide +kernel⟩, by decide, ⟨_, rfl, rfl⟩⟩
theorem lk_Ways_113 : LV RX8 113 M_Ways_countOnward 2 8 := ⟨⟨tb_mem (i := 1036) (by decide +kernel) rfl, tb_mem (i := 1038) (by decide +kernel) rfl, tb_mem (i := 32) (by decide +kernel) rfl, tb_mem (i := 139) (by decide +kernel) rfl, tb_mem (i := 1039) (by decide +kernel) rfl⟩, ⟨by decide +kernel, by decide +kernel, by decide +kernel⟩, by decide, ⟨_, rfl, rfl⟩⟩
theorem lk_Ways_117 : LV RX8 117 M_Ways_reachesWithout 3 8 := ⟨⟨tb_mem (i := 1061) (by decide +kernel) rfl, tb_mem (i := 1063) (by decide +kernel) rfl, tb_mem (i := 34) (by decide +kernel) rfl, tb_mem (i := 139) (by decide +kernel) rfl, tb_mem (i := 1064) (by decide +kernel) rfl⟩, ⟨by decide +kernel, by decide +kernel, by decide +kernel⟩, by decide, ⟨_, rfl, rfl⟩⟩
theorem kc_Ways_121 : Cond.constantLong RX8 121 (Int64.ofInt (-1)) ∈ TB := tb_mem (i := 1065) (by decide +kernel) rfl
theorem fl_Ways_123 : FL RX8 123 8 12 := ⟨cl_8, ⟨_, rfl, by decide, tb_mem (i := 382) (by decide +kernel) rfl⟩⟩
theorem fp_Ways_123 : FP RX8 123 8 12 .int := ⟨fl_Ways_123, ⟨_, rfl, rfl, tyX8_ok 12 (by decide)⟩⟩
theorem fl_Ways_126 : FL RX8 126 8 13 := ⟨cl_8, ⟨_, rfl, by decide, tb_mem (i := 384) (by decide +kernel) rfl⟩⟩
theorem fp_Ways_126 : FP RX8 126 8 13 .int := ⟨fl_Ways_126, ⟨_, rfl, rfl, tyX8_ok 13 (by decide)⟩⟩
theorem lk_Ways_129 : LV RX8 129 M_Ways_twosBy 1 8 := ⟨⟨tb_mem (i := 1088) (by decide +kernel) rfl, tb_mem (i := 1090) (by decide +kernel) rfl, tb_mem (i := 35) (by decide +kernel) rfl, tb_mem (i := 139) (by decide +kernel) rfl, tb_mem (i := 1091) (by decide +kernel) rfl⟩, ⟨by decide +kernel, by decide +kernel, by decide +kernel⟩, by decide, ⟨_, rfl, rfl⟩⟩
theorem lk_Ways_138 : LV RX8 138 M_Ways_walksInto 1 8 := ⟨⟨tb_mem (i := 1169) (by decide +kernel) rfl, tb_mem (i := 1171) (by decide +kernel) rfl, tb_mem (i := 46) (by decide +kernel) rfl, tb_mem (i := 139) (by decide +kernel) rfl, tb_mem (i := 1172) (by decide +kernel) rfl⟩, ⟨by decide +kernel, by decide +kernel, by decide +kernel⟩, by decide, ⟨_, rfl, rfl⟩⟩
theorem fl_Words_11 : FL RX9 11 9 0 := ⟨cl_9, ⟨_, rfl, by decide, tb_mem (i := 189) (by decide +kernel) rfl⟩⟩
theorem fl_Words_16 : FL RX9 16 9 1 := ⟨cl_9, ⟨_, rfl, by decide, tb_mem (i := 194) (by decide +kernel) rfl⟩⟩
theorem fl_Words_20 : FL RX9 20 9 2 := ⟨cl_9, ⟨_, rfl, by decide, tb_mem (i := 200) (by decide +kernel) rfl⟩⟩
theorem fl_Words_24 : FL RX9 24 9 3 := ⟨cl_9, ⟨_, rfl, by decide, tb_mem (i := 202) (by decide +kernel) rfl⟩⟩
theorem fl_Words_27 : FL RX9 27 9 4 := ⟨cl_9, ⟨_, rfl, by decide, tb_mem (i := 205) (by decide +kernel) rfl⟩⟩
theorem fl_Words_30 : FL RX9 30 9 5 := ⟨cl_9, ⟨_, rfl, by decide, tb_mem (i := 206) (by decide +kernel) rfl⟩⟩
theorem fl_Words_34 : FL RX9 34 9 7 := ⟨cl_9, ⟨_, rfl, by decide, tb_mem (i := 214) (by decide +kernel) rfl⟩⟩
theorem fp_Words_34 : FP RX9 34 9 7 .int := ⟨fl_Words_34, ⟨_, rfl, rfl, tyX9_ok 7 (by decide)⟩⟩
theorem lk_Words_38 : LSt RX9 38 M_Words_lengthOfKey 1 := ⟨⟨tb_mem (i := 669) (by decide +kernel) rfl, tb_mem (i := 670) (by decide +kernel) rfl, tb_mem (i := 135) (by decide +kernel) rfl, tb_mem (i := 671) (by decide +kernel) rfl⟩, ⟨by decide +kernel, by decide +kernel, by decide +kernel⟩, by decide⟩
theorem fl_Words_42 : FL RX9 42 9 6 := ⟨cl_9, ⟨_, rfl, by decide, tb_mem (i := 213) (by decide +kernel) rfl⟩⟩
theorem fp_Words_42 : FP RX9 42 9 6 .int := ⟨fl_Words_42, ⟨_, rfl, rfl, tyX9_ok 6 (by decide)⟩⟩
theorem lk_Words_45 : LV RX9 45 M_Words_has 1 9 := ⟨⟨tb_mem (i := 934) (by decide +kernel) rfl, tb_mem (i := 714) (by decide +kernel) rfl, tb_mem (i := 715) (by decide +kernel) rfl, tb_mem (i := 135) (by decide +kernel) rfl, tb_mem (i := 716) (by decide +kernel) rfl⟩, ⟨by decide +kernel, by decide +kernel, by decide +kernel⟩, by decide, ⟨_, rfl, rfl⟩⟩
theorem fl_Words_49 : FL RX9 49 9 8 := ⟨cl_9, ⟨_, rfl, by decide, tb_mem (i := 216) (by decide +kernel) rfl⟩⟩
theorem fp_Words_49 : FP RX9 49 9 8 .long := ⟨fl_Words_49, ⟨_, rfl, rfl, tyX9_ok 8 (by decide)⟩⟩
theorem lk_Words_53 : LSt RX9 53 M_Words_letterOfKey 2 := ⟨⟨tb_mem (i := 672) (by decide +kernel) rfl, tb_mem (i := 673) (by decide +kernel) rfl, tb_mem (i := 135) (by decide +kernel) rfl, tb_mem (i := 674) (by decide +kernel) rfl⟩, ⟨by decide +kernel, by decide +kernel, by decide +kernel⟩, by decide⟩
theorem lk_Words_57 : LV RX9 57 M_Words_findUsed 0 9 := ⟨⟨tb_mem (i := 675) (by decide +kernel) rfl, tb_mem (i := 677) (by decide +kernel) rfl, tb_mem (i := 0) (by decide +kernel) rfl, tb_mem (i := 135) (by decide +kernel) rfl, tb_mem (i := 678) (by decide +kernel) rfl⟩, ⟨by decide +kernel, by decide +kernel, by decide +kernel⟩, by decide, ⟨_, rfl, rfl⟩⟩
theorem fl_Words_60 : FL RX9 60 9 9 := ⟨cl_9, ⟨_, rfl, by decide, tb_mem (i := 220) (by decide +kernel) rfl⟩⟩
theorem fp_Words_60 : FP RX9 60 9 9 .int := ⟨fl_Words_60, ⟨_, rfl, rfl, tyX9_ok 9 (by decide)⟩⟩
theorem fl_M_7 : FL RX11 7 11 3 := ⟨cl_11, ⟨_, rfl, by decide, tb_mem (i := 1376) (by decide +kernel) rfl⟩⟩
theorem fl_M_13 : FL RX11 13 11 4 := ⟨cl_11, ⟨_, rfl, by decide, tb_mem (i := 1377) (by decide +kernel) rfl⟩⟩
theorem fl_M_16 : FL RX11 16 11 5 := ⟨cl_11, ⟨_, rfl, by decide, tb_mem (i := 1378) (by decide +kernel) rfl⟩⟩
theorem fl_M_19 : FL RX11 19 11 6 := ⟨cl_11, ⟨_, rfl, by decide, tb_mem (i := 1379) (by decide +kernel) rfl⟩⟩
theorem fl_M_22 : FL RX11 22 11 7 := ⟨cl_11, ⟨_, rfl, by decide, tb_mem (i := 1380) (by decide +kernel) rfl⟩⟩
theorem fl_M_26 : FL RX11 26 11 8 := ⟨cl_11, ⟨_, rfl, by decide, tb_mem (i := 1381) (by decide +kernel) rfl⟩⟩
theorem fl_M_29 : FL RX11 29 11 10 := ⟨cl_11, ⟨_, rfl, by decide, tb_mem (i := 1383) (by decide +kernel) rfl⟩⟩
theorem fl_M_33 : FL RX11 33 11 21 := ⟨cl_11, ⟨_, rfl, by decide, tb_mem (i := 1394) (by decide +kernel) rfl⟩⟩
theorem fl_M_36 : FL RX11 36 11 22 := ⟨cl_11, ⟨_, rfl, by decide, tb_mem (i := 1395) (by decide +kernel) rfl⟩⟩
theorem fl_M_39 : FL RX11 39 11 23 := ⟨cl_11, ⟨_, rfl, by decide, tb_mem (i := 1396) (by decide +kernel) rfl⟩⟩
theorem fl_M_42 : FL RX11 42 11 24 := ⟨cl_11, ⟨_, rfl, by decide, tb_mem (i := 1397) (by decide +kernel) rfl⟩⟩
theorem fl_M_45 : FL RX11 45 11 25 := ⟨cl_11, ⟨_, rfl, by decide, tb_mem (i := 1398) (by decide +kernel) rfl⟩⟩
theorem fl_M_48 : FL RX11 48 11 26 := ⟨cl_11, ⟨_, rfl, by decide, tb_mem (i := 1399) (by decide +kernel) rfl⟩⟩
theorem fl_M_51 : FL RX11 51 11 27 := ⟨cl_11, ⟨_, rfl, by decide, tb_mem (i := 1400) (by decide +kernel) rfl⟩⟩
theorem fl_M_54 : FL RX11 54 11 28 := ⟨cl_11, ⟨_, rfl, by decide, tb_mem (i := 1401) (by decide +kernel) rfl⟩⟩
theorem fl_M_57 : FL RX11 57 11 29 := ⟨cl_11, ⟨_, rfl, by decide, tb_mem (i := 1402) (by decide +kernel) rfl⟩⟩
theorem fl_M_60 : FL RX11 60 11 30 := ⟨cl_11, ⟨_, rfl, by decide, tb_mem (i := 1403) (by decide +kernel) rfl⟩⟩
theorem fl_M_63 : FL RX11 63 11 31 := ⟨cl_11, ⟨_, rfl, by decide, tb_mem (i := 1404) (by decide +kernel) rfl⟩⟩
theorem fl_M_66 : FL RX11 66 11 32 := ⟨cl_11, ⟨_, rfl, by decide, tb_mem (i := 1405) (by decide +kernel) rfl⟩⟩
theorem fl_M_69 : FL RX11 69 11 33 := ⟨cl_11, ⟨_, rfl, by decide, tb_mem (i := 1406) (by decide +kernel) rfl⟩⟩
theorem fl_M_72 : FL RX11 72 11 34 := ⟨cl_11, ⟨_, rfl, by decide, tb_mem (i := 1407) (by decide +kernel) rfl⟩⟩
theorem fl_M_75 : FL RX11 75 11 35 := ⟨cl_11, ⟨_, rfl, by decide, tb_mem (i := 1408) (by decide +kernel) rfl⟩⟩
theorem fl_M_78 : FL RX11 78 11 36 := ⟨cl_11, ⟨_, rfl, by decide, tb_mem (i := 1409) (by decide +kernel) rfl⟩⟩
theorem fl_M_81 : FL RX11 81 11 37 := ⟨cl_11, ⟨_, rfl, by decide, tb_mem (i := 1410) (by decide +kernel) rfl⟩⟩
theorem fl_M_84 : FL RX11 84 11 38 := ⟨cl_11, ⟨_, rfl, by decide, tb_mem (i := 1411) (by decide +kernel) rfl⟩⟩
theorem fl_M_88 : FL RX11 88 11 39 := ⟨cl_11, ⟨_, rfl, by decide, tb_mem (i := 1412) (by decide +kernel) rfl⟩⟩
theorem fl_M_91 : FL RX11 91 11 40 := ⟨cl_11, ⟨_, rfl, by decide, tb_mem (i := 1413) (by decide +kernel) rfl⟩⟩
theorem fl_M_94 : FL RX11 94 11 44 := ⟨cl_11, ⟨_, rfl, by decide, tb_mem (i := 1417) (by decide +kernel) rfl⟩⟩
theorem fl_M_97 : FL RX11 97 11 45 := ⟨cl_11, ⟨_, rfl, by decide, tb_mem (i := 1418) (by decide +kernel) rfl⟩⟩
theorem fl_M_100 : FL RX11 100 11 46 := ⟨cl_11, ⟨_, rfl, by decide, tb_mem (i := 1419) (by decide +kernel) rfl⟩⟩
theorem fl_M_103 : FL RX11 103 11 47 := ⟨cl_11, ⟨_, rfl, by decide, tb_mem (i := 1420) (by decide +kernel) rfl⟩⟩
theorem kc_M_106 : Cond.constant RX11 106 (Int32.ofInt (53248)) ∈ TB := tb_mem (i := 1372) (by decide +kernel) rfl
theorem fl_M_107 : FL RX11 107 11 48 := ⟨cl_11, ⟨_, rfl, by decide, tb_mem (i := 1421) (by decide +kernel) rfl⟩⟩
theorem fl_M_110 : FL RX11 110 11 49 := ⟨cl_11, ⟨_, rfl, by decide, tb_mem (i := 1422) (by decide +kernel) rfl⟩⟩
theorem fl_M_113 : FL RX11 113 11 50 := ⟨cl_11, ⟨_, rfl, by decide, tb_mem (i := 1423) (by decide +kernel) rfl⟩⟩
theorem fl_M_116 : FL RX11 116 11 51 := ⟨cl_11, ⟨_, rfl, by decide, tb_mem (i := 1424) (by decide +kernel) rfl⟩⟩
theorem fl_M_119 : FL RX11 119 11 52 := ⟨cl_11, ⟨_, rfl, by decide, tb_mem (i := 1425) (by decide +kernel) rfl⟩⟩
theorem fl_M_122 : FL RX11 122 11 1 := ⟨cl_11, ⟨_, rfl, by decide, tb_mem (i := 1374) (by decide +kernel) rfl⟩⟩
theorem fp_M_122 : FP RX11 122 11 1 .int := ⟨fl_M_122, ⟨_, rfl, rfl, tyX11_ok 1 (by decide)⟩⟩
theorem fl_M_126 : FL RX11 126 11 2 := ⟨cl_11, ⟨_, rfl, by decide, tb_mem (i := 1375) (by decide +kernel) rfl⟩⟩
theorem fp_M_126 : FP RX11 126 11 2 .int := ⟨fl_M_126, ⟨_, rfl, rfl, tyX11_ok 2 (by decide)⟩⟩
theorem kc_M_129 : Cond.constant RX11 129 (Int32.ofInt (1000000000)) ∈ TB := tb_mem (i := 1674) (by decide +kernel) rfl
theorem fl_M_130 : FL RX11 130 11 0 := ⟨cl_11, ⟨_, rfl, by decide, tb_mem (i := 1373) (by decide +kernel) rfl⟩⟩
theorem fp_M_130 : FP RX11 130 11 0 .int := ⟨fl_M_130, ⟨_, rfl, rfl, tyX11_ok 0 (by decide)⟩⟩
theorem fl_M_133 : FL RX11 133 11 11 := ⟨cl_11, ⟨_, rfl, by decide, tb_mem (i := 1384) (by decide +kernel) rfl⟩⟩
theorem fp_M_133 : FP RX11 133 11 11 .int := ⟨fl_M_133, ⟨_, rfl, rfl, tyX11_ok 11 (by decide)⟩⟩
theorem fl_M_136 : FL RX11 136 11 9 := ⟨cl_11, ⟨_, rfl, by decide, tb_mem (i := 1382) (by decide +kernel) rfl⟩⟩
theorem fp_M_136 : FP RX11 136 11 9 .int := ⟨fl_M_136, ⟨_, rfl, rfl, tyX11_ok 9 (by decide)⟩⟩
theorem lk_M_139 : LSt RX11 139 M_M_in 3 := ⟨⟨tb_mem (i := 1540) (by decide +kernel) rfl, tb_mem (i := 1541) (by decide +kernel) rfl, tb_mem (i := 144) (by decide +kernel) rfl, tb_mem (i := 1542) (by decide +kernel) rfl⟩, ⟨by decide +kernel, by decide +kernel, by decide +kernel⟩, by decide⟩
theorem lk_M_143 : LV RX11 143 M_M_isRow 1 11 := ⟨⟨tb_mem (i := 1551) (by decide +kernel) rfl, tb_mem (i := 1553) (by decide +kernel) rfl, tb_mem (i := 64) (by decide +kernel) rfl, tb_mem (i := 144) (by decide +kernel) rfl, tb_mem (i := 1554) (by decide +kernel) rfl⟩, ⟨by decide +kernel, by decide +kernel, by decide +kernel⟩, by decide, ⟨_, rfl, rfl⟩⟩
theorem lk_M_147 : LV RX11 147 M_M_takesLetters 1 11 := ⟨⟨tb_mem (i := 1543) (by decide +kernel) rfl, tb_mem (i := 1545) (by decide +kernel) rfl, tb_mem (i := 62) (by decide +kernel) rfl, tb_mem (i := 144) (by decide +kernel) rfl, tb_mem (i := 1546) (by decide +kernel) rfl⟩, ⟨by decide +kernel, by decide +kernel, by decide +kernel⟩, by decide, ⟨_, rfl, rfl⟩⟩
theorem lk_M_150 : LV RX11 150 M_M_isRowWord 0 11 := ⟨⟨tb_mem (i := 1547) (by decide +kernel) rfl, tb_mem (i := 1549) (by decide +kernel) rfl, tb_mem (i := 63) (by decide +kernel) rfl, tb_mem (i := 144) (by decide +kernel) rfl, tb_mem (i := 1550) (by decide +kernel) rfl⟩, ⟨by decide +kernel, by decide +kernel, by decide +kernel⟩, by decide, ⟨_, rfl, rfl⟩⟩
theorem lk_M_154 : LV RX11 154 M_M_isWord 1 11 := ⟨⟨tb_mem (i := 1559) (by decide +kernel) rfl, tb_mem (i := 1561) (by decide +kernel) rfl, tb_mem (i := 65) (by decide +kernel) rfl, tb_mem (i := 144) (by decide +kernel) rfl, tb_mem (i := 1562) (by decide +kernel) rfl⟩, ⟨by decide +kernel, by decide +kernel, by decide +kernel⟩, by decide, ⟨_, rfl, rfl⟩⟩
theorem lk_M_157 : LV RX11 157 M_M_types 1 11 := ⟨⟨tb_mem (i := 1579) (by decide +kernel) rfl, tb_mem (i := 1581) (by decide +kernel) rfl, tb_mem (i := 66) (by decide +kernel) rfl, tb_mem (i := 144) (by decide +kernel) rfl, tb_mem (i := 1582) (by decide +kernel) rfl⟩, ⟨by decide +kernel, by decide +kernel, by decide +kernel⟩, by decide, ⟨_, rfl, rfl⟩⟩
theorem fl_M_161 : FL RX11 161 11 12 := ⟨cl_11, ⟨_, rfl, by decide, tb_mem (i := 1385) (by decide +kernel) rfl⟩⟩
theorem fp_M_161 : FP RX11 161 11 12 .int := ⟨fl_M_161, ⟨_, rfl, rfl, tyX11_ok 12 (by decide)⟩⟩
theorem fl_M_164 : FL RX11 164 11 13 := ⟨cl_11, ⟨_, rfl, by decide, tb_mem (i := 1386) (by decide +kernel) rfl⟩⟩
theorem fp_M_164 : FP RX11 164 11 13 .int := ⟨fl_M_164, ⟨_, rfl, rfl, tyX11_ok 13 (by decide)⟩⟩
theorem lk_M_167 : LV RX11 167 M_M_here 0 11 := ⟨⟨tb_mem (i := 1591) (by decide +kernel) rfl, tb_mem (i := 1593) (by decide +kernel) rfl, tb_mem (i := 68) (by decide +kernel) rfl, tb_mem (i := 144) (by decide +kernel) rfl, tb_mem (i := 1594) (by decide +kernel) rfl⟩, ⟨by decide +kernel, by decide +kernel, by decide +kernel⟩, by decide, ⟨_, rfl, rfl⟩⟩
theorem fl_M_171 : FL RX11 171 11 14 := ⟨cl_11, ⟨_, rfl, by decide, tb_mem (i := 1387) (by decide +kernel) rfl⟩⟩
theorem fp_M_171 : FP RX11 171 11 14 .int := ⟨fl_M_171, ⟨_, rfl, rfl, tyX11_ok 14 (by decide)⟩⟩
theorem lk_M_174 : LV RX11 174 M_M_wrongAt 2 11 := ⟨⟨tb_mem (i := 1595) (by decide +kernel) rfl, tb_mem (i := 1597) (by decide +kernel) rfl, tb_mem (i := 69) (by decide +kernel) rfl, tb_mem (i := 144) (by decide +kernel) rfl, tb_mem (i := 1598) (by decide +kernel) rfl⟩, ⟨by decide +kernel, by decide +kernel, by decide +kernel⟩, by decide, ⟨_, rfl, rfl⟩⟩
theorem fl_M_178 : FL RX11 178 11 19 := ⟨cl_11, ⟨_, rfl, by decide, tb_mem (i := 1392) (by decide +kernel) rfl⟩⟩
theorem fp_M_178 : FP RX11 178 11 19 .int := ⟨fl_M_178, ⟨_, rfl, rfl, tyX11_ok 19 (by decide)⟩⟩
theorem lk_M_181 : LV RX11 181 M_M_isDigit 0 11 := ⟨⟨tb_mem (i := 1612) (by decide +kernel) rfl, tb_mem (i := 1614) (by decide +kernel) rfl, tb_mem (i := 73) (by decide +kernel) rfl, tb_mem (i := 144) (by decide +kernel) rfl, tb_mem (i := 1615) (by decide +kernel) rfl⟩, ⟨by decide +kernel, by decide +kernel, by decide +kernel⟩, by decide, ⟨_, rfl, rfl⟩⟩
theorem fl_M_184 : FL RX11 184 11 16 := ⟨cl_11, ⟨_, rfl, by decide, tb_mem (i := 1389) (by decide +kernel) rfl⟩⟩
theorem fp_M_184 : FP RX11 184 11 16 .int := ⟨fl_M_184, ⟨_, rfl, rfl, tyX11_ok 16 (by decide)⟩⟩
theorem kc_M_187 : Cond.constant RX11 187 (Int32.ofInt (1048576)) ∈ TB := tb_mem (i := 1611) (by decide +kernel) rfl
theorem fl_M_188 : FL RX11 188 11 15 := ⟨cl_11, ⟨_, rfl, by decide, tb_mem (i := 1388) (by decide +kernel) rfl⟩⟩
theorem fp_M_188 : FP RX11 188 11 15 .int := ⟨fl_M_188, ⟨_, rfl, rfl, tyX11_ok 15 (by decide)⟩⟩
theorem fl_M_191 : FL RX11 191 11 17 := ⟨cl_11, ⟨_, rfl, by decide, tb_mem (i := 1390) (by decide +kernel) rfl⟩⟩
theorem fp_M_191 : FP RX11 191 11 17 .int := ⟨fl_M_191, ⟨_, rfl, rfl, tyX11_ok 17 (by decide)⟩⟩
theorem lk_M_194 : LV RX11 194 M_M_top 0 11 := ⟨⟨tb_mem (i := 1634) (by decide +kernel) rfl, tb_mem (i := 1636) (by decide +kernel) rfl, tb_mem (i := 77) (by decide +kernel) rfl, tb_mem (i := 144) (by decide +kernel) rfl, tb_mem (i := 1637) (by decide +kernel) rfl⟩, ⟨by decide +kernel, by decide +kernel, by decide +kernel⟩, by decide, ⟨_, rfl, rfl⟩⟩
theorem lk_M_197 : LV RX11 197 M_M_notes 2 11 := ⟨⟨tb_mem (i := 1620) (by decide +kernel) rfl, tb_mem (i := 1622) (by decide +kernel) rfl, tb_mem (i := 75) (by decide +kernel) rfl, tb_mem (i := 144) (by decide +kernel) rfl, tb_mem (i := 1623) (by decide +kernel) rfl⟩, ⟨by decide +kernel, by decide +kernel, by decide +kernel⟩, by decide, ⟨_, rfl, rfl⟩⟩
theorem lk_M_201 : LV RX11 201 M_M_opens 1 11 := ⟨⟨tb_mem (i := 1607) (by decide +kernel) rfl, tb_mem (i := 1609) (by decide +kernel) rfl, tb_mem (i := 72) (by decide +kernel) rfl, tb_mem (i := 144) (by decide +kernel) rfl, tb_mem (i := 1610) (by decide +kernel) rfl⟩, ⟨by decide +kernel, by decide +kernel, by decide +kernel⟩, by decide, ⟨_, rfl, rfl⟩⟩
theorem lk_M_204 : LV RX11 204 M_M_readsNumber 0 11 := ⟨⟨tb_mem (i := 1616) (by decide +kernel) rfl, tb_mem (i := 1618) (by decide +kernel) rfl, tb_mem (i := 74) (by decide +kernel) rfl, tb_mem (i := 144) (by decide +kernel) rfl, tb_mem (i := 1619) (by decide +kernel) rfl⟩, ⟨by decide +kernel, by decide +kernel, by decide +kernel⟩, by decide, ⟨_, rfl, rfl⟩⟩
theorem lk_M_207 : LSt RX11 207 M_M_factOf 1 := ⟨⟨tb_mem (i := 1624) (by decide +kernel) rfl, tb_mem (i := 1625) (by decide +kernel) rfl, tb_mem (i := 144) (by decide +kernel) rfl, tb_mem (i := 1626) (by decide +kernel) rfl⟩, ⟨by decide +kernel, by decide +kernel, by decide +kernel⟩, by decide⟩
theorem lk_M_211 : LV RX11 211 M_M_readsFactor 0 11 := ⟨⟨tb_mem (i := 1603) (by decide +kernel) rfl, tb_mem (i := 1605) (by decide +kernel) rfl, tb_mem (i := 71) (by decide +kernel) rfl, tb_mem (i := 144) (by decide +kernel) rfl, tb_mem (i := 1606) (by decide +kernel) rfl⟩, ⟨by decide +kernel, by decide +kernel, by decide +kernel⟩, by decide, ⟨_, rfl, rfl⟩⟩
theorem lk_M_214 : LSt RX11 214 M_M_sumSign 1 := ⟨⟨tb_mem (i := 1627) (by decide +kernel) rfl, tb_mem (i := 1628) (by decide +kernel) rfl, tb_mem (i := 144) (by decide +kernel) rfl, tb_mem (i := 1629) (by decide +kernel) rfl⟩, ⟨by decide +kernel, by decide +kernel, by decide +kernel⟩, by decide⟩
theorem lk_M_217 : LV RX11 217 M_M_closesSums 1 11 := ⟨⟨tb_mem (i := 1630) (by decide +kernel) rfl, tb_mem (i := 1632) (by decide +kernel) rfl, tb_mem (i := 76) (by decide +kernel) rfl, tb_mem (i := 144) (by decide +kernel) rfl, tb_mem (i := 1633) (by decide +kernel) rfl⟩, ⟨by decide +kernel, by decide +kernel, by decide +kernel⟩, by decide, ⟨_, rfl, rfl⟩⟩
theorem lk_M_221 : LV RX11 221 M_M_hasOpenSum 1 11 := ⟨⟨tb_mem (i := 1638) (by decide +kernel) rfl, tb_mem (i := 1640) (by decide +kernel) rfl, tb_mem (i := 78) (by decide +kernel) rfl, tb_mem (i := 144) (by decide +kernel) rfl, tb_mem (i := 1641) (by decide +kernel) rfl⟩, ⟨by decide +kernel, by decide +kernel, by decide +kernel⟩, by decide, ⟨_, rfl, rfl⟩⟩
theorem lk_M_224 : LV RX11 224 M_M_readsSum 0 11 := ⟨⟨tb_mem (i := 1599) (by decide +kernel) rfl, tb_mem (i := 1601) (by decide +kernel) rfl, tb_mem (i := 70) (by decide +kernel) rfl, tb_mem (i := 144) (by decide +kernel) rfl, tb_mem (i := 1602) (by decide +kernel) rfl⟩, ⟨by decide +kernel, by decide +kernel, by decide +kernel⟩, by decide, ⟨_, rfl, rfl⟩⟩
theorem lk_M_227 : LV RX11 227 M_M_endsPiece 0 11 := ⟨⟨tb_mem (i := 1650) (by decide +kernel) rfl, tb_mem (i := 1652) (by decide +kernel) rfl, tb_mem (i := 81) (by decide +kernel) rfl, tb_mem (i := 144) (by decide +kernel) rfl, tb_mem (i := 1653) (by decide +kernel) rfl⟩, ⟨by decide +kernel, by decide +kernel, by decide +kernel⟩, by decide, ⟨_, rfl, rfl⟩⟩
theorem lk_M_230 : LV RX11 230 M_M_readsCompared 0 11 := ⟨⟨tb_mem (i := 1646) (by decide +kernel) rfl, tb_mem (i := 1648) (by decide +kernel) rfl, tb_mem (i := 80) (by decide +kernel) rfl, tb_mem (i := 144) (by decide +kernel) rfl, tb_mem (i := 1649) (by decide +kernel) rfl⟩, ⟨by decide +kernel, by decide +kernel, by decide +kernel⟩, by decide, ⟨_, rfl, rfl⟩⟩
theorem lk_M_233 : LV RX11 233 M_M_lands 1 11 := ⟨⟨tb_mem (i := 1654) (by decide +kernel) rfl, tb_mem (i := 1656) (by decide +kernel) rfl, tb_mem (i := 82) (by decide +kernel) rfl, tb_mem (i := 144) (by decide +kernel) rfl, tb_mem (i := 1657) (by decide +kernel) rfl⟩, ⟨by decide +kernel, by decide +kernel, by decide +kernel⟩, by decide, ⟨_, rfl, rfl⟩⟩
theorem lk_M_236 : LV RX11 236 M_M_jumps 1 11 := ⟨⟨tb_mem (i := 1658) (by decide +kernel) rfl, tb_mem (i := 1660) (by decide +kernel) rfl, tb_mem (i := 83) (by decide +kernel) rfl, tb_mem (i := 144) (by decide +kernel) rfl, tb_mem (i := 1661) (by decide +kernel) rfl⟩, ⟨by decide +kernel, by decide +kernel, by decide +kernel⟩, by decide, ⟨_, rfl, rfl⟩⟩
theorem fl_M_239 : FL RX11 239 11 18 := ⟨cl_11, ⟨_, rfl, by decide, tb_mem (i := 1391) (by decide +kernel) rfl⟩⟩
theorem fp_M_239 : FP RX11 239 11 18 .int := ⟨fl_M_239, ⟨_, rfl, rfl, tyX11_ok 18 (by decide)⟩⟩
theorem lk_M_242 : LV RX11 242 M_M_readsCondition 0 11 := ⟨⟨tb_mem (i := 1642) (by decide +kernel) rfl, tb_mem (i := 1644) (by decide +kernel) rfl, tb_mem (i := 79) (by decide +kernel) rfl, tb_mem (i := 144) (by decide +kernel) rfl, tb_mem (i := 1645) (by decide +kernel) rfl⟩, ⟨by decide +kernel, by decide +kernel, by decide +kernel⟩, by decide, ⟨_, rfl, rfl⟩⟩
theorem lk_M_245 : LV RX11 245 M_M_readsClause 0 11 := ⟨⟨tb_mem (i := 1587) (by decide +kernel) rfl, tb_mem (i := 1589) (by decide +kernel) rfl, tb_mem (i := 67) (by decide +kernel) rfl, tb_mem (i := 144) (by decide +kernel) rfl, tb_mem (i := 1590) (by decide +kernel) rfl⟩, ⟨by decide +kernel, by decide +kernel, by decide +kernel⟩, by decide, ⟨_, rfl, rfl⟩⟩
theorem lk_M_248 : LV RX11 248 M_M_takes 1 11 := ⟨⟨tb_mem (i := 1662) (by decide +kernel) rfl, tb_mem (i := 1664) (by decide +kernel) rfl, tb_mem (i := 84) (by decide +kernel) rfl, tb_mem (i := 144) (by decide +kernel) rfl, tb_mem (i := 1665) (by decide +kernel) rfl⟩, ⟨by decide +kernel, by decide +kernel, by decide +kernel⟩, by decide, ⟨_, rfl, rfl⟩⟩
theorem fl_M_251 : FL RX11 251 11 20 := ⟨cl_11, ⟨_, rfl, by decide, tb_mem (i := 1393) (by decide +kernel) rfl⟩⟩
theorem fp_M_251 : FP RX11 251 11 20 .int := ⟨fl_M_251, ⟨_, rfl, rfl, tyX11_ok 20 (by decide)⟩⟩
theorem lk_M_254 : LSt RX11 254 M_M_reckon 3 := ⟨⟨tb_mem (i := 1715) (by decide +kernel) rfl, tb_mem (i := 1716) (by decide +kernel) rfl, tb_mem (i := 144) (by decide +kernel) rfl, tb_mem (i := 1717) (by decide +kernel) rfl⟩, ⟨by decide +kernel, by decide +kernel, by decide +kernel⟩, by decide⟩
theorem lk_M_258 : LV RX11 258 M_M_comesTo 2 11 := ⟨⟨tb_mem (i := 1711) (by decide +kernel) rfl, tb_mem (i := 1713) (by decide +kernel) rfl, tb_mem (i := 95) (by decide +kernel) rfl, tb_mem (i := 144) (by decide +kernel) rfl, tb_mem (i := 1714) (by decide +kernel) rfl⟩, ⟨by decide +kernel, by decide +kernel, by decide +kernel⟩, by decide, ⟨_, rfl, rfl⟩⟩
theorem lk_M_262 : LV RX11 262 M_M_letter 2 11 := ⟨⟨tb_mem (i := 1691) (by decide +kernel) rfl, tb_mem (i := 1693) (by decide +kernel) rfl, tb_mem (i := 90) (by decide +kernel) rfl, tb_mem (i := 144) (by decide +kernel) rfl, tb_mem (i := 1694) (by decide +kernel) rfl⟩, ⟨by decide +kernel, by decide +kernel, by decide +kernel⟩, by decide, ⟨_, rfl, rfl⟩⟩
theorem lk_M_265 : LV RX11 265 M_M_areAlikeBut 4 11 := ⟨⟨tb_mem (i := 1695) (by decide +kernel) rfl, tb_mem (i := 1697) (by decide +kernel) rfl, tb_mem (i := 91) (by decide +kernel) rfl, tb_mem (i := 144) (by decide +kernel) rfl, tb_mem (i := 1698) (by decide +kernel) rfl⟩, ⟨by decide +kernel, by decide +kernel, by decide +kernel⟩, by decide, ⟨_, rfl, rfl⟩⟩
theorem lk_M_269 : LV RX11 269 M_M_isWithout 3 11 := ⟨⟨tb_mem (i := 1699) (by decide +kernel) rfl, tb_mem (i := 1701) (by decide +kernel) rfl, tb_mem (i := 92) (by decide +kernel) rfl, tb_mem (i := 144) (by decide +kernel) rfl, tb_mem (i := 1702) (by decide +kernel) rfl⟩, ⟨by decide +kernel, by decide +kernel, by decide +kernel⟩, by decide, ⟨_, rfl, rfl⟩⟩
theorem lk_M_272 : LV RX11 272 M_M_isChange 4 11 := ⟨⟨tb_mem (i := 1687) (by decide +kernel) rfl, tb_mem (i := 1689) (by decide +kernel) rfl, tb_mem (i := 89) (by decide +kernel) rfl, tb_mem (i := 144) (by decide +kernel) rfl, tb_mem (i := 1690) (by decide +kernel) rfl⟩, ⟨by decide +kernel, by decide +kernel, by decide +kernel⟩, by decide, ⟨_, rfl, rfl⟩⟩
theorem lk_M_275 : LV RX11 275 M_M_feels 4 11 := ⟨⟨tb_mem (i := 1703) (by decide +kernel) rfl, tb_mem (i := 1705) (by decide +kernel) rfl, tb_mem (i := 93) (by decide +kernel) rfl, tb_mem (i := 144) (by decide +kernel) rfl, tb_mem (i := 1706) (by decide +kernel) rfl⟩, ⟨by decide +kernel, by decide +kernel, by decide +kernel⟩, by decide, ⟨_, rfl, rfl⟩⟩
theorem lk_M_279 : LV RX11 279 M_M_costOf 0 11 := ⟨⟨tb_mem (i := 1707) (by decide +kernel) rfl, tb_mem (i := 1709) (by decide +kernel) rfl, tb_mem (i := 94) (by decide +kernel) rfl, tb_mem (i := 144) (by decide +kernel) rfl, tb_mem (i := 1710) (by decide +kernel) rfl⟩, ⟨by decide +kernel, by decide +kernel, by decide +kernel⟩, by decide, ⟨_, rfl, rfl⟩⟩
theorem lk_M_282 : LV RX11 282 M_M_isUsed 1 11 := ⟨⟨tb_mem (i := 1675) (by decide +kernel) rfl, tb_mem (i := 1677) (by decide +kernel) rfl, tb_mem (i := 86) (by decide +kernel) rfl, tb_mem (i := 144) (by decide +kernel) rfl, tb_mem (i := 1678) (by decide +kernel) rfl⟩, ⟨by decide +kernel, by decide +kernel, by decide +kernel⟩, by decide, ⟨_, rfl, rfl⟩⟩
theorem lk_M_285 : LV RX11 285 M_M_mayNear 2 11 := ⟨⟨tb_mem (i := 1679) (by decide +kernel) rfl, tb_mem (i := 1681) (by decide +kernel) rfl, tb_mem (i := 87) (by decide +kernel) rfl, tb_mem (i := 144) (by decide +kernel) rfl, tb_mem (i := 1682) (by decide +kernel) rfl⟩, ⟨by decide +kernel, by decide +kernel, by decide +kernel⟩, by decide, ⟨_, rfl, rfl⟩⟩
theorem lk_M_288 : LV RX11 288 M_M_laysStep 2 11 := ⟨⟨tb_mem (i := 1683) (by decide +kernel) rfl, tb_mem (i := 1685) (by decide +kernel) rfl, tb_mem (i := 88) (by decide +kernel) rfl, tb_mem (i := 144) (by decide +kernel) rfl, tb_mem (i := 1686) (by decide +kernel) rfl⟩, ⟨by decide +kernel, by decide +kernel, by decide +kernel⟩, by decide, ⟨_, rfl, rfl⟩⟩
theorem lk_M_291 : LV RX11 291 M_M_laysSteps 0 11 := ⟨⟨tb_mem (i := 1670) (by decide +kernel) rfl, tb_mem (i := 1672) (by decide +kernel) rfl, tb_mem (i := 85) (by decide +kernel) rfl, tb_mem (i := 144) (by decide +kernel) rfl, tb_mem (i := 1673) (by decide +kernel) rfl⟩, ⟨by decide +kernel, by decide +kernel, by decide +kernel⟩, by decide, ⟨_, rfl, rfl⟩⟩
theorem lk_M_294 : LV RX11 294 M_M_isStep 2 11 := ⟨⟨tb_mem (i := 1718) (by decide +kernel) rfl, tb_mem (i := 1720) (by decide +kernel) rfl, tb_mem (i := 96) (by decide +kernel) rfl, tb_mem (i := 144) (by decide +kernel) rfl, tb_mem (i := 1721) (by decide +kernel) rfl⟩, ⟨by decide +kernel, by decide +kernel, by decide +kernel⟩, by decide, ⟨_, rfl, rfl⟩⟩
theorem lk_M_297 : LV RX11 297 M_M_stepWay 2 11 := ⟨⟨tb_mem (i := 1730) (by decide +kernel) rfl, tb_mem (i := 1732) (by decide +kernel) rfl, tb_mem (i := 98) (by decide +kernel) rfl, tb_mem (i := 144) (by decide +kernel) rfl, tb_mem (i := 1733) (by decide +kernel) rfl⟩, ⟨by decide +kernel, by decide +kernel, by decide +kernel⟩, by decide, ⟨_, rfl, rfl⟩⟩
theorem lk_M_300 : LSt RX11 300 M_M_sum 2 := ⟨⟨tb_mem (i := 1734) (by decide +kernel) rfl, tb_mem (i := 1735) (by decide +kernel) rfl, tb_mem (i := 144) (by decide +kernel) rfl, tb_mem (i := 1736) (by decide +kernel) rfl⟩, ⟨by decide +kernel, by decide +kernel, by decide +kernel⟩, by decide⟩
theorem lk_M_303 : LSt RX11 303 M_M_min 2 := ⟨⟨tb_mem (i := 1737) (by decide +kernel) rfl, tb_mem (i := 1738) (by decide +kernel) rfl, tb_mem (i := 144) (by decide +kernel) rfl, tb_mem (i := 1739) (by decide +kernel) rfl⟩, ⟨by decide +kernel, by decide +kernel, by decide +kernel⟩, by decide⟩
theorem lk_M_306 : LV RX11 306 M_M_laysWays 0 11 := ⟨⟨tb_mem (i := 1726) (by decide +kernel) rfl, tb_mem (i := 1728) (by decide +kernel) rfl, tb_mem (i := 97) (by decide +kernel) rfl, tb_mem (i := 144) (by decide +kernel) rfl, tb_mem (i := 1729) (by decide +kernel) rfl⟩, ⟨by decide +kernel, by decide +kernel, by decide +kernel⟩, by decide, ⟨_, rfl, rfl⟩⟩
theorem lk_M_309 : LV RX11 309 M_M_nextOn 2 11 := ⟨⟨tb_mem (i := 1740) (by decide +kernel) rfl, tb_mem (i := 1742) (by decide +kernel) rfl, tb_mem (i := 99) (by decide +kernel) rfl, tb_mem (i := 144) (by decide +kernel) rfl, tb_mem (i := 1743) (by decide +kernel) rfl⟩, ⟨by decide +kernel, by decide +kernel, by decide +kernel⟩, by decide, ⟨_, rfl, rfl⟩⟩
theorem kc_M_312 : Cond.constantLong RX11 312 (Int64.ofInt (-1)) ∈ TB := tb_mem (i := 1748) (by decide +kernel) rfl
theorem lk_M_314 : LV RX11 314 M_M_leastOf 2 11 := ⟨⟨tb_mem (i := 1749) (by decide +kernel) rfl, tb_mem (i := 1751) (by decide +kernel) rfl, tb_mem (i := 100) (by decide +kernel) rfl, tb_mem (i := 144) (by decide +kernel) rfl, tb_mem (i := 1752) (by decide +kernel) rfl⟩, ⟨by decide +kernel, by decide +kernel, by decide +kernel⟩, by decide, ⟨_, rfl, rfl⟩⟩
theorem lk_M_317 : LV RX11 317 M_M_sumOf 3 11 := ⟨⟨tb_mem (i := 1753) (by decide +kernel) rfl, tb_mem (i := 1755) (by decide +kernel) rfl, tb_mem (i := 101) (by decide +kernel) rfl, tb_mem (i := 144) (by decide +kernel) rfl, tb_mem (i := 1756) (by decide +kernel) rfl⟩, ⟨by decide +kernel, by decide +kernel, by decide +kernel⟩, by decide, ⟨_, rfl, rfl⟩⟩
theorem lk_M_321 : LV RX11 321 M_M_comes 3 11 := ⟨⟨tb_mem (i := 1761) (by decide +kernel) rfl, tb_mem (i := 1763) (by decide +kernel) rfl, tb_mem (i := 102) (by decide +kernel) rfl, tb_mem (i := 144) (by decide +kernel) rfl, tb_mem (i := 1764) (by decide +kernel) rfl⟩, ⟨by decide +kernel, by decide +kernel, by decide +kernel⟩, by decide, ⟨_, rfl, rfl⟩⟩
theorem kc_M_324 : Cond.constantLong RX11 324 (Int64.ofInt (-2)) ∈ TB := tb_mem (i := 1765) (by decide +kernel) rfl
theorem lk_M_326 : LV RX11 326 M_M_heapOf 1 11 := ⟨⟨tb_mem (i := 1770) (by decide +kernel) rfl, tb_mem (i := 1772) (by decide +kernel) rfl, tb_mem (i := 103) (by decide +kernel) rfl, tb_mem (i := 144) (by decide +kernel) rfl, tb_mem (i := 1773) (by decide +kernel) rfl⟩, ⟨by decide +kernel, by decide +kernel, by decide +kernel⟩, by decide, ⟨_, rfl, rfl⟩⟩
theorem lk_M_329 : LV RX11 329 M_M_twosBy 1 11 := ⟨⟨tb_mem (i := 1786) (by decide +kernel) rfl, tb_mem (i := 1788) (by decide +kernel) rfl, tb_mem (i := 104) (by decide +kernel) rfl, tb_mem (i := 144) (by decide +kernel) rfl, tb_mem (i := 1789) (by decide +kernel) rfl⟩, ⟨by decide +kernel, by decide +kernel, by decide +kernel⟩, by decide, ⟨_, rfl, rfl⟩⟩
theorem lk_M_332 : LV RX11 332 M_M_isNearAlike 1 11 := ⟨⟨tb_mem (i := 1810) (by decide +kernel) rfl, tb_mem (i := 1812) (by decide +kernel) rfl, tb_mem (i := 109) (by decide +kernel) rfl, tb_mem (i := 144) (by decide +kernel) rfl, tb_mem (i := 1813) (by decide +kernel) rfl⟩, ⟨by decide +kernel, by decide +kernel, by decide +kernel⟩, by decide, ⟨_, rfl, rfl⟩⟩
theorem lk_M_335 : LV RX11 335 M_M_isRowWithout 3 11 := ⟨⟨tb_mem (i := 1814) (by decide +kernel) rfl, tb_mem (i := 1816) (by decide +kernel) rfl, tb_mem (i := 110) (by decide +kernel) rfl, tb_mem (i := 144) (by decide +kernel) rfl, tb_mem (i := 1817) (by decide +kernel) rfl⟩, ⟨by decide +kernel, by decide +kernel, by decide +kernel⟩, by decide, ⟨_, rfl, rfl⟩⟩
theorem fl_M_339 : FL RX11 339 11 43 := ⟨cl_11, ⟨_, rfl, by decide, tb_mem (i := 1416) (by decide +kernel) rfl⟩⟩
theorem fp_M_339 : FP RX11 339 11 43 .int := ⟨fl_M_339, ⟨_, rfl, rfl, tyX11_ok 43 (by decide)⟩⟩
theorem lk_M_342 : LV RX11 342 M_M_isNear 1 11 := ⟨⟨tb_mem (i := 1806) (by decide +kernel) rfl, tb_mem (i := 1808) (by decide +kernel) rfl, tb_mem (i := 108) (by decide +kernel) rfl, tb_mem (i := 144) (by decide +kernel) rfl, tb_mem (i := 1809) (by decide +kernel) rfl⟩, ⟨by decide +kernel, by decide +kernel, by decide +kernel⟩, by decide, ⟨_, rfl, rfl⟩⟩
theorem fl_M_345 : FL RX11 345 11 41 := ⟨cl_11, ⟨_, rfl, by decide, tb_mem (i := 1414) (by decide +kernel) rfl⟩⟩
theorem fp_M_345 : FP RX11 345 11 41 .int := ⟨fl_M_345, ⟨_, rfl, rfl, tyX11_ok 41 (by decide)⟩⟩
theorem fl_M_348 : FL RX11 348 11 42 := ⟨cl_11, ⟨_, rfl, by decide, tb_mem (i := 1415) (by decide +kernel) rfl⟩⟩
theorem fp_M_348 : FP RX11 348 11 42 .int := ⟨fl_M_348, ⟨_, rfl, rfl, tyX11_ok 42 (by decide)⟩⟩
theorem lk_M_351 : LV RX11 351 M_M_isAheadOfNew 0 11 := ⟨⟨tb_mem (i := 1818) (by decide +kernel) rfl, tb_mem (i := 1820) (by decide +kernel) rfl, tb_mem (i := 111) (by decide +kernel) rfl, tb_mem (i := 144) (by decide +kernel) rfl, tb_mem (i := 1821) (by decide +kernel) rfl⟩, ⟨by decide +kernel, by decide +kernel, by decide +kernel⟩, by decide, ⟨_, rfl, rfl⟩⟩
theorem lk_M_354 : LV RX11 354 M_M_putsIn 3 11 := ⟨⟨tb_mem (i := 1798) (by decide +kernel) rfl, tb_mem (i := 1800) (by decide +kernel) rfl, tb_mem (i := 106) (by decide +kernel) rfl, tb_mem (i := 144) (by decide +kernel) rfl, tb_mem (i := 1801) (by decide +kernel) rfl⟩, ⟨by decide +kernel, by decide +kernel, by decide +kernel⟩, by decide, ⟨_, rfl, rfl⟩⟩
theorem lk_M_358 : LV RX11 358 M_M_triesNew 0 11 := ⟨⟨tb_mem (i := 1802) (by decide +kernel) rfl, tb_mem (i := 1804) (by decide +kernel) rfl, tb_mem (i := 107) (by decide +kernel) rfl, tb_mem (i := 144) (by decide +kernel) rfl, tb_mem (i := 1805) (by decide +kernel) rfl⟩, ⟨by decide +kernel, by decide +kernel, by decide +kernel⟩, by decide, ⟨_, rfl, rfl⟩⟩
theorem lk_M_361 : LV RX11 361 M_M_laysRow 1 11 := ⟨⟨tb_mem (i := 1822) (by decide +kernel) rfl, tb_mem (i := 1824) (by decide +kernel) rfl, tb_mem (i := 112) (by decide +kernel) rfl, tb_mem (i := 144) (by decide +kernel) rfl, tb_mem (i := 1825) (by decide +kernel) rfl⟩, ⟨by decide +kernel, by decide +kernel, by decide +kernel⟩, by decide, ⟨_, rfl, rfl⟩⟩
theorem lk_M_364 : LV RX11 364 M_M_leavesOut 2 11 := ⟨⟨tb_mem (i := 1826) (by decide +kernel) rfl, tb_mem (i := 1828) (by decide +kernel) rfl, tb_mem (i := 113) (by decide +kernel) rfl, tb_mem (i := 144) (by decide +kernel) rfl, tb_mem (i := 1829) (by decide +kernel) rfl⟩, ⟨by decide +kernel, by decide +kernel, by decide +kernel⟩, by decide, ⟨_, rfl, rfl⟩⟩
theorem lk_M_367 : LV RX11 367 M_M_triesAbout 1 11 := ⟨⟨tb_mem (i := 1794) (by decide +kernel) rfl, tb_mem (i := 1796) (by decide +kernel) rfl, tb_mem (i := 105) (by decide +kernel) rfl, tb_mem (i := 144) (by decide +kernel) rfl, tb_mem (i := 1797) (by decide +kernel) rfl⟩, ⟨by decide +kernel, by decide +kernel, by decide +kernel⟩, by decide, ⟨_, rfl, rfl⟩⟩
theorem lk_M_370 : LV RX11 370 M_M_stepTold 2 11 := ⟨⟨tb_mem (i := 1854) (by decide +kernel) rfl, tb_mem (i := 1856) (by decide +kernel) rfl, tb_mem (i := 118) (by decide +kernel) rfl, tb_mem (i := 144) (by decide +kernel) rfl, tb_mem (i := 1857) (by decide +kernel) rfl⟩, ⟨by decide +kernel, by decide +kernel, by decide +kernel⟩, by decide, ⟨_, rfl, rfl⟩⟩
theorem lk_M_373 : LV RX11 373 M_M_rowBy 4 11 := ⟨⟨tb_mem (i := 1850) (by decide +kernel) rfl, tb_mem (i := 1852) (by decide +kernel) rfl, tb_mem (i := 117) (by decide +kernel) rfl, tb_mem (i := 144) (by decide +kernel) rfl, tb_mem (i := 1853) (by decide +kernel) rfl⟩, ⟨by decide +kernel, by decide +kernel, by decide +kernel⟩, by decide, ⟨_, rfl, rfl⟩⟩
theorem lk_M_377 : LV RX11 377 M_M_takesWords 1 11 := ⟨⟨tb_mem (i := 1838) (by decide +kernel) rfl, tb_mem (i := 1840) (by decide +kernel) rfl, tb_mem (i := 114) (by decide +kernel) rfl, tb_mem (i := 144) (by decide +kernel) rfl, tb_mem (i := 1841) (by decide +kernel) rfl⟩, ⟨by decide +kernel, by decide +kernel, by decide +kernel⟩, by decide, ⟨_, rfl, rfl⟩⟩
theorem lk_M_380 : LV RX11 380 M_M_areUsed 1 11 := ⟨⟨tb_mem (i := 1842) (by decide +kernel) rfl, tb_mem (i := 1844) (by decide +kernel) rfl, tb_mem (i := 115) (by decide +kernel) rfl, tb_mem (i := 144) (by decide +kernel) rfl, tb_mem (i := 1845) (by decide +kernel) rfl⟩, ⟨by decide +kernel, by decide +kernel, by decide +kernel⟩, by decide, ⟨_, rfl, rfl⟩⟩
theorem lk_M_383 : LV RX11 383 M_M_laysRest 1 11 := ⟨⟨tb_mem (i := 1846) (by decide +kernel) rfl, tb_mem (i := 1848) (by decide +kernel) rfl, tb_mem (i := 116) (by decide +kernel) rfl, tb_mem (i := 144) (by decide +kernel) rfl, tb_mem (i := 1849) (by decide +kernel) rfl⟩, ⟨by decide +kernel, by decide +kernel, by decide +kernel⟩, by decide, ⟨_, rfl, rfl⟩⟩
theorem lk_M_386 : LV RX11 386 M_M_wins 3 11 := ⟨⟨tb_mem (i := 1862) (by decide +kernel) rfl, tb_mem (i := 1864) (by decide +kernel) rfl, tb_mem (i := 119) (by decide +kernel) rfl, tb_mem (i := 144) (by decide +kernel) rfl, tb_mem (i := 1865) (by decide +kernel) rfl⟩, ⟨by decide +kernel, by decide +kernel, by decide +kernel⟩, by decide, ⟨_, rfl, rfl⟩⟩
theorem lk_M_389 : LV RX11 389 M_M_farFromRow 1 11 := ⟨⟨tb_mem (i := 1874) (by decide +kernel) rfl, tb_mem (i := 1876) (by decide +kernel) rfl, tb_mem (i := 121) (by decide +kernel) rfl, tb_mem (i := 144) (by decide +kernel) rfl, tb_mem (i := 1877) (by decide +kernel) rfl⟩, ⟨by decide +kernel, by decide +kernel, by decide +kernel⟩, by decide, ⟨_, rfl, rfl⟩⟩
theorem lk_M_392 : LV RX11 392 M_M_farBetween 2 11 := ⟨⟨tb_mem (i := 1870) (by decide +kernel) rfl, tb_mem (i := 1872) (by decide +kernel) rfl, tb_mem (i := 120) (by decide +kernel) rfl, tb_mem (i := 144) (by decide +kernel) rfl, tb_mem (i := 1873) (by decide +kernel) rfl⟩, ⟨by decide +kernel, by decide +kernel, by decide +kernel⟩, by decide, ⟨_, rfl, rfl⟩⟩
theorem lk_M_395 : LSt RX11 395 M_M_bits 1 := ⟨⟨tb_mem (i := 1886) (by decide +kernel) rfl, tb_mem (i := 1887) (by decide +kernel) rfl, tb_mem (i := 144) (by decide +kernel) rfl, tb_mem (i := 1888) (by decide +kernel) rfl⟩, ⟨by decide +kernel, by decide +kernel, by decide +kernel⟩, by decide⟩
theorem lk_M_398 : LV RX11 398 M_M_isClear 2 11 := ⟨⟨tb_mem (i := 1889) (by decide +kernel) rfl, tb_mem (i := 1891) (by decide +kernel) rfl, tb_mem (i := 122) (by decide +kernel) rfl, tb_mem (i := 144) (by decide +kernel) rfl, tb_mem (i := 1892) (by decide +kernel) rfl⟩, ⟨by decide +kernel, by decide +kernel, by decide +kernel⟩, by decide, ⟨_, rfl, rfl⟩⟩
theorem lk_M_401 : LV RX11 401 M_M_isRubbed 2 11 := ⟨⟨tb_mem (i := 1897) (by decide +kernel) rfl, tb_mem (i := 1899) (by decide +kernel) rfl, tb_mem (i := 123) (by decide +kernel) rfl, tb_mem (i := 144) (by decide +kernel) rfl, tb_mem (i := 1900) (by decide +kernel) rfl⟩, ⟨by decide +kernel, by decide +kernel, by decide +kernel⟩, by decide, ⟨_, rfl, rfl⟩⟩
theorem lk_M_404 : LV RX11 404 M_M_isOf 2 11 := ⟨⟨tb_mem (i := 1909) (by decide +kernel) rfl, tb_mem (i := 1911) (by decide +kernel) rfl, tb_mem (i := 125) (by decide +kernel) rfl, tb_mem (i := 144) (by decide +kernel) rfl, tb_mem (i := 1912) (by decide +kernel) rfl⟩, ⟨by decide +kernel, by decide +kernel, by decide +kernel⟩, by decide, ⟨_, rfl, rfl⟩⟩
theorem lk_M_407 : LV RX11 407 M_M_canColumn 3 11 := ⟨⟨tb_mem (i := 1917) (by decide +kernel) rfl, tb_mem (i := 1919) (by decide +kernel) rfl, tb_mem (i := 127) (by decide +kernel) rfl, tb_mem (i := 144) (by decide +kernel) rfl, tb_mem (i := 1920) (by decide +kernel) rfl⟩, ⟨by decide +kernel, by decide +kernel, by decide +kernel⟩, by decide, ⟨_, rfl, rfl⟩⟩
theorem fl_M_410 : FL RX11 410 11 53 := ⟨cl_11, ⟨_, rfl, by decide, tb_mem (i := 1426) (by decide +kernel) rfl⟩⟩
theorem fp_M_410 : FP RX11 410 11 53 .int := ⟨fl_M_410, ⟨_, rfl, rfl, tyX11_ok 53 (by decide)⟩⟩
theorem lk_M_413 : LV RX11 413 M_M_canRows 2 11 := ⟨⟨tb_mem (i := 1913) (by decide +kernel) rfl, tb_mem (i := 1915) (by decide +kernel) rfl, tb_mem (i := 126) (by decide +kernel) rfl, tb_mem (i := 144) (by decide +kernel) rfl, tb_mem (i := 1916) (by decide +kernel) rfl⟩, ⟨by decide +kernel, by decide +kernel, by decide +kernel⟩, by decide, ⟨_, rfl, rfl⟩⟩
theorem lk_M_416 : LV RX11 416 M_M_laysSquares 1 11 := ⟨⟨tb_mem (i := 1905) (by decide +kernel) rfl, tb_mem (i := 1907) (by decide +kernel) rfl, tb_mem (i := 124) (by decide +kernel) rfl, tb_mem (i := 144) (by decide +kernel) rfl, tb_mem (i := 1908) (by decide +kernel) rfl⟩, ⟨by decide +kernel, by decide +kernel, by decide +kernel⟩, by decide, ⟨_, rfl, rfl⟩⟩
theorem kc_M_419 : Cond.constant RX11 419 (Int32.ofInt (65535)) ∈ TB := tb_mem (i := 1925) (by decide +kernel) rfl
theorem kc_M_420 : Cond.constant RX11 420 (Int32.ofInt (65536)) ∈ TB := tb_mem (i := 1930) (by decide +kernel) rfl
theorem lk_M_421 : LV RX11 421 M_M_stepsFrom 1 11 := ⟨⟨tb_mem (i := 1931) (by decide +kernel) rfl, tb_mem (i := 1933) (by decide +kernel) rfl, tb_mem (i := 128) (by decide +kernel) rfl, tb_mem (i := 144) (by decide +kernel) rfl, tb_mem (i := 1934) (by decide +kernel) rfl⟩, ⟨by decide +kernel, by decide +kernel, by decide +kernel⟩, by decide, ⟨_, rfl, rfl⟩⟩
theorem lk_M_424 : LV RX11 424 M_M_stepTo 2 11 := ⟨⟨tb_mem (i := 1935) (by decide +kernel) rfl, tb_mem (i := 1937) (by decide +kernel) rfl, tb_mem (i := 129) (by decide +kernel) rfl, tb_mem (i := 144) (by decide +kernel) rfl, tb_mem (i := 1938) (by decide +kernel) rfl⟩, ⟨by decide +kernel, by decide +kernel, by decide +kernel⟩, by decide, ⟨_, rfl, rfl⟩⟩
theorem lk_M_427 : LV RX11 427 M_M_tapeNumber 1 11 := ⟨⟨tb_mem (i := 1943) (by decide +kernel) rfl, tb_mem (i := 1945) (by decide +kernel) rfl, tb_mem (i := 130) (by decide +kernel) rfl, tb_mem (i := 144) (by decide +kernel) rfl, tb_mem (i := 1946) (by decide +kernel) rfl⟩, ⟨by decide +kernel, by decide +kernel, by decide +kernel⟩, by decide, ⟨_, rfl, rfl⟩⟩
theorem lk_M_430 : LV RX11 430 M_M_usedMany 0 11 := ⟨⟨tb_mem (i := 1951) (by decide +kernel) rfl, tb_mem (i := 1953) (by decide +kernel) rfl, tb_mem (i := 131) (by decide +kernel) rfl, tb_mem (i := 144) (by decide +kernel) rfl, tb_mem (i := 1954) (by decide +kernel) rfl⟩, ⟨by decide +kernel, by decide +kernel, by decide +kernel⟩, by decide, ⟨_, rfl, rfl⟩⟩
theorem kc_JInteger_265 : Cond.constant RJ6 265 (Int32.ofInt (1431655765)) ∈ TB := tb_mem (i := 1271) (by decide +kernel) rfl
theorem kc_JInteger_266 : Cond.constant RJ6 266 (Int32.ofInt (858993459)) ∈ TB := tb_mem (i := 1272) (by decide +kernel) rfl
theorem kc_JInteger_267 : Cond.constant RJ6 267 (Int32.ofInt (252645135)) ∈ TB := tb_mem (i := 1273) (by decide +kernel) rfl
theorem kc_JLong_314 : Cond.constantLong RJ13 314 (Int64.ofInt (6148914691236517205)) ∈ TB := tb_mem (i := 1141) (by decide +kernel) rfl
theorem kc_JLong_316 : Cond.constantLong RJ13 316 (Int64.ofInt (3689348814741910323)) ∈ TB := tb_mem (i := 1142) (by decide +kernel) rfl
theorem kc_JLong_318 : Cond.constantLong RJ13 318 (Int64.ofInt (1085102592571150095)) ∈ TB := tb_mem (i := 1143) (by decide +kernel) rfl
