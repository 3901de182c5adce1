def zr_w : List Cond := [Cond.code yX11_within cX11_within 6 (some .boolean),
  Cond.code yX11_plain cX11_plain 2 none,
  Cond.methodLink RX11 7 objectInit,
  Cond.instanceMethod objectInit,
  Cond.code objectInit ⟨#[0xb1]⟩ 1 none,
  Cond.arrayClass .int,
  Cond.fieldLink RX11 13 "HermitLadderModel" "all" "[I",
  Cond.arrayClass .boolean,
  Cond.fieldLink RX11 17 "HermitLadderModel" "hasImage" "[Z",
  Cond.fieldLink RX11 21 "HermitLadderModel" "tape" "[I",
  Cond.fieldLink RX11 24 "HermitLadderModel" "fresh" "[I",
  Cond.fieldLink RX11 27 "HermitLadderModel" "faultPlace" "I",
  Cond.fieldLink RX11 30 "HermitLadderModel" "reckoned" "[I",
  Cond.fieldLink RX11 33 "HermitLadderModel" "words" "[I",
  Cond.fieldLink RX11 36 "HermitLadderModel" "was" "[I",
  Cond.fieldLink RX11 39 "HermitLadderModel" "stand" "[I",
  Cond.constant RX11 42 (43200),
  Cond.fieldLink RX11 43 "HermitLadderModel" "then" "[I",
  Cond.fieldLink RX11 46 "HermitLadderModel" "far" "[I",
  Cond.fieldLink RX11 49 "HermitLadderModel" "known" "[Z",
  Cond.arrayClass .long,
  Cond.fieldLink RX11 52 "HermitLadderModel" "many" "[J",
  Cond.fieldLink RX11 56 "HermitLadderModel" "manyThen" "[J",
  Cond.fieldLink RX11 59 "HermitLadderModel" "shared" "[I",
  Cond.fieldLink RX11 62 "HermitLadderModel" "bestShared" "[I",
  Cond.fieldLink RX11 65 "HermitLadderModel" "row" "[I",
  Cond.fieldLink RX11 68 "HermitLadderModel" "first" "[I",
  Cond.fieldLink RX11 71 "HermitLadderModel" "on" "[J",
  Cond.fieldLink RX11 74 "HermitLadderModel" "standBy" "[I",
  Cond.fieldLink RX11 77 "HermitLadderModel" "stood" "[Z",
  Cond.fieldLink RX11 80 "HermitLadderModel" "likely" "[I",
  Cond.fieldLink RX11 83 "HermitLadderModel" "rowSort" "[I",
  Cond.fieldLink RX11 86 "HermitLadderModel" "rowMany" "[I",
  Cond.fieldLink RX11 89 "HermitLadderModel" "numbers" "[J",
  Cond.methodLink RX11 92 yX11_plain,
  Cond.static yX11_plain,
  Cond.initialized RX11,
  Cond.code yX11_init cX11_init 1 none,
  Cond.code yX11_feed cX11_feed 8 (some .int),
  Cond.fieldLink RX11 1 "HermitLadderModel" "thrown" "I",
  Cond.fieldLink RX11 96 "HermitLadderModel" "taped" "I",
  Cond.code yX11_see cX11_see 2 (some .int),
  Cond.fieldLink RX11 99 "HermitLadderModel" "size" "I",
  Cond.code yX11_isSmall cX11_isSmall 1 (some .boolean),
  Cond.code yX11_isDigit cX11_isDigit 1 (some .boolean),
  Cond.fieldLink RX11 114 "HermitLadderModel" "at" "I",
  Cond.fieldLink RX11 117 "HermitLadderModel" "behind" "I",
  Cond.methodLink RX11 104 yJ0_length_8abf5,
  Cond.instanceMethod yJ0_length_8abf5,
  Cond.selects RJ0 yJ0_length_8abf5 yJ0_length_8abf5,
  Cond.initialized RJ0,
  Cond.code yJ0_length_8abf5 cJ0_length_8abf5 1 (some .int),
  Cond.fieldLink RJ0 9 "java/lang/String" "value" "[B",
  Cond.methodLink RJ0 335 yJ0_coder_7d493,
  Cond.instanceMethod yJ0_coder_7d493,
  Cond.selects RJ0 yJ0_coder_7d493 yJ0_coder_7d493,
  Cond.code yJ0_coder_7d493 cJ0_coder_7d493 1 (some .byte),
  Cond.fieldLink RJ0 38 "java/lang/String" "COMPACT_STRINGS" "Z",
  Cond.fieldLink RJ0 15 "java/lang/String" "coder" "B",
  Cond.methodLink RX11 110 yJ0_charAt_5068e,
  Cond.instanceMethod yJ0_charAt_5068e,
  Cond.selects RJ0 yJ0_charAt_5068e yJ0_charAt_5068e,
  Cond.code yJ0_charAt_5068e cJ0_charAt_5068e 2 (some .char),
  Cond.methodLink RJ0 492 yJ0_isLatin1_aae02,
  Cond.instanceMethod yJ0_isLatin1_aae02,
  Cond.selects RJ0 yJ0_isLatin1_aae02 yJ0_isLatin1_aae02,
  Cond.code yJ0_isLatin1_aae02 cJ0_isLatin1_aae02 1 (some .boolean),
  Cond.methodLink RJ0 495 yJ1_charAt_3b067,
  Cond.static yJ1_charAt_3b067,
  Cond.initialized RJ1,
  Cond.code yJ1_charAt_3b067 cJ1_charAt_3b067 2 (some .char),
  Cond.methodLink RJ1 9 yJ0_checkIndex_df160,
  Cond.static yJ0_checkIndex_df160,
  Cond.code yJ0_checkIndex_df160 cJ0_checkIndex_df160 2 none,
  Cond.fieldLink RJ0 1053 "jdk/internal/util/Preconditions" "SIOOBE_FORMATTER" "Ljava/util/function/BiFunction;",
  Cond.methodLink RJ0 1059 yJ3_checkIndex_8e157,
  Cond.static yJ3_checkIndex_8e157,
  Cond.initialized RJ3,
  Cond.code yJ3_checkIndex_8e157 cJ3_checkIndex_8e157 3 (some .int),
  Cond.methodLink RJ0 498 yJ2_charAt_3b067,
  Cond.static yJ2_charAt_3b067,
  Cond.initialized RJ2,
  Cond.code yJ2_charAt_3b067 cJ2_charAt_3b067 2 (some .char),
  Cond.methodLink RJ2 67 yJ2_checkIndex_2214a,
  Cond.static yJ2_checkIndex_2214a,
  Cond.code yJ2_checkIndex_2214a cJ2_checkIndex_2214a 2 none,
  Cond.methodLink RJ2 48 yJ2_length_9d52b,
  Cond.static yJ2_length_9d52b,
  Cond.code yJ2_length_9d52b cJ2_length_9d52b 1 (some .int),
  Cond.methodLink RJ2 414 yJ0_checkIndex_df160,
  Cond.methodLink RJ2 71 yJ2_getChar_3b067,
  Cond.static yJ2_getChar_3b067,
  Cond.code yJ2_getChar_3b067 cJ2_getChar_3b067 2 (some .char),
  Cond.fieldLink RJ2 44 "java/lang/StringUTF16" "$assertionsDisabled" "Z",
  Cond.fieldLink RJ2 59 "java/lang/StringUTF16" "HI_BYTE_SHIFT" "I",
  Cond.fieldLink RJ2 63 "java/lang/StringUTF16" "LO_BYTE_SHIFT" "I",
  Cond.code yX11_keyAt cX11_keyAt 4 (some .int),
  Cond.fieldLink RX11 124 "HermitLadderModel" "kind" "I",
  Cond.fieldLink RX11 137 "HermitLadderModel" "number" "I",
  Cond.methodLink RX11 120 yX11_see,
  Cond.instanceMethod yX11_see,
  Cond.selects RX11 yX11_see yX11_see,
  Cond.methodLink RX11 127 yX11_isSmall,
  Cond.static yX11_isSmall,
  Cond.methodLink RX11 131 yX11_keyAt,
  Cond.instanceMethod yX11_keyAt,
  Cond.selects RX11 yX11_keyAt yX11_keyAt,
  Cond.methodLink RX11 134 yX11_isDigit,
  Cond.static yX11_isDigit,
  Cond.code yX11_next cX11_next 2 none,
  Cond.code yX11_fails cX11_fails 2 none,
  Cond.fieldLink RX11 142 "HermitLadderModel" "wrong" "I",
  Cond.fieldLink RX11 145 "HermitLadderModel" "wrongAt" "I",
  Cond.code yX11_is cX11_is 2 (some .boolean),
  Cond.methodLink RX11 148 yX11_is,
  Cond.instanceMethod yX11_is,
  Cond.selects RX11 yX11_is yX11_is,
  Cond.methodLink RX11 151 yX11_next,
  Cond.instanceMethod yX11_next,
  Cond.selects RX11 yX11_next yX11_next,
  Cond.code yX11_eats cX11_eats 2 (some .boolean),
  Cond.methodLink RX11 154 yX11_fails,
  Cond.instanceMethod yX11_fails,
  Cond.selects RX11 yX11_fails yX11_fails,
  Cond.methodLink RX11 158 yX11_within,
  Cond.static yX11_within,
  Cond.code yX11_takes cX11_takes 4 (some .int),
  Cond.code yX11_isIn cX11_isIn 3 (some .boolean),
  Cond.code yX11_wordOf cX11_wordOf 2 (some .int),
  Cond.fieldLink RX11 162 "HermitLadderModel" "reading" "I",
  Cond.code yX11_codes cX11_codes 2 none,
  Cond.code yX11_goesIn cX11_goesIn 2 (some .boolean),
  Cond.methodLink RX11 165 yX11_codes,
  Cond.instanceMethod yX11_codes,
  Cond.selects RX11 yX11_codes yX11_codes,
  Cond.methodLink RX11 168 yX11_wordOf,
  Cond.instanceMethod yX11_wordOf,
  Cond.selects RX11 yX11_wordOf yX11_wordOf,
  Cond.methodLink RX11 171 yX11_goesIn,
  Cond.instanceMethod yX11_goesIn,
  Cond.selects RX11 yX11_goesIn yX11_goesIn,
  Cond.methodLink RX11 174 yX11_readSum,
  Cond.instanceMethod yX11_readSum,
  Cond.selects RX11 yX11_readSum yX11_readSum,
  Cond.methodLink RX11 177 yX11_eats,
  Cond.instanceMethod yX11_eats,
  Cond.selects RX11 yX11_eats yX11_eats,
  Cond.methodLink RX11 180 yX11_readIf,
  Cond.instanceMethod yX11_readIf,
  Cond.selects RX11 yX11_readIf yX11_readIf,
  Cond.code yX11_readBoth cX11_readBoth 2 none,
  Cond.methodLink RX11 192 yX11_readUnit,
  Cond.instanceMethod yX11_readUnit,
  Cond.selects RX11 yX11_readUnit yX11_readUnit,
  Cond.code yX11_readIf cX11_readIf 2 none,
  Cond.methodLink RX11 183 yX11_readTruth,
  Cond.instanceMethod yX11_readTruth,
  Cond.selects RX11 yX11_readTruth yX11_readTruth,
  Cond.code yX11_readSum cX11_readSum 3 none,
  Cond.methodLink RX11 189 yX11_readTerm,
  Cond.instanceMethod yX11_readTerm,
  Cond.selects RX11 yX11_readTerm yX11_readTerm,
  Cond.code yX11_readTerm cX11_readTerm 2 none,
  Cond.methodLink RX11 186 yX11_readAtom,
  Cond.instanceMethod yX11_readAtom,
  Cond.selects RX11 yX11_readAtom yX11_readAtom,
  Cond.code yX11_readTruth cX11_readTruth 2 none,
  Cond.methodLink RX11 195 yX11_readBoth,
  Cond.instanceMethod yX11_readBoth,
  Cond.selects RX11 yX11_readBoth yX11_readBoth,
  Cond.code yX11_readUnit cX11_readUnit 3 none,
  Cond.code yX11_readAtom cX11_readAtom 2 none,
  Cond.methodLink RX11 198 yX11_takes,
  Cond.instanceMethod yX11_takes,
  Cond.selects RX11 yX11_takes yX11_takes,
  Cond.code yX11_readThing cX11_readThing 1 (some .int),
  Cond.methodLink RX11 202 yX11_readThing,
  Cond.instanceMethod yX11_readThing,
  Cond.selects RX11 yX11_readThing yX11_readThing,
  Cond.code yX11_readFlag cX11_readFlag 2 (some .boolean),
  Cond.methodLink RX11 205 yX11_readFlag,
  Cond.instanceMethod yX11_readFlag,
  Cond.selects RX11 yX11_readFlag yX11_readFlag,
  Cond.code yX11_readHole cX11_readHole 2 none,
  Cond.code yX11_readPilgrim cX11_readPilgrim 1 none,
  Cond.code yX11_readLaw cX11_readLaw 3 none,
  Cond.methodLink RX11 208 yX11_readHole,
  Cond.instanceMethod yX11_readHole,
  Cond.selects RX11 yX11_readHole yX11_readHole,
  Cond.methodLink RX11 211 yX11_readPilgrim,
  Cond.instanceMethod yX11_readPilgrim,
  Cond.selects RX11 yX11_readPilgrim yX11_readPilgrim,
  Cond.methodLink RX11 214 yX11_readLaw,
  Cond.instanceMethod yX11_readLaw,
  Cond.selects RX11 yX11_readLaw yX11_readLaw,
  Cond.code yX11_readLine cX11_readLine 1 none,
  Cond.code yX11_closes cX11_closes 1 none,
  Cond.fieldLink RX11 223 "HermitLadderModel" "faultKind" "I",
  Cond.methodLink RX11 217 yX11_closes,
  Cond.instanceMethod yX11_closes,
  Cond.selects RX11 yX11_closes yX11_closes,
  Cond.methodLink RX11 220 yX11_readLine,
  Cond.instanceMethod yX11_readLine,
  Cond.selects RX11 yX11_readLine yX11_readLine,
  Cond.code yX11_cliff cX11_cliff 3 (some .int),
  Cond.code yX11_fault cX11_fault 2 (some .int),
  Cond.code yX11_isRung cX11_isRung 2 (some .boolean),
  Cond.code yX11_isThing cX11_isThing 3 (some .boolean),
  Cond.code yX11_isSet cX11_isSet 2 (some .boolean),
  Cond.code yX11_bitsOf cX11_bitsOf 3 (some .int),
  Cond.code yX11_rungIn cX11_rungIn 1 (some .int),
  Cond.code yX11_hasIn cX11_hasIn 1 (some .int),
  Cond.code yX11_standOf cX11_standOf 3 (some .int),
  Cond.code yX11_standNow cX11_standNow 1 (some .int),
  Cond.methodLink RX11 226 yX11_standOf,
  Cond.static yX11_standOf,
  Cond.code yX11_isStand cX11_isStand 2 none,
  Cond.methodLink RX11 230 yX11_rungIn,
  Cond.static yX11_rungIn,
  Cond.methodLink RX11 233 yX11_hasIn,
  Cond.static yX11_hasIn,
  Cond.code yX11_between cX11_between 5 (some .int),
  Cond.constantLong RX11 236 (1000000),
  Cond.constantLong RX11 238 (-1000000),
  Cond.code yX11_reckons cX11_reckons 8 (some .int),
  Cond.methodLink RX11 240 yX11_bitsOf,
  Cond.static yX11_bitsOf,
  Cond.methodLink RX11 243 yX11_between,
  Cond.static yX11_between,
  Cond.code yX11_toldMove cX11_toldMove 1 (some .int),
  Cond.code yX11_moveOf cX11_moveOf 3 (some .int),
  Cond.constantLong RX11 246 (2),
  Cond.constantLong RX11 248 (10),
  Cond.constantLong RX11 250 (29),
  Cond.constantLong RX11 256 (20),
  Cond.methodLink RX11 252 yX11_isThing,
  Cond.instanceMethod yX11_isThing,
  Cond.selects RX11 yX11_isThing yX11_isThing,
  Cond.code yX11_isMove cX11_isMove 2 (some .boolean),
  Cond.code yX11_isBarred cX11_isBarred 3 (some .boolean),
  Cond.methodLink RX11 258 yX11_isBarred,
  Cond.instanceMethod yX11_isBarred,
  Cond.selects RX11 yX11_isBarred yX11_isBarred,
  Cond.methodLink RX11 262 yX11_reckons,
  Cond.instanceMethod yX11_reckons,
  Cond.selects RX11 yX11_reckons yX11_reckons,
  Cond.methodLink RX11 265 yX11_isIn,
  Cond.static yX11_isIn,
  Cond.code yX11_whyBy cX11_whyBy 7 (some .int),
  Cond.code yX11_tiredTo cX11_tiredTo 4 (some .int),
  Cond.methodLink RX11 269 yX11_tiredTo,
  Cond.instanceMethod yX11_tiredTo,
  Cond.selects RX11 yX11_tiredTo yX11_tiredTo,
  Cond.code yX11_actedTo cX11_actedTo 6 (some .int),
  Cond.code yX11_hole cX11_hole 3 (some .int),
  Cond.methodLink RX11 272 yX11_isRung,
  Cond.instanceMethod yX11_isRung,
  Cond.selects RX11 yX11_isRung yX11_isRung,
  Cond.methodLink RX11 275 yX11_moveOf,
  Cond.instanceMethod yX11_moveOf,
  Cond.selects RX11 yX11_moveOf yX11_moveOf,
  Cond.methodLink RX11 279 yX11_standNow,
  Cond.instanceMethod yX11_standNow,
  Cond.selects RX11 yX11_standNow yX11_standNow,
  Cond.methodLink RX11 282 yX11_whyBy,
  Cond.instanceMethod yX11_whyBy,
  Cond.selects RX11 yX11_whyBy yX11_whyBy,
  Cond.code yX11_whyAct cX11_whyAct 4 (some .int),
  Cond.methodLink RX11 285 yX11_whyAct,
  Cond.instanceMethod yX11_whyAct,
  Cond.selects RX11 yX11_whyAct yX11_whyAct,
  Cond.code yX11_why cX11_why 2 (some .int),
  Cond.methodLink RX11 288 yX11_actedTo,
  Cond.instanceMethod yX11_actedTo,
  Cond.selects RX11 yX11_actedTo yX11_actedTo,
  Cond.code yX11_by cX11_by 4 (some .int),
  Cond.code yX11_keeps cX11_keeps 2 none,
  Cond.code yX11_isAgain cX11_isAgain 2 none,
  Cond.code yX11_notes cX11_notes 2 none,
  Cond.methodLink RX11 291 yX11_isStand,
  Cond.instanceMethod yX11_isStand,
  Cond.selects RX11 yX11_isStand yX11_isStand,
  Cond.code yX11_acts cX11_acts 2 none,
  Cond.methodLink RX11 294 yX11_keeps,
  Cond.instanceMethod yX11_keeps,
  Cond.selects RX11 yX11_keeps yX11_keeps,
  Cond.methodLink RX11 297 yX11_acts,
  Cond.instanceMethod yX11_acts,
  Cond.selects RX11 yX11_acts yX11_acts,
  Cond.methodLink RX11 300 yX11_notes,
  Cond.instanceMethod yX11_notes,
  Cond.selects RX11 yX11_notes yX11_notes,
  Cond.code yX11_act cX11_act 3 (some .int),
  Cond.code yX11_wind cX11_wind 2 (some .int),
  Cond.constantLong RX11 303 (9),
  Cond.code yX11_habitOf cX11_habitOf 4 (some .int),
  Cond.constantLong RX11 305 (99),
  Cond.methodLink RX11 307 yX11_habitOf,
  Cond.instanceMethod yX11_habitOf,
  Cond.selects RX11 yX11_habitOf yX11_habitOf,
  Cond.code yX11_habit cX11_habit 3 (some .int),
  Cond.code yX11_undo cX11_undo 3 (some .int),
  Cond.constantLong RX11 310 (30),
  Cond.constantLong RX11 312 (39),
  Cond.code yX11_whyNot cX11_whyNot 3 (some .int),
  Cond.code yX11_does cX11_does 2 none,
  Cond.fieldLink RX11 314 "HermitLadderModel" "toldWhy" "I",
  Cond.methodLink RX11 317 yX11_whyNot,
  Cond.instanceMethod yX11_whyNot,
  Cond.selects RX11 yX11_whyNot yX11_whyNot,
  Cond.methodLink RX11 320 yX11_does,
  Cond.instanceMethod yX11_does,
  Cond.selects RX11 yX11_does yX11_does,
  Cond.code yX11_tells cX11_tells 3 (some .int),
  Cond.code yX11_noTray cX11_noTray 2 (some .int),
  Cond.constantLong RX11 323 (3),
  Cond.methodLink RX11 325 yX11_noTray,
  Cond.instanceMethod yX11_noTray,
  Cond.selects RX11 yX11_noTray yX11_noTray,
  Cond.methodLink RX11 328 yX11_tells,
  Cond.instanceMethod yX11_tells,
  Cond.selects RX11 yX11_tells yX11_tells,
  Cond.methodLink RX11 331 yX11_isAgain,
  Cond.instanceMethod yX11_isAgain,
  Cond.selects RX11 yX11_isAgain yX11_isAgain,
  Cond.code yX11_judge cX11_judge 6 (some .int),
  Cond.code yX11_perform cX11_perform 4 (some .int),
  Cond.code yX11_draw cX11_draw 2 (some .int),
  Cond.constant RX11 334 (1103515245),
  Cond.fieldLink RX11 335 "HermitLadderModel" "x" "I",
  Cond.code yX11_drawn cX11_drawn 2 (some .int),
  Cond.methodLink RX11 338 yX11_draw,
  Cond.instanceMethod yX11_draw,
  Cond.selects RX11 yX11_draw yX11_draw,
  Cond.constantLong RX11 341 (40),
  Cond.methodLink RX11 343 yX11_drawn,
  Cond.instanceMethod yX11_drawn,
  Cond.selects RX11 yX11_drawn yX11_drawn,
  Cond.code yX11_year cX11_year 6 (some .int),
  Cond.code yX11_adds cX11_adds 2 none,
  Cond.fieldLink RX11 346 "HermitLadderModel" "standMany" "I",
  Cond.code yX11_gust cX11_gust 1 (some .int),
  Cond.methodLink RX11 349 yX11_adds,
  Cond.instanceMethod yX11_adds,
  Cond.selects RX11 yX11_adds yX11_adds,
  Cond.methodLink RX11 352 yX11_isMove,
  Cond.instanceMethod yX11_isMove,
  Cond.selects RX11 yX11_isMove yX11_isMove,
  Cond.methodLink RX11 355 yX11_gust,
  Cond.static yX11_gust,
  Cond.code yX11_laysStands cX11_laysStands 5 none,
  Cond.code yX11_isGoal cX11_isGoal 3 (some .boolean),
  Cond.code yX11_farBy cX11_farBy 4 (some .int),
  Cond.constant RX11 358 (268435456),
  Cond.methodLink RX11 359 yX11_laysStands,
  Cond.instanceMethod yX11_laysStands,
  Cond.selects RX11 yX11_laysStands yX11_laysStands,
  Cond.methodLink RX11 363 yX11_isGoal,
  Cond.static yX11_isGoal,
  Cond.methodLink RX11 367 yX11_farBy,
  Cond.instanceMethod yX11_farBy,
  Cond.selects RX11 yX11_farBy yX11_farBy,
  Cond.code yX11_laysFar cX11_laysFar 6 (some .int),
  Cond.code yX11_noComing cX11_noComing 3 (some .int),
  Cond.methodLink RX11 370 yX11_isSet,
  Cond.instanceMethod yX11_isSet,
  Cond.selects RX11 yX11_isSet yX11_isSet,
  Cond.code yX11_deedAt cX11_deedAt 5 (some .int),
  Cond.methodLink RX11 373 yX11_toldMove,
  Cond.static yX11_toldMove,
  Cond.methodLink RX11 376 yX11_noComing,
  Cond.instanceMethod yX11_noComing,
  Cond.selects RX11 yX11_noComing yX11_noComing,
  Cond.methodLink RX11 379 yX11_laysFar,
  Cond.instanceMethod yX11_laysFar,
  Cond.selects RX11 yX11_laysFar yX11_laysFar,
  Cond.code yX11_soonest cX11_soonest 5 (some .int),
  Cond.methodLink RX11 382 yX11_deedAt,
  Cond.instanceMethod yX11_deedAt,
  Cond.selects RX11 yX11_deedAt yX11_deedAt,
  Cond.code yX11_way cX11_way 5 (some .int),
  Cond.constantLong RX11 385 (-3),
  Cond.code yX11_rows cX11_rows 9 (some .long),
  Cond.code yX11_highest cX11_highest 4 (some .int),
  Cond.code yX11_most cX11_most 6 (some .int),
  Cond.code yX11_loses cX11_loses 5 (some .int),
  Cond.code yX11_stands cX11_stands 1 (some .int),
  Cond.code yX11_isLanding cX11_isLanding 3 (some .boolean),
  Cond.code yX11_lands cX11_lands 4 (some .int),
  Cond.methodLink RX11 387 yX11_isLanding,
  Cond.instanceMethod yX11_isLanding,
  Cond.selects RX11 yX11_isLanding yX11_isLanding,
  Cond.code yX11_goesShare cX11_goesShare 7 none,
  Cond.fieldLink RX11 390 "HermitLadderModel" "bestMany" "I",
  Cond.methodLink RX11 393 yX11_goesShare,
  Cond.instanceMethod yX11_goesShare,
  Cond.selects RX11 yX11_goesShare yX11_goesShare,
  Cond.code yX11_shares cX11_shares 4 (some .int),
  Cond.fieldLink RX11 397 "HermitLadderModel" "tail" "I",
  Cond.fieldLink RX11 400 "HermitLadderModel" "round1" "I",
  Cond.code yX11_laysRow cX11_laysRow 3 none,
  Cond.constantLong RX11 403 (99999),
  Cond.methodLink RX11 405 yX11_laysRow,
  Cond.instanceMethod yX11_laysRow,
  Cond.selects RX11 yX11_laysRow yX11_laysRow,
  Cond.code yX11_lies cX11_lies 2 (some .int),
  Cond.code yX11_round cX11_round 2 (some .int),
  Cond.code yX11_when cX11_when 3 (some .int),
  Cond.code yX11_noSeen cX11_noSeen 4 (some .int),
  Cond.constantLong RX11 408 (6),
  Cond.constantLong RX11 410 (-1),
  Cond.code yX11_isSeen cX11_isSeen 4 (some .boolean),
  Cond.methodLink RX11 412 yX11_isSeen,
  Cond.instanceMethod yX11_isSeen,
  Cond.selects RX11 yX11_isSeen yX11_isSeen,
  Cond.code yX11_laysSeen cX11_laysSeen 10 (some .long),
  Cond.methodLink RX11 415 yX11_noSeen,
  Cond.instanceMethod yX11_noSeen,
  Cond.selects RX11 yX11_noSeen yX11_noSeen,
  Cond.methodLink RX11 418 yX11_laysSeen,
  Cond.instanceMethod yX11_laysSeen,
  Cond.selects RX11 yX11_laysSeen yX11_laysSeen,
  Cond.code yX11_seen cX11_seen 3 (some .long),
  Cond.code yX11_seenBy cX11_seenBy 7 (some .int),
  Cond.code yX11_surely cX11_surely 5 (some .int),
  Cond.code yX11_noTired cX11_noTired 4 (some .int),
  Cond.constantLong RX11 422 (8),
  Cond.constantLong RX11 424 (4),
  Cond.code yX11_windsOf cX11_windsOf 7 (some .int),
  Cond.methodLink RX11 426 yX11_noTired,
  Cond.instanceMethod yX11_noTired,
  Cond.selects RX11 yX11_noTired yX11_noTired,
  Cond.methodLink RX11 429 yX11_windsOf,
  Cond.instanceMethod yX11_windsOf,
  Cond.selects RX11 yX11_windsOf yX11_windsOf,
  Cond.code yX11_winds cX11_winds 3 (some .int),
  Cond.code yX11_mostAlike cX11_mostAlike 7 (some .int),
  Cond.methodLink RX11 432 yX11_mostAlike,
  Cond.instanceMethod yX11_mostAlike,
  Cond.selects RX11 yX11_mostAlike yX11_mostAlike,
  Cond.code yX11_attempt cX11_attempt 8 (some .int),
  Cond.code yX11_standsBy cX11_standsBy 5 (some .boolean),
  Cond.code yX11_laysStood cX11_laysStood 6 none,
  Cond.methodLink RX11 435 yX11_standsBy,
  Cond.instanceMethod yX11_standsBy,
  Cond.selects RX11 yX11_standsBy yX11_standsBy,
  Cond.methodLink RX11 438 yX11_laysStood,
  Cond.instanceMethod yX11_laysStood,
  Cond.selects RX11 yX11_laysStood yX11_laysStood,
  Cond.code yX11_withstands cX11_withstands 4 (some .int),
  Cond.code yX11_wholeOf cX11_wholeOf 3 (some .int),
  Cond.code yX11_likelyBy cX11_likelyBy 5 (some .int),
  Cond.methodLink RX11 442 yX11_wholeOf,
  Cond.static yX11_wholeOf,
  Cond.methodLink RX11 445 yX11_likelyBy,
  Cond.instanceMethod yX11_likelyBy,
  Cond.selects RX11 yX11_likelyBy yX11_likelyBy,
  Cond.code yX11_laysLikely cX11_laysLikely 8 (some .int),
  Cond.code yX11_common cX11_common 2 (some .int),
  Cond.methodLink RX11 448 yX11_common,
  Cond.static yX11_common,
  Cond.methodLink RX11 451 yX11_laysLikely,
  Cond.instanceMethod yX11_laysLikely,
  Cond.selects RX11 yX11_laysLikely yX11_laysLikely,
  Cond.code yX11_chance cX11_chance 5 (some .int),
  Cond.code yX11_best cX11_best 5 (some .int),
  Cond.code yX11_cut cX11_cut 3 (some .long),
  Cond.code yX11_numbers cX11_numbers 5 (some .int),
  Cond.code yX11_write cX11_write 6 (some .long),
  Cond.constantLong RX11 454 (-7),
  Cond.methodLink RX11 456 yX11_cut,
  Cond.static yX11_cut,
  Cond.code yX11_lists cX11_lists 8 (some .int),
  Cond.code yX11_image cX11_image 3 (some .int),
  Cond.code yX11_restore cX11_restore 3 (some .int),
  Cond.code yX11_count cX11_count 2 (some .int)]
abbrev zr_T : List Cond := zr_w ++ u_ws RX11 TX11 42
theorem zr_lay : ∀ w ∈ u_ws RX11 TX11 42, w ∈ zr_T := fun _ h => List.mem_append_right _ h
theorem zr_in {w : Cond} (i : Nat) (h : zr_w[i]? = some w) : w ∈ zr_T := List.mem_append_left _ (List.mem_of_getElem? h)
set_option maxRecDepth 20000 in
theorem zr_good : zr_T.all goodWord = true := by decide +kernel
theorem zr_gi {ws : List Cond} (h : ∀ w ∈ ws, w ∈ zr_T) : GoodIn zr_T ws := fun w hw => ⟨h w hw, good_of_word (List.all_eq_true.mp zr_good w (h w hw))⟩
theorem zr_V {own C : String} {idx : Nat} {y : MethodName} {c : ByteArray} {n : Nat} {r : Option FieldType} (h1 : Cond.methodLink own idx y ∈ zr_T) (h2 : Cond.instanceMethod y ∈ zr_T) (h3 : Cond.selects C y y ∈ zr_T) (h4 : Cond.initialized C ∈ zr_T) (h5 : Cond.code y c n r ∈ zr_T) : GoodIn zr_T (wsV own idx C y (.code y c n r :: zr_T)) := zr_gi (fun w hw => by
  simp only [wsV, List.mem_append, List.mem_cons, List.not_mem_nil, or_false] at hw
  rcases hw with (rfl | rfl | rfl | rfl) | rfl | h
  · exact h1
  · exact h2
  · exact h3
  · exact h4
  · exact h5
  · exact List.mem_append.mpr h)
theorem zr_S {own : String} {idx : Nat} {y : MethodName} {c : ByteArray} {n : Nat} {r : Option FieldType} (h1 : Cond.methodLink own idx y ∈ zr_T) (h2 : Cond.static y ∈ zr_T) (h4 : Cond.initialized own ∈ zr_T) (h5 : Cond.code y c n r ∈ zr_T) : GoodIn zr_T (wsS own idx y (.code y c n r :: zr_T)) := zr_gi (fun w hw => by
  simp only [wsS, List.mem_append, List.mem_cons, List.not_mem_nil, or_false] at hw
  rcases hw with (rfl | rfl | rfl) | rfl | h
  · exact h1
  · exact h2
  · exact h4
  · exact h5
  · exact List.mem_append.mpr h)
theorem zr_0 : Cond.code yX11_within cX11_within 6 (some .boolean) ∈ zr_T := zr_in 0 rfl
theorem zr_1 : Cond.code yX11_plain cX11_plain 2 none ∈ zr_T := zr_in 1 rfl
theorem zr_2 : Cond.methodLink RX11 7 objectInit ∈ zr_T := zr_in 2 rfl
theorem zr_3 : Cond.instanceMethod objectInit ∈ zr_T := zr_in 3 rfl
theorem zr_4 : Cond.code objectInit ⟨#[0xb1]⟩ 1 none ∈ zr_T := zr_in 4 rfl
theorem zr_5 : Cond.arrayClass .int ∈ zr_T := zr_in 5 rfl
theorem zr_6 : Cond.fieldLink RX11 13 "HermitLadderModel" "all" "[I" ∈ zr_T := zr_in 6 rfl
theorem zr_7 : Cond.arrayClass .boolean ∈ zr_T := zr_in 7 rfl
theorem zr_8 : Cond.fieldLink RX11 17 "HermitLadderModel" "hasImage" "[Z" ∈ zr_T := zr_in 8 rfl
theorem zr_9 : Cond.fieldLink RX11 21 "HermitLadderModel" "tape" "[I" ∈ zr_T := zr_in 9 rfl
theorem zr_10 : Cond.fieldLink RX11 24 "HermitLadderModel" "fresh" "[I" ∈ zr_T := zr_in 10 rfl
theorem zr_11 : Cond.fieldLink RX11 27 "HermitLadderModel" "faultPlace" "I" ∈ zr_T := zr_in 11 rfl
theorem zr_12 : Cond.fieldLink RX11 30 "HermitLadderModel" "reckoned" "[I" ∈ zr_T := zr_in 12 rfl
theorem zr_13 : Cond.fieldLink RX11 33 "HermitLadderModel" "words" "[I" ∈ zr_T := zr_in 13 rfl
theorem zr_14 : Cond.fieldLink RX11 36 "HermitLadderModel" "was" "[I" ∈ zr_T := zr_in 14 rfl
theorem zr_15 : Cond.fieldLink RX11 39 "HermitLadderModel" "stand" "[I" ∈ zr_T := zr_in 15 rfl
theorem zr_16 : Cond.constant RX11 42 (43200) ∈ zr_T := zr_in 16 rfl
theorem zr_17 : Cond.fieldLink RX11 43 "HermitLadderModel" "then" "[I" ∈ zr_T := zr_in 17 rfl
theorem zr_18 : Cond.fieldLink RX11 46 "HermitLadderModel" "far" "[I" ∈ zr_T := zr_in 18 rfl
theorem zr_19 : Cond.fieldLink RX11 49 "HermitLadderModel" "known" "[Z" ∈ zr_T := zr_in 19 rfl
theorem zr_20 : Cond.arrayClass .long ∈ zr_T := zr_in 20 rfl
theorem zr_21 : Cond.fieldLink RX11 52 "HermitLadderModel" "many" "[J" ∈ zr_T := zr_in 21 rfl
theorem zr_22 : Cond.fieldLink RX11 56 "HermitLadderModel" "manyThen" "[J" ∈ zr_T := zr_in 22 rfl
theorem zr_23 : Cond.fieldLink RX11 59 "HermitLadderModel" "shared" "[I" ∈ zr_T := zr_in 23 rfl
theorem zr_24 : Cond.fieldLink RX11 62 "HermitLadderModel" "bestShared" "[I" ∈ zr_T := zr_in 24 rfl
theorem zr_25 : Cond.fieldLink RX11 65 "HermitLadderModel" "row" "[I" ∈ zr_T := zr_in 25 rfl
theorem zr_26 : Cond.fieldLink RX11 68 "HermitLadderModel" "first" "[I" ∈ zr_T := zr_in 26 rfl
theorem zr_27 : Cond.fieldLink RX11 71 "HermitLadderModel" "on" "[J" ∈ zr_T := zr_in 27 rfl
theorem zr_28 : Cond.fieldLink RX11 74 "HermitLadderModel" "standBy" "[I" ∈ zr_T := zr_in 28 rfl
theorem zr_29 : Cond.fieldLink RX11 77 "HermitLadderModel" "stood" "[Z" ∈ zr_T := zr_in 29 rfl
theorem zr_30 : Cond.fieldLink RX11 80 "HermitLadderModel" "likely" "[I" ∈ zr_T := zr_in 30 rfl
theorem zr_31 : Cond.fieldLink RX11 83 "HermitLadderModel" "rowSort" "[I" ∈ zr_T := zr_in 31 rfl
theorem zr_32 : Cond.fieldLink RX11 86 "HermitLadderModel" "rowMany" "[I" ∈ zr_T := zr_in 32 rfl
theorem zr_33 : Cond.fieldLink RX11 89 "HermitLadderModel" "numbers" "[J" ∈ zr_T := zr_in 33 rfl
theorem zr_34 : Cond.methodLink RX11 92 yX11_plain ∈ zr_T := zr_in 34 rfl
theorem zr_35 : Cond.static yX11_plain ∈ zr_T := zr_in 35 rfl
theorem zr_36 : Cond.initialized RX11 ∈ zr_T := zr_in 36 rfl
theorem zr_37 : Cond.code yX11_init cX11_init 1 none ∈ zr_T := zr_in 37 rfl
theorem zr_38 : Cond.code yX11_feed cX11_feed 8 (some .int) ∈ zr_T := zr_in 38 rfl
theorem zr_39 : Cond.fieldLink RX11 1 "HermitLadderModel" "thrown" "I" ∈ zr_T := zr_in 39 rfl
theorem zr_40 : Cond.fieldLink RX11 96 "HermitLadderModel" "taped" "I" ∈ zr_T := zr_in 40 rfl
theorem zr_41 : Cond.code yX11_see cX11_see 2 (some .int) ∈ zr_T := zr_in 41 rfl
theorem zr_42 : Cond.fieldLink RX11 99 "HermitLadderModel" "size" "I" ∈ zr_T := zr_in 42 rfl
theorem zr_43 : Cond.code yX11_isSmall cX11_isSmall 1 (some .boolean) ∈ zr_T := zr_in 43 rfl
theorem zr_44 : Cond.code yX11_isDigit cX11_isDigit 1 (some .boolean) ∈ zr_T := zr_in 44 rfl
theorem zr_45 : Cond.fieldLink RX11 114 "HermitLadderModel" "at" "I" ∈ zr_T := zr_in 45 rfl
theorem zr_46 : Cond.fieldLink RX11 117 "HermitLadderModel" "behind" "I" ∈ zr_T := zr_in 46 rfl
theorem zr_47 : Cond.methodLink RX11 104 yJ0_length_8abf5 ∈ zr_T := zr_in 47 rfl
theorem zr_48 : Cond.instanceMethod yJ0_length_8abf5 ∈ zr_T := zr_in 48 rfl
theorem zr_49 : Cond.selects RJ0 yJ0_length_8abf5 yJ0_length_8abf5 ∈ zr_T := zr_in 49 rfl
theorem zr_50 : Cond.initialized RJ0 ∈ zr_T := zr_in 50 rfl
theorem zr_51 : Cond.code yJ0_length_8abf5 cJ0_length_8abf5 1 (some .int) ∈ zr_T := zr_in 51 rfl
theorem zr_52 : Cond.fieldLink RJ0 9 "java/lang/String" "value" "[B" ∈ zr_T := zr_in 52 rfl
theorem zr_53 : Cond.methodLink RJ0 335 yJ0_coder_7d493 ∈ zr_T := zr_in 53 rfl
theorem zr_54 : Cond.instanceMethod yJ0_coder_7d493 ∈ zr_T := zr_in 54 rfl
theorem zr_55 : Cond.selects RJ0 yJ0_coder_7d493 yJ0_coder_7d493 ∈ zr_T := zr_in 55 rfl
theorem zr_56 : Cond.code yJ0_coder_7d493 cJ0_coder_7d493 1 (some .byte) ∈ zr_T := zr_in 56 rfl
theorem zr_57 : Cond.fieldLink RJ0 38 "java/lang/String" "COMPACT_STRINGS" "Z" ∈ zr_T := zr_in 57 rfl
theorem zr_58 : Cond.fieldLink RJ0 15 "java/lang/String" "coder" "B" ∈ zr_T := zr_in 58 rfl
theorem zr_59 : Cond.methodLink RX11 110 yJ0_charAt_5068e ∈ zr_T := zr_in 59 rfl
theorem zr_60 : Cond.instanceMethod yJ0_charAt_5068e ∈ zr_T := zr_in 60 rfl
theorem zr_61 : Cond.selects RJ0 yJ0_charAt_5068e yJ0_charAt_5068e ∈ zr_T := zr_in 61 rfl
theorem zr_62 : Cond.code yJ0_charAt_5068e cJ0_charAt_5068e 2 (some .char) ∈ zr_T := zr_in 62 rfl
theorem zr_63 : Cond.methodLink RJ0 492 yJ0_isLatin1_aae02 ∈ zr_T := zr_in 63 rfl
theorem zr_64 : Cond.instanceMethod yJ0_isLatin1_aae02 ∈ zr_T := zr_in 64 rfl
theorem zr_65 : Cond.selects RJ0 yJ0_isLatin1_aae02 yJ0_isLatin1_aae02 ∈ zr_T := zr_in 65 rfl
theorem zr_66 : Cond.code yJ0_isLatin1_aae02 cJ0_isLatin1_aae02 1 (some .boolean) ∈ zr_T := zr_in 66 rfl
theorem zr_67 : Cond.methodLink RJ0 495 yJ1_charAt_3b067 ∈ zr_T := zr_in 67 rfl
theorem zr_68 : Cond.static yJ1_charAt_3b067 ∈ zr_T := zr_in 68 rfl
theorem zr_69 : Cond.initialized RJ1 ∈ zr_T := zr_in 69 rfl
theorem zr_70 : Cond.code yJ1_charAt_3b067 cJ1_charAt_3b067 2 (some .char) ∈ zr_T := zr_in 70 rfl
theorem zr_71 : Cond.methodLink RJ1 9 yJ0_checkIndex_df160 ∈ zr_T := zr_in 71 rfl
theorem zr_72 : Cond.static yJ0_checkIndex_df160 ∈ zr_T := zr_in 72 rfl
theorem zr_73 : Cond.code yJ0_checkIndex_df160 cJ0_checkIndex_df160 2 none ∈ zr_T := zr_in 73 rfl
theorem zr_74 : Cond.fieldLink RJ0 1053 "jdk/internal/util/Preconditions" "SIOOBE_FORMATTER" "Ljava/util/function/BiFunction;" ∈ zr_T := zr_in 74 rfl
theorem zr_75 : Cond.methodLink RJ0 1059 yJ3_checkIndex_8e157 ∈ zr_T := zr_in 75 rfl
theorem zr_76 : Cond.static yJ3_checkIndex_8e157 ∈ zr_T := zr_in 76 rfl
theorem zr_77 : Cond.initialized RJ3 ∈ zr_T := zr_in 77 rfl
theorem zr_78 : Cond.code yJ3_checkIndex_8e157 cJ3_checkIndex_8e157 3 (some .int) ∈ zr_T := zr_in 78 rfl
theorem zr_79 : Cond.methodLink RJ0 498 yJ2_charAt_3b067 ∈ zr_T := zr_in 79 rfl
theorem zr_80 : Cond.static yJ2_charAt_3b067 ∈ zr_T := zr_in 80 rfl
theorem zr_81 : Cond.initialized RJ2 ∈ zr_T := zr_in 81 rfl
theorem zr_82 : Cond.code yJ2_charAt_3b067 cJ2_charAt_3b067 2 (some .char) ∈ zr_T := zr_in 82 rfl
theorem zr_83 : Cond.methodLink RJ2 67 yJ2_checkIndex_2214a ∈ zr_T := zr_in 83 rfl
theorem zr_84 : Cond.static yJ2_checkIndex_2214a ∈ zr_T := zr_in 84 rfl
theorem zr_85 : Cond.code yJ2_checkIndex_2214a cJ2_checkIndex_2214a 2 none ∈ zr_T := zr_in 85 rfl
theorem zr_86 : Cond.methodLink RJ2 48 yJ2_length_9d52b ∈ zr_T := zr_in 86 rfl
theorem zr_87 : Cond.static yJ2_length_9d52b ∈ zr_T := zr_in 87 rfl
theorem zr_88 : Cond.code yJ2_length_9d52b cJ2_length_9d52b 1 (some .int) ∈ zr_T := zr_in 88 rfl
theorem zr_89 : Cond.methodLink RJ2 414 yJ0_checkIndex_df160 ∈ zr_T := zr_in 89 rfl
theorem zr_90 : Cond.methodLink RJ2 71 yJ2_getChar_3b067 ∈ zr_T := zr_in 90 rfl
theorem zr_91 : Cond.static yJ2_getChar_3b067 ∈ zr_T := zr_in 91 rfl
theorem zr_92 : Cond.code yJ2_getChar_3b067 cJ2_getChar_3b067 2 (some .char) ∈ zr_T := zr_in 92 rfl
theorem zr_93 : Cond.fieldLink RJ2 44 "java/lang/StringUTF16" "$assertionsDisabled" "Z" ∈ zr_T := zr_in 93 rfl
theorem zr_94 : Cond.fieldLink RJ2 59 "java/lang/StringUTF16" "HI_BYTE_SHIFT" "I" ∈ zr_T := zr_in 94 rfl
theorem zr_95 : Cond.fieldLink RJ2 63 "java/lang/StringUTF16" "LO_BYTE_SHIFT" "I" ∈ zr_T := zr_in 95 rfl
theorem zr_96 : Cond.code yX11_keyAt cX11_keyAt 4 (some .int) ∈ zr_T := zr_in 96 rfl
theorem zr_97 : Cond.fieldLink RX11 124 "HermitLadderModel" "kind" "I" ∈ zr_T := zr_in 97 rfl
theorem zr_98 : Cond.fieldLink RX11 137 "HermitLadderModel" "number" "I" ∈ zr_T := zr_in 98 rfl
theorem zr_99 : Cond.methodLink RX11 120 yX11_see ∈ zr_T := zr_in 99 rfl
theorem zr_100 : Cond.instanceMethod yX11_see ∈ zr_T := zr_in 100 rfl
theorem zr_101 : Cond.selects RX11 yX11_see yX11_see ∈ zr_T := zr_in 101 rfl
theorem zr_102 : Cond.methodLink RX11 127 yX11_isSmall ∈ zr_T := zr_in 102 rfl
theorem zr_103 : Cond.static yX11_isSmall ∈ zr_T := zr_in 103 rfl
theorem zr_104 : Cond.methodLink RX11 131 yX11_keyAt ∈ zr_T := zr_in 104 rfl
theorem zr_105 : Cond.instanceMethod yX11_keyAt ∈ zr_T := zr_in 105 rfl
theorem zr_106 : Cond.selects RX11 yX11_keyAt yX11_keyAt ∈ zr_T := zr_in 106 rfl
theorem zr_107 : Cond.methodLink RX11 134 yX11_isDigit ∈ zr_T := zr_in 107 rfl
theorem zr_108 : Cond.static yX11_isDigit ∈ zr_T := zr_in 108 rfl
theorem zr_109 : Cond.code yX11_next cX11_next 2 none ∈ zr_T := zr_in 109 rfl
theorem zr_110 : Cond.code yX11_fails cX11_fails 2 none ∈ zr_T := zr_in 110 rfl
theorem zr_111 : Cond.fieldLink RX11 142 "HermitLadderModel" "wrong" "I" ∈ zr_T := zr_in 111 rfl
theorem zr_112 : Cond.fieldLink RX11 145 "HermitLadderModel" "wrongAt" "I" ∈ zr_T := zr_in 112 rfl
theorem zr_113 : Cond.code yX11_is cX11_is 2 (some .boolean) ∈ zr_T := zr_in 113 rfl
theorem zr_114 : Cond.methodLink RX11 148 yX11_is ∈ zr_T := zr_in 114 rfl
theorem zr_115 : Cond.instanceMethod yX11_is ∈ zr_T := zr_in 115 rfl
theorem zr_116 : Cond.selects RX11 yX11_is yX11_is ∈ zr_T := zr_in 116 rfl
theorem zr_117 : Cond.methodLink RX11 151 yX11_next ∈ zr_T := zr_in 117 rfl
theorem zr_118 : Cond.instanceMethod yX11_next ∈ zr_T := zr_in 118 rfl
theorem zr_119 : Cond.selects RX11 yX11_next yX11_next ∈ zr_T := zr_in 119 rfl
theorem zr_120 : Cond.code yX11_eats cX11_eats 2 (some .boolean) ∈ zr_T := zr_in 120 rfl
theorem zr_121 : Cond.methodLink RX11 154 yX11_fails ∈ zr_T := zr_in 121 rfl
theorem zr_122 : Cond.instanceMethod yX11_fails ∈ zr_T := zr_in 122 rfl
theorem zr_123 : Cond.selects RX11 yX11_fails yX11_fails ∈ zr_T := zr_in 123 rfl
theorem zr_124 : Cond.methodLink RX11 158 yX11_within ∈ zr_T := zr_in 124 rfl
theorem zr_125 : Cond.static yX11_within ∈ zr_T := zr_in 125 rfl
theorem zr_126 : Cond.code yX11_takes cX11_takes 4 (some .int) ∈ zr_T := zr_in 126 rfl
theorem zr_127 : Cond.code yX11_isIn cX11_isIn 3 (some .boolean) ∈ zr_T := zr_in 127 rfl
theorem zr_128 : Cond.code yX11_wordOf cX11_wordOf 2 (some .int) ∈ zr_T := zr_in 128 rfl
theorem zr_129 : Cond.fieldLink RX11 162 "HermitLadderModel" "reading" "I" ∈ zr_T := zr_in 129 rfl
theorem zr_130 : Cond.code yX11_codes cX11_codes 2 none ∈ zr_T := zr_in 130 rfl
theorem zr_131 : Cond.code yX11_goesIn cX11_goesIn 2 (some .boolean) ∈ zr_T := zr_in 131 rfl
theorem zr_132 : Cond.methodLink RX11 165 yX11_codes ∈ zr_T := zr_in 132 rfl
theorem zr_133 : Cond.instanceMethod yX11_codes ∈ zr_T := zr_in 133 rfl
theorem zr_134 : Cond.selects RX11 yX11_codes yX11_codes ∈ zr_T := zr_in 134 rfl
theorem zr_135 : Cond.methodLink RX11 168 yX11_wordOf ∈ zr_T := zr_in 135 rfl
theorem zr_136 : Cond.instanceMethod yX11_wordOf ∈ zr_T := zr_in 136 rfl
theorem zr_137 : Cond.selects RX11 yX11_wordOf yX11_wordOf ∈ zr_T := zr_in 137 rfl
theorem zr_138 : Cond.methodLink RX11 171 yX11_goesIn ∈ zr_T := zr_in 138 rfl
theorem zr_139 : Cond.instanceMethod yX11_goesIn ∈ zr_T := zr_in 139 rfl
theorem zr_140 : Cond.selects RX11 yX11_goesIn yX11_goesIn ∈ zr_T := zr_in 140 rfl
theorem zr_141 : Cond.methodLink RX11 174 yX11_readSum ∈ zr_T := zr_in 141 rfl
theorem zr_142 : Cond.instanceMethod yX11_readSum ∈ zr_T := zr_in 142 rfl
theorem zr_143 : Cond.selects RX11 yX11_readSum yX11_readSum ∈ zr_T := zr_in 143 rfl
theorem zr_144 : Cond.methodLink RX11 177 yX11_eats ∈ zr_T := zr_in 144 rfl
theorem zr_145 : Cond.instanceMethod yX11_eats ∈ zr_T := zr_in 145 rfl
theorem zr_146 : Cond.selects RX11 yX11_eats yX11_eats ∈ zr_T := zr_in 146 rfl
theorem zr_147 : Cond.methodLink RX11 180 yX11_readIf ∈ zr_T := zr_in 147 rfl
theorem zr_148 : Cond.instanceMethod yX11_readIf ∈ zr_T := zr_in 148 rfl
theorem zr_149 : Cond.selects RX11 yX11_readIf yX11_readIf ∈ zr_T := zr_in 149 rfl
theorem zr_150 : Cond.code yX11_readBoth cX11_readBoth 2 none ∈ zr_T := zr_in 150 rfl
theorem zr_151 : Cond.methodLink RX11 192 yX11_readUnit ∈ zr_T := zr_in 151 rfl
theorem zr_152 : Cond.instanceMethod yX11_readUnit ∈ zr_T := zr_in 152 rfl
theorem zr_153 : Cond.selects RX11 yX11_readUnit yX11_readUnit ∈ zr_T := zr_in 153 rfl
theorem zr_154 : Cond.code yX11_readIf cX11_readIf 2 none ∈ zr_T := zr_in 154 rfl
theorem zr_155 : Cond.methodLink RX11 183 yX11_readTruth ∈ zr_T := zr_in 155 rfl
theorem zr_156 : Cond.instanceMethod yX11_readTruth ∈ zr_T := zr_in 156 rfl
theorem zr_157 : Cond.selects RX11 yX11_readTruth yX11_readTruth ∈ zr_T := zr_in 157 rfl
theorem zr_158 : Cond.code yX11_readSum cX11_readSum 3 none ∈ zr_T := zr_in 158 rfl
theorem zr_159 : Cond.methodLink RX11 189 yX11_readTerm ∈ zr_T := zr_in 159 rfl
theorem zr_160 : Cond.instanceMethod yX11_readTerm ∈ zr_T := zr_in 160 rfl
theorem zr_161 : Cond.selects RX11 yX11_readTerm yX11_readTerm ∈ zr_T := zr_in 161 rfl
theorem zr_162 : Cond.code yX11_readTerm cX11_readTerm 2 none ∈ zr_T := zr_in 162 rfl
theorem zr_163 : Cond.methodLink RX11 186 yX11_readAtom ∈ zr_T := zr_in 163 rfl
theorem zr_164 : Cond.instanceMethod yX11_readAtom ∈ zr_T := zr_in 164 rfl
theorem zr_165 : Cond.selects RX11 yX11_readAtom yX11_readAtom ∈ zr_T := zr_in 165 rfl
theorem zr_166 : Cond.code yX11_readTruth cX11_readTruth 2 none ∈ zr_T := zr_in 166 rfl
theorem zr_167 : Cond.methodLink RX11 195 yX11_readBoth ∈ zr_T := zr_in 167 rfl
theorem zr_168 : Cond.instanceMethod yX11_readBoth ∈ zr_T := zr_in 168 rfl
theorem zr_169 : Cond.selects RX11 yX11_readBoth yX11_readBoth ∈ zr_T := zr_in 169 rfl
theorem zr_170 : Cond.code yX11_readUnit cX11_readUnit 3 none ∈ zr_T := zr_in 170 rfl
theorem zr_171 : Cond.code yX11_readAtom cX11_readAtom 2 none ∈ zr_T := zr_in 171 rfl
theorem zr_172 : Cond.methodLink RX11 198 yX11_takes ∈ zr_T := zr_in 172 rfl
theorem zr_173 : Cond.instanceMethod yX11_takes ∈ zr_T := zr_in 173 rfl
theorem zr_174 : Cond.selects RX11 yX11_takes yX11_takes ∈ zr_T := zr_in 174 rfl
theorem zr_175 : Cond.code yX11_readThing cX11_readThing 1 (some .int) ∈ zr_T := zr_in 175 rfl
theorem zr_176 : Cond.methodLink RX11 202 yX11_readThing ∈ zr_T := zr_in 176 rfl
theorem zr_177 : Cond.instanceMethod yX11_readThing ∈ zr_T := zr_in 177 rfl
theorem zr_178 : Cond.selects RX11 yX11_readThing yX11_readThing ∈ zr_T := zr_in 178 rfl
theorem zr_179 : Cond.code yX11_readFlag cX11_readFlag 2 (some .boolean) ∈ zr_T := zr_in 179 rfl
theorem zr_180 : Cond.methodLink RX11 205 yX11_readFlag ∈ zr_T := zr_in 180 rfl
theorem zr_181 : Cond.instanceMethod yX11_readFlag ∈ zr_T := zr_in 181 rfl
theorem zr_182 : Cond.selects RX11 yX11_readFlag yX11_readFlag ∈ zr_T := zr_in 182 rfl
theorem zr_183 : Cond.code yX11_readHole cX11_readHole 2 none ∈ zr_T := zr_in 183 rfl
theorem zr_184 : Cond.code yX11_readPilgrim cX11_readPilgrim 1 none ∈ zr_T := zr_in 184 rfl
theorem zr_185 : Cond.code yX11_readLaw cX11_readLaw 3 none ∈ zr_T := zr_in 185 rfl
theorem zr_186 : Cond.methodLink RX11 208 yX11_readHole ∈ zr_T := zr_in 186 rfl
theorem zr_187 : Cond.instanceMethod yX11_readHole ∈ zr_T := zr_in 187 rfl
theorem zr_188 : Cond.selects RX11 yX11_readHole yX11_readHole ∈ zr_T := zr_in 188 rfl
theorem zr_189 : Cond.methodLink RX11 211 yX11_readPilgrim ∈ zr_T := zr_in 189 rfl
theorem zr_190 : Cond.instanceMethod yX11_readPilgrim ∈ zr_T := zr_in 190 rfl
theorem zr_191 : Cond.selects RX11 yX11_readPilgrim yX11_readPilgrim ∈ zr_T := zr_in 191 rfl
theorem zr_192 : Cond.methodLink RX11 214 yX11_readLaw ∈ zr_T := zr_in 192 rfl
theorem zr_193 : Cond.instanceMethod yX11_readLaw ∈ zr_T := zr_in 193 rfl
theorem zr_194 : Cond.selects RX11 yX11_readLaw yX11_readLaw ∈ zr_T := zr_in 194 rfl
theorem zr_195 : Cond.code yX11_readLine cX11_readLine 1 none ∈ zr_T := zr_in 195 rfl
theorem zr_196 : Cond.code yX11_closes cX11_closes 1 none ∈ zr_T := zr_in 196 rfl
theorem zr_197 : Cond.fieldLink RX11 223 "HermitLadderModel" "faultKind" "I" ∈ zr_T := zr_in 197 rfl
theorem zr_198 : Cond.methodLink RX11 217 yX11_closes ∈ zr_T := zr_in 198 rfl
theorem zr_199 : Cond.instanceMethod yX11_closes ∈ zr_T := zr_in 199 rfl
theorem zr_200 : Cond.selects RX11 yX11_closes yX11_closes ∈ zr_T := zr_in 200 rfl
theorem zr_201 : Cond.methodLink RX11 220 yX11_readLine ∈ zr_T := zr_in 201 rfl
theorem zr_202 : Cond.instanceMethod yX11_readLine ∈ zr_T := zr_in 202 rfl
theorem zr_203 : Cond.selects RX11 yX11_readLine yX11_readLine ∈ zr_T := zr_in 203 rfl
theorem zr_204 : Cond.code yX11_cliff cX11_cliff 3 (some .int) ∈ zr_T := zr_in 204 rfl
theorem zr_205 : Cond.code yX11_fault cX11_fault 2 (some .int) ∈ zr_T := zr_in 205 rfl
theorem zr_206 : Cond.code yX11_isRung cX11_isRung 2 (some .boolean) ∈ zr_T := zr_in 206 rfl
theorem zr_207 : Cond.code yX11_isThing cX11_isThing 3 (some .boolean) ∈ zr_T := zr_in 207 rfl
theorem zr_208 : Cond.code yX11_isSet cX11_isSet 2 (some .boolean) ∈ zr_T := zr_in 208 rfl
theorem zr_209 : Cond.code yX11_bitsOf cX11_bitsOf 3 (some .int) ∈ zr_T := zr_in 209 rfl
theorem zr_210 : Cond.code yX11_rungIn cX11_rungIn 1 (some .int) ∈ zr_T := zr_in 210 rfl
theorem zr_211 : Cond.code yX11_hasIn cX11_hasIn 1 (some .int) ∈ zr_T := zr_in 211 rfl
theorem zr_212 : Cond.code yX11_standOf cX11_standOf 3 (some .int) ∈ zr_T := zr_in 212 rfl
theorem zr_213 : Cond.code yX11_standNow cX11_standNow 1 (some .int) ∈ zr_T := zr_in 213 rfl
theorem zr_214 : Cond.methodLink RX11 226 yX11_standOf ∈ zr_T := zr_in 214 rfl
theorem zr_215 : Cond.static yX11_standOf ∈ zr_T := zr_in 215 rfl
theorem zr_216 : Cond.code yX11_isStand cX11_isStand 2 none ∈ zr_T := zr_in 216 rfl
theorem zr_217 : Cond.methodLink RX11 230 yX11_rungIn ∈ zr_T := zr_in 217 rfl
theorem zr_218 : Cond.static yX11_rungIn ∈ zr_T := zr_in 218 rfl
theorem zr_219 : Cond.methodLink RX11 233 yX11_hasIn ∈ zr_T := zr_in 219 rfl
theorem zr_220 : Cond.static yX11_hasIn ∈ zr_T := zr_in 220 rfl
theorem zr_221 : Cond.code yX11_between cX11_between 5 (some .int) ∈ zr_T := zr_in 221 rfl
theorem zr_222 : Cond.constantLong RX11 236 (1000000) ∈ zr_T := zr_in 222 rfl
theorem zr_223 : Cond.constantLong RX11 238 (-1000000) ∈ zr_T := zr_in 223 rfl
theorem zr_224 : Cond.code yX11_reckons cX11_reckons 8 (some .int) ∈ zr_T := zr_in 224 rfl
theorem zr_225 : Cond.methodLink RX11 240 yX11_bitsOf ∈ zr_T := zr_in 225 rfl
theorem zr_226 : Cond.static yX11_bitsOf ∈ zr_T := zr_in 226 rfl
theorem zr_227 : Cond.methodLink RX11 243 yX11_between ∈ zr_T := zr_in 227 rfl
theorem zr_228 : Cond.static yX11_between ∈ zr_T := zr_in 228 rfl
theorem zr_229 : Cond.code yX11_toldMove cX11_toldMove 1 (some .int) ∈ zr_T := zr_in 229 rfl
theorem zr_230 : Cond.code yX11_moveOf cX11_moveOf 3 (some .int) ∈ zr_T := zr_in 230 rfl
theorem zr_231 : Cond.constantLong RX11 246 (2) ∈ zr_T := zr_in 231 rfl
theorem zr_232 : Cond.constantLong RX11 248 (10) ∈ zr_T := zr_in 232 rfl
theorem zr_233 : Cond.constantLong RX11 250 (29) ∈ zr_T := zr_in 233 rfl
theorem zr_234 : Cond.constantLong RX11 256 (20) ∈ zr_T := zr_in 234 rfl
theorem zr_235 : Cond.methodLink RX11 252 yX11_isThing ∈ zr_T := zr_in 235 rfl
theorem zr_236 : Cond.instanceMethod yX11_isThing ∈ zr_T := zr_in 236 rfl
theorem zr_237 : Cond.selects RX11 yX11_isThing yX11_isThing ∈ zr_T := zr_in 237 rfl
theorem zr_238 : Cond.code yX11_isMove cX11_isMove 2 (some .boolean) ∈ zr_T := zr_in 238 rfl
theorem zr_239 : Cond.code yX11_isBarred cX11_isBarred 3 (some .boolean) ∈ zr_T := zr_in 239 rfl
theorem zr_240 : Cond.methodLink RX11 258 yX11_isBarred ∈ zr_T := zr_in 240 rfl
theorem zr_241 : Cond.instanceMethod yX11_isBarred ∈ zr_T := zr_in 241 rfl
theorem zr_242 : Cond.selects RX11 yX11_isBarred yX11_isBarred ∈ zr_T := zr_in 242 rfl
theorem zr_243 : Cond.methodLink RX11 262 yX11_reckons ∈ zr_T := zr_in 243 rfl
theorem zr_244 : Cond.instanceMethod yX11_reckons ∈ zr_T := zr_in 244 rfl
theorem zr_245 : Cond.selects RX11 yX11_reckons yX11_reckons ∈ zr_T := zr_in 245 rfl
theorem zr_246 : Cond.methodLink RX11 265 yX11_isIn ∈ zr_T := zr_in 246 rfl
theorem zr_247 : Cond.static yX11_isIn ∈ zr_T := zr_in 247 rfl
theorem zr_248 : Cond.code yX11_whyBy cX11_whyBy 7 (some .int) ∈ zr_T := zr_in 248 rfl
theorem zr_249 : Cond.code yX11_tiredTo cX11_tiredTo 4 (some .int) ∈ zr_T := zr_in 249 rfl
theorem zr_250 : Cond.methodLink RX11 269 yX11_tiredTo ∈ zr_T := zr_in 250 rfl
theorem zr_251 : Cond.instanceMethod yX11_tiredTo ∈ zr_T := zr_in 251 rfl
theorem zr_252 : Cond.selects RX11 yX11_tiredTo yX11_tiredTo ∈ zr_T := zr_in 252 rfl
theorem zr_253 : Cond.code yX11_actedTo cX11_actedTo 6 (some .int) ∈ zr_T := zr_in 253 rfl
theorem zr_254 : Cond.code yX11_hole cX11_hole 3 (some .int) ∈ zr_T := zr_in 254 rfl
theorem zr_255 : Cond.methodLink RX11 272 yX11_isRung ∈ zr_T := zr_in 255 rfl
theorem zr_256 : Cond.instanceMethod yX11_isRung ∈ zr_T := zr_in 256 rfl
theorem zr_257 : Cond.selects RX11 yX11_isRung yX11_isRung ∈ zr_T := zr_in 257 rfl
theorem zr_258 : Cond.methodLink RX11 275 yX11_moveOf ∈ zr_T := zr_in 258 rfl
theorem zr_259 : Cond.instanceMethod yX11_moveOf ∈ zr_T := zr_in 259 rfl
theorem zr_260 : Cond.selects RX11 yX11_moveOf yX11_moveOf ∈ zr_T := zr_in 260 rfl
theorem zr_261 : Cond.methodLink RX11 279 yX11_standNow ∈ zr_T := zr_in 261 rfl
theorem zr_262 : Cond.instanceMethod yX11_standNow ∈ zr_T := zr_in 262 rfl
theorem zr_263 : Cond.selects RX11 yX11_standNow yX11_standNow ∈ zr_T := zr_in 263 rfl
theorem zr_264 : Cond.methodLink RX11 282 yX11_whyBy ∈ zr_T := zr_in 264 rfl
theorem zr_265 : Cond.instanceMethod yX11_whyBy ∈ zr_T := zr_in 265 rfl
theorem zr_266 : Cond.selects RX11 yX11_whyBy yX11_whyBy ∈ zr_T := zr_in 266 rfl
theorem zr_267 : Cond.code yX11_whyAct cX11_whyAct 4 (some .int) ∈ zr_T := zr_in 267 rfl
theorem zr_268 : Cond.methodLink RX11 285 yX11_whyAct ∈ zr_T := zr_in 268 rfl
theorem zr_269 : Cond.instanceMethod yX11_whyAct ∈ zr_T := zr_in 269 rfl
theorem zr_270 : Cond.selects RX11 yX11_whyAct yX11_whyAct ∈ zr_T := zr_in 270 rfl
theorem zr_271 : Cond.code yX11_why cX11_why 2 (some .int) ∈ zr_T := zr_in 271 rfl
theorem zr_272 : Cond.methodLink RX11 288 yX11_actedTo ∈ zr_T := zr_in 272 rfl
theorem zr_273 : Cond.instanceMethod yX11_actedTo ∈ zr_T := zr_in 273 rfl
theorem zr_274 : Cond.selects RX11 yX11_actedTo yX11_actedTo ∈ zr_T := zr_in 274 rfl
theorem zr_275 : Cond.code yX11_by cX11_by 4 (some .int) ∈ zr_T := zr_in 275 rfl
theorem zr_276 : Cond.code yX11_keeps cX11_keeps 2 none ∈ zr_T := zr_in 276 rfl
theorem zr_277 : Cond.code yX11_isAgain cX11_isAgain 2 none ∈ zr_T := zr_in 277 rfl
theorem zr_278 : Cond.code yX11_notes cX11_notes 2 none ∈ zr_T := zr_in 278 rfl
theorem zr_279 : Cond.methodLink RX11 291 yX11_isStand ∈ zr_T := zr_in 279 rfl
theorem zr_280 : Cond.instanceMethod yX11_isStand ∈ zr_T := zr_in 280 rfl
theorem zr_281 : Cond.selects RX11 yX11_isStand yX11_isStand ∈ zr_T := zr_in 281 rfl
theorem zr_282 : Cond.code yX11_acts cX11_acts 2 none ∈ zr_T := zr_in 282 rfl
theorem zr_283 : Cond.methodLink RX11 294 yX11_keeps ∈ zr_T := zr_in 283 rfl
theorem zr_284 : Cond.instanceMethod yX11_keeps ∈ zr_T := zr_in 284 rfl
theorem zr_285 : Cond.selects RX11 yX11_keeps yX11_keeps ∈ zr_T := zr_in 285 rfl
theorem zr_286 : Cond.methodLink RX11 297 yX11_acts ∈ zr_T := zr_in 286 rfl
theorem zr_287 : Cond.instanceMethod yX11_acts ∈ zr_T := zr_in 287 rfl
theorem zr_288 : Cond.selects RX11 yX11_acts yX11_acts ∈ zr_T := zr_in 288 rfl
theorem zr_289 : Cond.methodLink RX11 300 yX11_notes ∈ zr_T := zr_in 289 rfl
theorem zr_290 : Cond.instanceMethod yX11_notes ∈ zr_T := zr_in 290 rfl
theorem zr_291 : Cond.selects RX11 yX11_notes yX11_notes ∈ zr_T := zr_in 291 rfl
theorem zr_292 : Cond.code yX11_act cX11_act 3 (some .int) ∈ zr_T := zr_in 292 rfl
theorem zr_293 : Cond.code yX11_wind cX11_wind 2 (some .int) ∈ zr_T := zr_in 293 rfl
theorem zr_294 : Cond.constantLong RX11 303 (9) ∈ zr_T := zr_in 294 rfl
theorem zr_295 : Cond.code yX11_habitOf cX11_habitOf 4 (some .int) ∈ zr_T := zr_in 295 rfl
theorem zr_296 : Cond.constantLong RX11 305 (99) ∈ zr_T := zr_in 296 rfl
theorem zr_297 : Cond.methodLink RX11 307 yX11_habitOf ∈ zr_T := zr_in 297 rfl
theorem zr_298 : Cond.instanceMethod yX11_habitOf ∈ zr_T := zr_in 298 rfl
theorem zr_299 : Cond.selects RX11 yX11_habitOf yX11_habitOf ∈ zr_T := zr_in 299 rfl
theorem zr_300 : Cond.code yX11_habit cX11_habit 3 (some .int) ∈ zr_T := zr_in 300 rfl
theorem zr_301 : Cond.code yX11_undo cX11_undo 3 (some .int) ∈ zr_T := zr_in 301 rfl
theorem zr_302 : Cond.constantLong RX11 310 (30) ∈ zr_T := zr_in 302 rfl
theorem zr_303 : Cond.constantLong RX11 312 (39) ∈ zr_T := zr_in 303 rfl
theorem zr_304 : Cond.code yX11_whyNot cX11_whyNot 3 (some .int) ∈ zr_T := zr_in 304 rfl
theorem zr_305 : Cond.code yX11_does cX11_does 2 none ∈ zr_T := zr_in 305 rfl
theorem zr_306 : Cond.fieldLink RX11 314 "HermitLadderModel" "toldWhy" "I" ∈ zr_T := zr_in 306 rfl
theorem zr_307 : Cond.methodLink RX11 317 yX11_whyNot ∈ zr_T := zr_in 307 rfl
theorem zr_308 : Cond.instanceMethod yX11_whyNot ∈ zr_T := zr_in 308 rfl
theorem zr_309 : Cond.selects RX11 yX11_whyNot yX11_whyNot ∈ zr_T := zr_in 309 rfl
theorem zr_310 : Cond.methodLink RX11 320 yX11_does ∈ zr_T := zr_in 310 rfl
theorem zr_311 : Cond.instanceMethod yX11_does ∈ zr_T := zr_in 311 rfl
theorem zr_312 : Cond.selects RX11 yX11_does yX11_does ∈ zr_T := zr_in 312 rfl
theorem zr_313 : Cond.code yX11_tells cX11_tells 3 (some .int) ∈ zr_T := zr_in 313 rfl
theorem zr_314 : Cond.code yX11_noTray cX11_noTray 2 (some .int) ∈ zr_T := zr_in 314 rfl
theorem zr_315 : Cond.constantLong RX11 323 (3) ∈ zr_T := zr_in 315 rfl
theorem zr_316 : Cond.methodLink RX11 325 yX11_noTray ∈ zr_T := zr_in 316 rfl
theorem zr_317 : Cond.instanceMethod yX11_noTray ∈ zr_T := zr_in 317 rfl
theorem zr_318 : Cond.selects RX11 yX11_noTray yX11_noTray ∈ zr_T := zr_in 318 rfl
theorem zr_319 : Cond.methodLink RX11 328 yX11_tells ∈ zr_T := zr_in 319 rfl
theorem zr_320 : Cond.instanceMethod yX11_tells ∈ zr_T := zr_in 320 rfl
theorem zr_321 : Cond.selects RX11 yX11_tells yX11_tells ∈ zr_T := zr_in 321 rfl
theorem zr_322 : Cond.methodLink RX11 331 yX11_isAgain ∈ zr_T := zr_in 322 rfl
theorem zr_323 : Cond.instanceMethod yX11_isAgain ∈ zr_T := zr_in 323 rfl
theorem zr_324 : Cond.selects RX11 yX11_isAgain yX11_isAgain ∈ zr_T := zr_in 324 rfl
theorem zr_325 : Cond.code yX11_judge cX11_judge 6 (some .int) ∈ zr_T := zr_in 325 rfl
theorem zr_326 : Cond.code yX11_perform cX11_perform 4 (some .int) ∈ zr_T := zr_in 326 rfl
theorem zr_327 : Cond.code yX11_draw cX11_draw 2 (some .int) ∈ zr_T := zr_in 327 rfl
theorem zr_328 : Cond.constant RX11 334 (1103515245) ∈ zr_T := zr_in 328 rfl
theorem zr_329 : Cond.fieldLink RX11 335 "HermitLadderModel" "x" "I" ∈ zr_T := zr_in 329 rfl
theorem zr_330 : Cond.code yX11_drawn cX11_drawn 2 (some .int) ∈ zr_T := zr_in 330 rfl
theorem zr_331 : Cond.methodLink RX11 338 yX11_draw ∈ zr_T := zr_in 331 rfl
theorem zr_332 : Cond.instanceMethod yX11_draw ∈ zr_T := zr_in 332 rfl
theorem zr_333 : Cond.selects RX11 yX11_draw yX11_draw ∈ zr_T := zr_in 333 rfl
theorem zr_334 : Cond.constantLong RX11 341 (40) ∈ zr_T := zr_in 334 rfl
theorem zr_335 : Cond.methodLink RX11 343 yX11_drawn ∈ zr_T := zr_in 335 rfl
theorem zr_336 : Cond.instanceMethod yX11_drawn ∈ zr_T := zr_in 336 rfl
theorem zr_337 : Cond.selects RX11 yX11_drawn yX11_drawn ∈ zr_T := zr_in 337 rfl
theorem zr_338 : Cond.code yX11_year cX11_year 6 (some .int) ∈ zr_T := zr_in 338 rfl
theorem zr_339 : Cond.code yX11_adds cX11_adds 2 none ∈ zr_T := zr_in 339 rfl
theorem zr_340 : Cond.fieldLink RX11 346 "HermitLadderModel" "standMany" "I" ∈ zr_T := zr_in 340 rfl
theorem zr_341 : Cond.code yX11_gust cX11_gust 1 (some .int) ∈ zr_T := zr_in 341 rfl
theorem zr_342 : Cond.methodLink RX11 349 yX11_adds ∈ zr_T := zr_in 342 rfl
theorem zr_343 : Cond.instanceMethod yX11_adds ∈ zr_T := zr_in 343 rfl
theorem zr_344 : Cond.selects RX11 yX11_adds yX11_adds ∈ zr_T := zr_in 344 rfl
theorem zr_345 : Cond.methodLink RX11 352 yX11_isMove ∈ zr_T := zr_in 345 rfl
theorem zr_346 : Cond.instanceMethod yX11_isMove ∈ zr_T := zr_in 346 rfl
theorem zr_347 : Cond.selects RX11 yX11_isMove yX11_isMove ∈ zr_T := zr_in 347 rfl
theorem zr_348 : Cond.methodLink RX11 355 yX11_gust ∈ zr_T := zr_in 348 rfl
theorem zr_349 : Cond.static yX11_gust ∈ zr_T := zr_in 349 rfl
theorem zr_350 : Cond.code yX11_laysStands cX11_laysStands 5 none ∈ zr_T := zr_in 350 rfl
theorem zr_351 : Cond.code yX11_isGoal cX11_isGoal 3 (some .boolean) ∈ zr_T := zr_in 351 rfl
theorem zr_352 : Cond.code yX11_farBy cX11_farBy 4 (some .int) ∈ zr_T := zr_in 352 rfl
theorem zr_353 : Cond.constant RX11 358 (268435456) ∈ zr_T := zr_in 353 rfl
theorem zr_354 : Cond.methodLink RX11 359 yX11_laysStands ∈ zr_T := zr_in 354 rfl
theorem zr_355 : Cond.instanceMethod yX11_laysStands ∈ zr_T := zr_in 355 rfl
theorem zr_356 : Cond.selects RX11 yX11_laysStands yX11_laysStands ∈ zr_T := zr_in 356 rfl
theorem zr_357 : Cond.methodLink RX11 363 yX11_isGoal ∈ zr_T := zr_in 357 rfl
theorem zr_358 : Cond.static yX11_isGoal ∈ zr_T := zr_in 358 rfl
theorem zr_359 : Cond.methodLink RX11 367 yX11_farBy ∈ zr_T := zr_in 359 rfl
theorem zr_360 : Cond.instanceMethod yX11_farBy ∈ zr_T := zr_in 360 rfl
theorem zr_361 : Cond.selects RX11 yX11_farBy yX11_farBy ∈ zr_T := zr_in 361 rfl
theorem zr_362 : Cond.code yX11_laysFar cX11_laysFar 6 (some .int) ∈ zr_T := zr_in 362 rfl
theorem zr_363 : Cond.code yX11_noComing cX11_noComing 3 (some .int) ∈ zr_T := zr_in 363 rfl
theorem zr_364 : Cond.methodLink RX11 370 yX11_isSet ∈ zr_T := zr_in 364 rfl
theorem zr_365 : Cond.instanceMethod yX11_isSet ∈ zr_T := zr_in 365 rfl
theorem zr_366 : Cond.selects RX11 yX11_isSet yX11_isSet ∈ zr_T := zr_in 366 rfl
theorem zr_367 : Cond.code yX11_deedAt cX11_deedAt 5 (some .int) ∈ zr_T := zr_in 367 rfl
theorem zr_368 : Cond.methodLink RX11 373 yX11_toldMove ∈ zr_T := zr_in 368 rfl
theorem zr_369 : Cond.static yX11_toldMove ∈ zr_T := zr_in 369 rfl
theorem zr_370 : Cond.methodLink RX11 376 yX11_noComing ∈ zr_T := zr_in 370 rfl
theorem zr_371 : Cond.instanceMethod yX11_noComing ∈ zr_T := zr_in 371 rfl
theorem zr_372 : Cond.selects RX11 yX11_noComing yX11_noComing ∈ zr_T := zr_in 372 rfl
theorem zr_373 : Cond.methodLink RX11 379 yX11_laysFar ∈ zr_T := zr_in 373 rfl
theorem zr_374 : Cond.instanceMethod yX11_laysFar ∈ zr_T := zr_in 374 rfl
theorem zr_375 : Cond.selects RX11 yX11_laysFar yX11_laysFar ∈ zr_T := zr_in 375 rfl
theorem zr_376 : Cond.code yX11_soonest cX11_soonest 5 (some .int) ∈ zr_T := zr_in 376 rfl
theorem zr_377 : Cond.methodLink RX11 382 yX11_deedAt ∈ zr_T := zr_in 377 rfl
theorem zr_378 : Cond.instanceMethod yX11_deedAt ∈ zr_T := zr_in 378 rfl
theorem zr_379 : Cond.selects RX11 yX11_deedAt yX11_deedAt ∈ zr_T := zr_in 379 rfl
theorem zr_380 : Cond.code yX11_way cX11_way 5 (some .int) ∈ zr_T := zr_in 380 rfl
theorem zr_381 : Cond.constantLong RX11 385 (-3) ∈ zr_T := zr_in 381 rfl
theorem zr_382 : Cond.code yX11_rows cX11_rows 9 (some .long) ∈ zr_T := zr_in 382 rfl
theorem zr_383 : Cond.code yX11_highest cX11_highest 4 (some .int) ∈ zr_T := zr_in 383 rfl
theorem zr_384 : Cond.code yX11_most cX11_most 6 (some .int) ∈ zr_T := zr_in 384 rfl
theorem zr_385 : Cond.code yX11_loses cX11_loses 5 (some .int) ∈ zr_T := zr_in 385 rfl
theorem zr_386 : Cond.code yX11_stands cX11_stands 1 (some .int) ∈ zr_T := zr_in 386 rfl
theorem zr_387 : Cond.code yX11_isLanding cX11_isLanding 3 (some .boolean) ∈ zr_T := zr_in 387 rfl
theorem zr_388 : Cond.code yX11_lands cX11_lands 4 (some .int) ∈ zr_T := zr_in 388 rfl
theorem zr_389 : Cond.methodLink RX11 387 yX11_isLanding ∈ zr_T := zr_in 389 rfl
theorem zr_390 : Cond.instanceMethod yX11_isLanding ∈ zr_T := zr_in 390 rfl
theorem zr_391 : Cond.selects RX11 yX11_isLanding yX11_isLanding ∈ zr_T := zr_in 391 rfl
theorem zr_392 : Cond.code yX11_goesShare cX11_goesShare 7 none ∈ zr_T := zr_in 392 rfl
theorem zr_393 : Cond.fieldLink RX11 390 "HermitLadderModel" "bestMany" "I" ∈ zr_T := zr_in 393 rfl
theorem zr_394 : Cond.methodLink RX11 393 yX11_goesShare ∈ zr_T := zr_in 394 rfl
theorem zr_395 : Cond.instanceMethod yX11_goesShare ∈ zr_T := zr_in 395 rfl
theorem zr_396 : Cond.selects RX11 yX11_goesShare yX11_goesShare ∈ zr_T := zr_in 396 rfl
theorem zr_397 : Cond.code yX11_shares cX11_shares 4 (some .int) ∈ zr_T := zr_in 397 rfl
theorem zr_398 : Cond.fieldLink RX11 397 "HermitLadderModel" "tail" "I" ∈ zr_T := zr_in 398 rfl
theorem zr_399 : Cond.fieldLink RX11 400 "HermitLadderModel" "round1" "I" ∈ zr_T := zr_in 399 rfl
theorem zr_400 : Cond.code yX11_laysRow cX11_laysRow 3 none ∈ zr_T := zr_in 400 rfl
theorem zr_401 : Cond.constantLong RX11 403 (99999) ∈ zr_T := zr_in 401 rfl
theorem zr_402 : Cond.methodLink RX11 405 yX11_laysRow ∈ zr_T := zr_in 402 rfl
theorem zr_403 : Cond.instanceMethod yX11_laysRow ∈ zr_T := zr_in 403 rfl
theorem zr_404 : Cond.selects RX11 yX11_laysRow yX11_laysRow ∈ zr_T := zr_in 404 rfl
theorem zr_405 : Cond.code yX11_lies cX11_lies 2 (some .int) ∈ zr_T := zr_in 405 rfl
theorem zr_406 : Cond.code yX11_round cX11_round 2 (some .int) ∈ zr_T := zr_in 406 rfl
theorem zr_407 : Cond.code yX11_when cX11_when 3 (some .int) ∈ zr_T := zr_in 407 rfl
theorem zr_408 : Cond.code yX11_noSeen cX11_noSeen 4 (some .int) ∈ zr_T := zr_in 408 rfl
theorem zr_409 : Cond.constantLong RX11 408 (6) ∈ zr_T := zr_in 409 rfl
theorem zr_410 : Cond.constantLong RX11 410 (-1) ∈ zr_T := zr_in 410 rfl
theorem zr_411 : Cond.code yX11_isSeen cX11_isSeen 4 (some .boolean) ∈ zr_T := zr_in 411 rfl
theorem zr_412 : Cond.methodLink RX11 412 yX11_isSeen ∈ zr_T := zr_in 412 rfl
theorem zr_413 : Cond.instanceMethod yX11_isSeen ∈ zr_T := zr_in 413 rfl
theorem zr_414 : Cond.selects RX11 yX11_isSeen yX11_isSeen ∈ zr_T := zr_in 414 rfl
theorem zr_415 : Cond.code yX11_laysSeen cX11_laysSeen 10 (some .long) ∈ zr_T := zr_in 415 rfl
theorem zr_416 : Cond.methodLink RX11 415 yX11_noSeen ∈ zr_T := zr_in 416 rfl
theorem zr_417 : Cond.instanceMethod yX11_noSeen ∈ zr_T := zr_in 417 rfl
theorem zr_418 : Cond.selects RX11 yX11_noSeen yX11_noSeen ∈ zr_T := zr_in 418 rfl
theorem zr_419 : Cond.methodLink RX11 418 yX11_laysSeen ∈ zr_T := zr_in 419 rfl
theorem zr_420 : Cond.instanceMethod yX11_laysSeen ∈ zr_T := zr_in 420 rfl
theorem zr_421 : Cond.selects RX11 yX11_laysSeen yX11_laysSeen ∈ zr_T := zr_in 421 rfl
theorem zr_422 : Cond.code yX11_seen cX11_seen 3 (some .long) ∈ zr_T := zr_in 422 rfl
theorem zr_423 : Cond.code yX11_seenBy cX11_seenBy 7 (some .int) ∈ zr_T := zr_in 423 rfl
theorem zr_424 : Cond.code yX11_surely cX11_surely 5 (some .int) ∈ zr_T := zr_in 424 rfl
theorem zr_425 : Cond.code yX11_noTired cX11_noTired 4 (some .int) ∈ zr_T := zr_in 425 rfl
theorem zr_426 : Cond.constantLong RX11 422 (8) ∈ zr_T := zr_in 426 rfl
theorem zr_427 : Cond.constantLong RX11 424 (4) ∈ zr_T := zr_in 427 rfl
theorem zr_428 : Cond.code yX11_windsOf cX11_windsOf 7 (some .int) ∈ zr_T := zr_in 428 rfl
theorem zr_429 : Cond.methodLink RX11 426 yX11_noTired ∈ zr_T := zr_in 429 rfl
theorem zr_430 : Cond.instanceMethod yX11_noTired ∈ zr_T := zr_in 430 rfl
theorem zr_431 : Cond.selects RX11 yX11_noTired yX11_noTired ∈ zr_T := zr_in 431 rfl
theorem zr_432 : Cond.methodLink RX11 429 yX11_windsOf ∈ zr_T := zr_in 432 rfl
theorem zr_433 : Cond.instanceMethod yX11_windsOf ∈ zr_T := zr_in 433 rfl
theorem zr_434 : Cond.selects RX11 yX11_windsOf yX11_windsOf ∈ zr_T := zr_in 434 rfl
theorem zr_435 : Cond.code yX11_winds cX11_winds 3 (some .int) ∈ zr_T := zr_in 435 rfl
theorem zr_436 : Cond.code yX11_mostAlike cX11_mostAlike 7 (some .int) ∈ zr_T := zr_in 436 rfl
theorem zr_437 : Cond.methodLink RX11 432 yX11_mostAlike ∈ zr_T := zr_in 437 rfl
theorem zr_438 : Cond.instanceMethod yX11_mostAlike ∈ zr_T := zr_in 438 rfl
theorem zr_439 : Cond.selects RX11 yX11_mostAlike yX11_mostAlike ∈ zr_T := zr_in 439 rfl
theorem zr_440 : Cond.code yX11_attempt cX11_attempt 8 (some .int) ∈ zr_T := zr_in 440 rfl
theorem zr_441 : Cond.code yX11_standsBy cX11_standsBy 5 (some .boolean) ∈ zr_T := zr_in 441 rfl
theorem zr_442 : Cond.code yX11_laysStood cX11_laysStood 6 none ∈ zr_T := zr_in 442 rfl
theorem zr_443 : Cond.methodLink RX11 435 yX11_standsBy ∈ zr_T := zr_in 443 rfl
theorem zr_444 : Cond.instanceMethod yX11_standsBy ∈ zr_T := zr_in 444 rfl
theorem zr_445 : Cond.selects RX11 yX11_standsBy yX11_standsBy ∈ zr_T := zr_in 445 rfl
theorem zr_446 : Cond.methodLink RX11 438 yX11_laysStood ∈ zr_T := zr_in 446 rfl
theorem zr_447 : Cond.instanceMethod yX11_laysStood ∈ zr_T := zr_in 447 rfl
theorem zr_448 : Cond.selects RX11 yX11_laysStood yX11_laysStood ∈ zr_T := zr_in 448 rfl
theorem zr_449 : Cond.code yX11_withstands cX11_withstands 4 (some .int) ∈ zr_T := zr_in 449 rfl
theorem zr_450 : Cond.code yX11_wholeOf cX11_wholeOf 3 (some .int) ∈ zr_T := zr_in 450 rfl
theorem zr_451 : Cond.code yX11_likelyBy cX11_likelyBy 5 (some .int) ∈ zr_T := zr_in 451 rfl
theorem zr_452 : Cond.methodLink RX11 442 yX11_wholeOf ∈ zr_T := zr_in 452 rfl
theorem zr_453 : Cond.static yX11_wholeOf ∈ zr_T := zr_in 453 rfl
theorem zr_454 : Cond.methodLink RX11 445 yX11_likelyBy ∈ zr_T := zr_in 454 rfl
theorem zr_455 : Cond.instanceMethod yX11_likelyBy ∈ zr_T := zr_in 455 rfl
theorem zr_456 : Cond.selects RX11 yX11_likelyBy yX11_likelyBy ∈ zr_T := zr_in 456 rfl
theorem zr_457 : Cond.code yX11_laysLikely cX11_laysLikely 8 (some .int) ∈ zr_T := zr_in 457 rfl
theorem zr_458 : Cond.code yX11_common cX11_common 2 (some .int) ∈ zr_T := zr_in 458 rfl
theorem zr_459 : Cond.methodLink RX11 448 yX11_common ∈ zr_T := zr_in 459 rfl
theorem zr_460 : Cond.static yX11_common ∈ zr_T := zr_in 460 rfl
theorem zr_461 : Cond.methodLink RX11 451 yX11_laysLikely ∈ zr_T := zr_in 461 rfl
theorem zr_462 : Cond.instanceMethod yX11_laysLikely ∈ zr_T := zr_in 462 rfl
theorem zr_463 : Cond.selects RX11 yX11_laysLikely yX11_laysLikely ∈ zr_T := zr_in 463 rfl
theorem zr_464 : Cond.code yX11_chance cX11_chance 5 (some .int) ∈ zr_T := zr_in 464 rfl
theorem zr_465 : Cond.code yX11_best cX11_best 5 (some .int) ∈ zr_T := zr_in 465 rfl
theorem zr_466 : Cond.code yX11_cut cX11_cut 3 (some .long) ∈ zr_T := zr_in 466 rfl
theorem zr_467 : Cond.code yX11_numbers cX11_numbers 5 (some .int) ∈ zr_T := zr_in 467 rfl
theorem zr_468 : Cond.code yX11_write cX11_write 6 (some .long) ∈ zr_T := zr_in 468 rfl
theorem zr_469 : Cond.constantLong RX11 454 (-7) ∈ zr_T := zr_in 469 rfl
theorem zr_470 : Cond.methodLink RX11 456 yX11_cut ∈ zr_T := zr_in 470 rfl
theorem zr_471 : Cond.static yX11_cut ∈ zr_T := zr_in 471 rfl
theorem zr_472 : Cond.code yX11_lists cX11_lists 8 (some .int) ∈ zr_T := zr_in 472 rfl
theorem zr_473 : Cond.code yX11_image cX11_image 3 (some .int) ∈ zr_T := zr_in 473 rfl
theorem zr_474 : Cond.code yX11_restore cX11_restore 3 (some .int) ∈ zr_T := zr_in 474 rfl
theorem zr_475 : Cond.code yX11_count cX11_count 2 (some .int) ∈ zr_T := zr_in 475 rfl
