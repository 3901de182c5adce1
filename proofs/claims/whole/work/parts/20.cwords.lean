abbrev cX0_init : ByteArray := prog_2_method_1_code
def yX0_init : MethodName := ⟨RX0, "<init>", "()V"⟩
abbrev cX0_clear : ByteArray := prog_2_method_2_code
def yX0_clear : MethodName := ⟨RX0, "clear", "()V"⟩
abbrev cX0_copyFrom : ByteArray := prog_2_method_3_code
def yX0_copyFrom : MethodName := ⟨RX0, "copyFrom", "(LHermitLadder$Cliff;)V"⟩
abbrev cX0_isRung : ByteArray := prog_2_method_4_code
def yX0_isRung : MethodName := ⟨RX0, "isRung", "(I)Z"⟩
abbrev cX0_isThing : ByteArray := prog_2_method_5_code
def yX0_isThing : MethodName := ⟨RX0, "isThing", "(I)Z"⟩
abbrev cX0_isSet : ByteArray := prog_2_method_6_code
def yX0_isSet : MethodName := ⟨RX0, "isSet", "(I)Z"⟩
abbrev cX0_holds : ByteArray := prog_2_method_7_code
def yX0_holds : MethodName := ⟨RX0, "holds", "(II)Z"⟩
abbrev cX0_addSign : ByteArray := prog_2_method_8_code
def yX0_addSign : MethodName := ⟨RX0, "addSign", "(I)Z"⟩
abbrev cX1_init : ByteArray := prog_3_method_1_code
def yX1_init : MethodName := ⟨RX1, "<init>", "(LHermitLadder$Moves;)V"⟩
abbrev cX1_forget : ByteArray := prog_3_method_2_code
def yX1_forget : MethodName := ⟨RX1, "forget", "()V"⟩
abbrev cX1_explore : ByteArray := prog_3_method_3_code
def yX1_explore : MethodName := ⟨RX1, "explore", "(I)V"⟩
abbrev cX1_leaveFrom : ByteArray := prog_3_method_4_code
def yX1_leaveFrom : MethodName := ⟨RX1, "leaveFrom", "(I)V"⟩
abbrev cX1_goal : ByteArray := prog_3_method_5_code
def yX1_goal : MethodName := ⟨RX1, "goal", "(II)I"⟩
abbrev cX1_deedsTo : ByteArray := prog_3_method_6_code
def yX1_deedsTo : MethodName := ⟨RX1, "deedsTo", "(I)I"⟩
abbrev cX1_deedOnTheWay : ByteArray := prog_3_method_7_code
def yX1_deedOnTheWay : MethodName := ⟨RX1, "deedOnTheWay", "(II)I"⟩
abbrev cX1_firstDeed : ByteArray := prog_3_method_8_code
def yX1_firstDeed : MethodName := ⟨RX1, "firstDeed", "(II)I"⟩
abbrev cX1_topRungWith : ByteArray := prog_3_method_9_code
def yX1_topRungWith : MethodName := ⟨RX1, "topRungWith", "(I)I"⟩
abbrev cX1_richestSet : ByteArray := prog_3_method_10_code
def yX1_richestSet : MethodName := ⟨RX1, "richestSet", "(I)I"⟩
abbrev cX1_isRicher : ByteArray := prog_3_method_11_code
def yX1_isRicher : MethodName := ⟨RX1, "isRicher", "(II)Z"⟩
abbrev cX1_everHadOn : ByteArray := prog_3_method_12_code
def yX1_everHadOn : MethodName := ⟨RX1, "everHadOn", "(I)I"⟩
abbrev cX2_init : ByteArray := prog_4_method_1_code
def yX2_init : MethodName := ⟨RX2, "<init>", "(LHermitLadder$Cliff;)V"⟩
abbrev cX2_forget : ByteArray := prog_4_method_2_code
def yX2_forget : MethodName := ⟨RX2, "forget", "()V"⟩
abbrev cX2_useWind : ByteArray := prog_4_method_3_code
def yX2_useWind : MethodName := ⟨RX2, "useWind", "(I)V"⟩
abbrev cX2_strengthAbove : ByteArray := prog_4_method_4_code
def yX2_strengthAbove : MethodName := ⟨RX2, "strengthAbove", "(I)I"⟩
abbrev cX2_learnFacts : ByteArray := prog_4_method_5_code
def yX2_learnFacts : MethodName := ⟨RX2, "learnFacts", "(III)V"⟩
abbrev cX2_reckon : ByteArray := prog_4_method_6_code
def yX2_reckon : MethodName := ⟨RX2, "reckon", "(II)I"⟩
abbrev cX2_operate : ByteArray := prog_4_method_7_code
def yX2_operate : MethodName := ⟨RX2, "operate", "(II)I"⟩
abbrev cX3_init : ByteArray := prog_5_method_1_code
def yX3_init : MethodName := ⟨RX3, "<init>", "(LHermitLadder$Cliff;LHermitLadder$Laws;)V"⟩
abbrev cX3_refusal : ByteArray := prog_5_method_2_code
def yX3_refusal : MethodName := ⟨RX3, "refusal", "(II)I"⟩
abbrev cX3_entryRefusal : ByteArray := prog_5_method_3_code
def yX3_entryRefusal : MethodName := ⟨RX3, "entryRefusal", "(II)I"⟩
abbrev cX3_takeRefusal : ByteArray := prog_5_method_4_code
def yX3_takeRefusal : MethodName := ⟨RX3, "takeRefusal", "(III)I"⟩
abbrev cX3_after : ByteArray := prog_5_method_5_code
def yX3_after : MethodName := ⟨RX3, "after", "(II)I"⟩
abbrev cX3_behind : ByteArray := prog_5_method_6_code
def yX3_behind : MethodName := ⟨RX3, "behind", "(II)I"⟩
abbrev cX3_gather : ByteArray := prog_5_method_7_code
def yX3_gather : MethodName := ⟨RX3, "gather", "(I)I"⟩
abbrev cX3_gatherThings : ByteArray := prog_5_method_8_code
def yX3_gatherThings : MethodName := ⟨RX3, "gatherThings", "(III)V"⟩
abbrev cX3_keep : ByteArray := prog_5_method_9_code
def yX3_keep : MethodName := ⟨RX3, "keep", "(II)V"⟩
abbrev cX3_habitual : ByteArray := prog_5_method_10_code
def yX3_habitual : MethodName := ⟨RX3, "habitual", "(I)I"⟩
abbrev cX3_afterHabit : ByteArray := prog_5_method_11_code
def yX3_afterHabit : MethodName := ⟨RX3, "afterHabit", "(I)I"⟩
abbrev cX4_init : ByteArray := prog_6_method_1_code
def yX4_init : MethodName := ⟨RX4, "<init>", "()V"⟩
abbrev cX4_begin : ByteArray := prog_6_method_2_code
def yX4_begin : MethodName := ⟨RX4, "begin", "(LHermitLadder$Cliff;)V"⟩
abbrev cX4_copyFrom : ByteArray := prog_6_method_3_code
def yX4_copyFrom : MethodName := ⟨RX4, "copyFrom", "(LHermitLadder$Pilgrim;)V"⟩
abbrev cX5_init : ByteArray := prog_7_method_1_code
def yX5_init : MethodName := ⟨RX5, "<init>", "([I)V"⟩
abbrev cX5_readText : ByteArray := prog_7_method_2_code
def yX5_readText : MethodName := ⟨RX5, "readText", "(ILHermitLadder$Cliff;)Z"⟩
abbrev cX5_readFirstLine : ByteArray := prog_7_method_3_code
def yX5_readFirstLine : MethodName := ⟨RX5, "readFirstLine", "()Z"⟩
abbrev cX5_readLine : ByteArray := prog_7_method_4_code
def yX5_readLine : MethodName := ⟨RX5, "readLine", "()Z"⟩
abbrev cX5_readHole : ByteArray := prog_7_method_5_code
def yX5_readHole : MethodName := ⟨RX5, "readHole", "()Z"⟩
abbrev cX5_readPilgrim : ByteArray := prog_7_method_6_code
def yX5_readPilgrim : MethodName := ⟨RX5, "readPilgrim", "()Z"⟩
abbrev cX5_readTires : ByteArray := prog_7_method_7_code
def yX5_readTires : MethodName := ⟨RX5, "readTires", "()Z"⟩
abbrev cX5_readMay : ByteArray := prog_7_method_8_code
def yX5_readMay : MethodName := ⟨RX5, "readMay", "()Z"⟩
abbrev cX5_readTruth : ByteArray := prog_7_method_9_code
def yX5_readTruth : MethodName := ⟨RX5, "readTruth", "(I)Z"⟩
abbrev cX5_readBoth : ByteArray := prog_7_method_10_code
def yX5_readBoth : MethodName := ⟨RX5, "readBoth", "(I)Z"⟩
abbrev cX5_readUnit : ByteArray := prog_7_method_11_code
def yX5_readUnit : MethodName := ⟨RX5, "readUnit", "(I)Z"⟩
abbrev cX5_comparison : ByteArray := prog_7_method_12_code
def yX5_comparison : MethodName := ⟨RX5, "comparison", "()I"⟩
abbrev cX5_readSum : ByteArray := prog_7_method_13_code
def yX5_readSum : MethodName := ⟨RX5, "readSum", "(I)Z"⟩
abbrev cX5_readTerm : ByteArray := prog_7_method_14_code
def yX5_readTerm : MethodName := ⟨RX5, "readTerm", "(I)Z"⟩
abbrev cX5_readAtom : ByteArray := prog_7_method_15_code
def yX5_readAtom : MethodName := ⟨RX5, "readAtom", "(I)Z"⟩
abbrev cX5_readIf : ByteArray := prog_7_method_16_code
def yX5_readIf : MethodName := ⟨RX5, "readIf", "(I)Z"⟩
abbrev cX5_factTold : ByteArray := prog_7_method_17_code
def yX5_factTold : MethodName := ⟨RX5, "factTold", "()I"⟩
abbrev cX5_goDeeper : ByteArray := prog_7_method_18_code
def yX5_goDeeper : MethodName := ⟨RX5, "goDeeper", "(I)Z"⟩
abbrev cX5_accept : ByteArray := prog_7_method_19_code
def yX5_accept : MethodName := ⟨RX5, "accept", "(Ljava/lang/String;)Z"⟩
abbrev cX5_expect : ByteArray := prog_7_method_20_code
def yX5_expect : MethodName := ⟨RX5, "expect", "(Ljava/lang/String;)Z"⟩
abbrev cX5_readThing : ByteArray := prog_7_method_21_code
def yX5_readThing : MethodName := ⟨RX5, "readThing", "()I"⟩
abbrev cX5_readNumber : ByteArray := prog_7_method_22_code
def yX5_readNumber : MethodName := ⟨RX5, "readNumber", "(II)I"⟩
abbrev cX5_refuse : ByteArray := prog_7_method_23_code
def yX5_refuse : MethodName := ⟨RX5, "refuse", "()Z"⟩
abbrev cX5_findFault : ByteArray := prog_7_method_24_code
def yX5_findFault : MethodName := ⟨RX5, "findFault", "(I)Z"⟩
abbrev cX5_tokenIs : ByteArray := prog_7_method_25_code
def yX5_tokenIs : MethodName := ⟨RX5, "tokenIs", "(Ljava/lang/String;)Z"⟩
abbrev cX5_advance : ByteArray := prog_7_method_26_code
def yX5_advance : MethodName := ⟨RX5, "advance", "()V"⟩
abbrev cX5_isDigit : ByteArray := prog_7_method_27_code
def yX5_isDigit : MethodName := ⟨RX5, "isDigit", "(I)Z"⟩
abbrev cX5_isLetter : ByteArray := prog_7_method_28_code
def yX5_isLetter : MethodName := ⟨RX5, "isLetter", "(I)Z"⟩
abbrev cX5_isSign : ByteArray := prog_7_method_29_code
def yX5_isSign : MethodName := ⟨RX5, "isSign", "(I)Z"⟩
abbrev cX6_init : ByteArray := prog_8_method_1_code
def yX6_init : MethodName := ⟨RX6, "<init>", "(LHermitLadder$Moves;LHermitLadder$Coming;[I[J[J)V"⟩
abbrev cX6_wantNothing : ByteArray := prog_8_method_2_code
def yX6_wantNothing : MethodName := ⟨RX6, "wantNothing", "(I)V"⟩
abbrev cX6_want : ByteArray := prog_8_method_3_code
def yX6_want : MethodName := ⟨RX6, "want", "(LHermitLadder$Tray;)V"⟩
abbrev cX6_tally : ByteArray := prog_8_method_4_code
def yX6_tally : MethodName := ⟨RX6, "tally", "(I)V"⟩
abbrev cX6_spread : ByteArray := prog_8_method_5_code
def yX6_spread : MethodName := ⟨RX6, "spread", "(I)V"⟩
abbrev cX6_isWanted : ByteArray := prog_8_method_6_code
def yX6_isWanted : MethodName := ⟨RX6, "isWanted", "(II)Z"⟩
abbrev cX6_within : ByteArray := prog_8_method_7_code
def yX6_within : MethodName := ⟨RX6, "within", "(I)I"⟩
abbrev cX6_endingOn : ByteArray := prog_8_method_8_code
def yX6_endingOn : MethodName := ⟨RX6, "endingOn", "(II)J"⟩
abbrev cX6_commonThings : ByteArray := prog_8_method_9_code
def yX6_commonThings : MethodName := ⟨RX6, "commonThings", "()I"⟩
abbrev cX6_deedOfFirst : ByteArray := prog_8_method_10_code
def yX6_deedOfFirst : MethodName := ⟨RX6, "deedOfFirst", "(II)I"⟩
abbrev cX6_dropDeadEnds : ByteArray := prog_8_method_11_code
def yX6_dropDeadEnds : MethodName := ⟨RX6, "dropDeadEnds", "()V"⟩
abbrev cX6_firstOnward : ByteArray := prog_8_method_12_code
def yX6_firstOnward : MethodName := ⟨RX6, "firstOnward", "(II)I"⟩
abbrev cX7_init : ByteArray := prog_9_method_1_code
def yX7_init : MethodName := ⟨RX7, "<init>", "(LHermitLadder$Cliff;[I)V"⟩
abbrev cX7_reckon : ByteArray := prog_9_method_2_code
def yX7_reckon : MethodName := ⟨RX7, "reckon", "(II)V"⟩
abbrev cX7_behind : ByteArray := prog_9_method_3_code
def yX7_behind : MethodName := ⟨RX7, "behind", "(II)I"⟩
abbrev cX7_withThing : ByteArray := prog_9_method_4_code
def yX7_withThing : MethodName := ⟨RX7, "withThing", "(II)I"⟩
abbrev cX7_isFree : ByteArray := prog_9_method_5_code
def yX7_isFree : MethodName := ⟨RX7, "isFree", "(III)Z"⟩
abbrev cX7_landed : ByteArray := prog_9_method_6_code
def yX7_landed : MethodName := ⟨RX7, "landed", "()I"⟩
abbrev cX7_rungOfThing : ByteArray := prog_9_method_7_code
def yX7_rungOfThing : MethodName := ⟨RX7, "rungOfThing", "(II)I"⟩
abbrev cX7_firstRung : ByteArray := prog_9_method_8_code
def yX7_firstRung : MethodName := ⟨RX7, "firstRung", "(II)I"⟩
abbrev cX8_init : ByteArray := prog_10_method_1_code
def yX8_init : MethodName := ⟨RX8, "<init>", "(LHermitLadder$Cliff;LHermitLadder$Moves;[I[I[J[J)V"⟩
abbrev cX8_reckon : ByteArray := prog_10_method_2_code
def yX8_reckon : MethodName := ⟨RX8, "reckon", "(III)V"⟩
abbrev cX8_explore : ByteArray := prog_10_method_3_code
def yX8_explore : MethodName := ⟨RX8, "explore", "(II)V"⟩
abbrev cX8_reachFrom : ByteArray := prog_10_method_4_code
def yX8_reachFrom : MethodName := ⟨RX8, "reachFrom", "(I)V"⟩
abbrev cX8_reach : ByteArray := prog_10_method_5_code
def yX8_reach : MethodName := ⟨RX8, "reach", "(II)V"⟩
abbrev cX8_slipped : ByteArray := prog_10_method_6_code
def yX8_slipped : MethodName := ⟨RX8, "slipped", "(II)I"⟩
abbrev cX8_reckonWithin : ByteArray := prog_10_method_7_code
def yX8_reckonWithin : MethodName := ⟨RX8, "reckonWithin", "(I)V"⟩
abbrev cX8_likeliest : ByteArray := prog_10_method_8_code
def yX8_likeliest : MethodName := ⟨RX8, "likeliest", "(I)J"⟩
abbrev cX8_numerator : ByteArray := prog_10_method_9_code
def yX8_numerator : MethodName := ⟨RX8, "numerator", "()I"⟩
abbrev cX8_denominator : ByteArray := prog_10_method_10_code
def yX8_denominator : MethodName := ⟨RX8, "denominator", "()I"⟩
abbrev cX8_commonDivisor : ByteArray := prog_10_method_11_code
def yX8_commonDivisor : MethodName := ⟨RX8, "commonDivisor", "(JJ)J"⟩
abbrev cX9_init : ByteArray := prog_11_method_1_code
def yX9_init : MethodName := ⟨RX9, "<init>", "()V"⟩
abbrev cX9_make : ByteArray := prog_11_method_2_code
def yX9_make : MethodName := ⟨RX9, "make", "(II)V"⟩
abbrev cX9_put : ByteArray := prog_11_method_3_code
def yX9_put : MethodName := ⟨RX9, "put", "(IJ)J"⟩
abbrev cX9_deedAt : ByteArray := prog_11_method_4_code
def yX9_deedAt : MethodName := ⟨RX9, "deedAt", "(I)I"⟩
abbrev cX10_init : ByteArray := prog_1_method_1_code
def yX10_init : MethodName := ⟨RX10, "<init>", "()V"⟩
abbrev cX10_feed : ByteArray := prog_1_method_2_code
def yX10_feed : MethodName := ⟨RX10, "feed", "(IIIII)I"⟩
abbrev cX10_tapeInt : ByteArray := prog_1_method_3_code
def yX10_tapeInt : MethodName := ⟨RX10, "tapeInt", "(I)V"⟩
abbrev cX10_cliff : ByteArray := prog_1_method_4_code
def yX10_cliff : MethodName := ⟨RX10, "cliff", "(I)I"⟩
abbrev cX10_startAnew : ByteArray := prog_1_method_5_code
def yX10_startAnew : MethodName := ⟨RX10, "startAnew", "()V"⟩
abbrev cX10_settle : ByteArray := prog_1_method_6_code
def yX10_settle : MethodName := ⟨RX10, "settle", "()V"⟩
abbrev cX10_fault : ByteArray := prog_1_method_7_code
def yX10_fault : MethodName := ⟨RX10, "fault", "(I)I"⟩
abbrev cX10_hole : ByteArray := prog_1_method_8_code
def yX10_hole : MethodName := ⟨RX10, "hole", "(II)I"⟩
abbrev cX10_why : ByteArray := prog_1_method_9_code
def yX10_why : MethodName := ⟨RX10, "why", "(I)I"⟩
abbrev cX10_by : ByteArray := prog_1_method_10_code
def yX10_by : MethodName := ⟨RX10, "by", "(II)I"⟩
abbrev cX10_act : ByteArray := prog_1_method_11_code
def yX10_act : MethodName := ⟨RX10, "act", "(I)I"⟩
abbrev cX10_step : ByteArray := prog_1_method_12_code
def yX10_step : MethodName := ⟨RX10, "step", "(LHermitLadder$Pilgrim;I)I"⟩
abbrev cX10_keepTrial : ByteArray := prog_1_method_13_code
def yX10_keepTrial : MethodName := ⟨RX10, "keepTrial", "()V"⟩
abbrev cX10_remember : ByteArray := prog_1_method_14_code
def yX10_remember : MethodName := ⟨RX10, "remember", "()V"⟩
abbrev cX10_wind : ByteArray := prog_1_method_15_code
def yX10_wind : MethodName := ⟨RX10, "wind", "(I)I"⟩
abbrev cX10_habit : ByteArray := prog_1_method_16_code
def yX10_habit : MethodName := ⟨RX10, "habit", "(I)I"⟩
abbrev cX10_undo : ByteArray := prog_1_method_17_code
def yX10_undo : MethodName := ⟨RX10, "undo", "(I)I"⟩
abbrev cX10_judge : ByteArray := prog_1_method_18_code
def yX10_judge : MethodName := ⟨RX10, "judge", "(II)I"⟩
abbrev cX10_follow : ByteArray := prog_1_method_19_code
def yX10_follow : MethodName := ⟨RX10, "follow", "(LHermitLadder$Tray;)I"⟩
abbrev cX10_perform : ByteArray := prog_1_method_20_code
def yX10_perform : MethodName := ⟨RX10, "perform", "(I)I"⟩
abbrev cX10_year : ByteArray := prog_1_method_21_code
def yX10_year : MethodName := ⟨RX10, "year", "(II)I"⟩
abbrev cX10_nextSeed : ByteArray := prog_1_method_22_code
def yX10_nextSeed : MethodName := ⟨RX10, "nextSeed", "(I)I"⟩
abbrev cX10_drawnDeed : ByteArray := prog_1_method_23_code
def yX10_drawnDeed : MethodName := ⟨RX10, "drawnDeed", "(II)I"⟩
abbrev cX10_soonest : ByteArray := prog_1_method_24_code
def yX10_soonest : MethodName := ⟨RX10, "soonest", "(II)I"⟩
abbrev cX10_comingRefused : ByteArray := prog_1_method_25_code
def yX10_comingRefused : MethodName := ⟨RX10, "comingRefused", "(II)I"⟩
abbrev cX10_way : ByteArray := prog_1_method_26_code
def yX10_way : MethodName := ⟨RX10, "way", "(III)I"⟩
abbrev cX10_rows : ByteArray := prog_1_method_27_code
def yX10_rows : MethodName := ⟨RX10, "rows", "(III)J"⟩
abbrev cX10_highest : ByteArray := prog_1_method_28_code
def yX10_highest : MethodName := ⟨RX10, "highest", "(I)I"⟩
abbrev cX10_most : ByteArray := prog_1_method_29_code
def yX10_most : MethodName := ⟨RX10, "most", "(II)I"⟩
abbrev cX10_loses : ByteArray := prog_1_method_30_code
def yX10_loses : MethodName := ⟨RX10, "loses", "(I)I"⟩
abbrev cX10_stands : ByteArray := prog_1_method_31_code
def yX10_stands : MethodName := ⟨RX10, "stands", "()I"⟩
abbrev cX10_lands : ByteArray := prog_1_method_32_code
def yX10_lands : MethodName := ⟨RX10, "lands", "(II)I"⟩
abbrev cX10_shares : ByteArray := prog_1_method_33_code
def yX10_shares : MethodName := ⟨RX10, "shares", "(III)I"⟩
abbrev cX10_isTenAndThing : ByteArray := prog_1_method_34_code
def yX10_isTenAndThing : MethodName := ⟨RX10, "isTenAndThing", "(I)Z"⟩
abbrev cX10_lies : ByteArray := prog_1_method_35_code
def yX10_lies : MethodName := ⟨RX10, "lies", "(I)I"⟩
abbrev cX10_timesTillSettled : ByteArray := prog_1_method_36_code
def yX10_timesTillSettled : MethodName := ⟨RX10, "timesTillSettled", "()I"⟩
abbrev cX10_round : ByteArray := prog_1_method_37_code
def yX10_round : MethodName := ⟨RX10, "round", "(I)I"⟩
abbrev cX10_when : ByteArray := prog_1_method_38_code
def yX10_when : MethodName := ⟨RX10, "when", "(I)I"⟩
abbrev cX10_seen : ByteArray := prog_1_method_39_code
def yX10_seen : MethodName := ⟨RX10, "seen", "(I)J"⟩
abbrev cX10_seenBy : ByteArray := prog_1_method_40_code
def yX10_seenBy : MethodName := ⟨RX10, "seenBy", "(II)I"⟩
abbrev cX10_surely : ByteArray := prog_1_method_41_code
def yX10_surely : MethodName := ⟨RX10, "surely", "(I)I"⟩
abbrev cX10_tallySeen : ByteArray := prog_1_method_42_code
def yX10_tallySeen : MethodName := ⟨RX10, "tallySeen", "(I)I"⟩
abbrev cX10_toldRefused : ByteArray := prog_1_method_43_code
def yX10_toldRefused : MethodName := ⟨RX10, "toldRefused", "(IIII)I"⟩
abbrev cX10_winds : ByteArray := prog_1_method_44_code
def yX10_winds : MethodName := ⟨RX10, "winds", "(I)I"⟩
abbrev cX10_windsThatTire : ByteArray := prog_1_method_45_code
def yX10_windsThatTire : MethodName := ⟨RX10, "windsThatTire", "(LHermitLadder$Tray;)I"⟩
abbrev cX10_tiresAsTold : ByteArray := prog_1_method_46_code
def yX10_tiresAsTold : MethodName := ⟨RX10, "tiresAsTold", "(LHermitLadder$Tray;)Z"⟩
abbrev cX10_attempt : ByteArray := prog_1_method_47_code
def yX10_attempt : MethodName := ⟨RX10, "attempt", "(I)I"⟩
abbrev cX10_mostAlike : ByteArray := prog_1_method_48_code
def yX10_mostAlike : MethodName := ⟨RX10, "mostAlike", "(II)I"⟩
abbrev cX10_withstands : ByteArray := prog_1_method_49_code
def yX10_withstands : MethodName := ⟨RX10, "withstands", "(I)I"⟩
abbrev cX10_chance : ByteArray := prog_1_method_50_code
def yX10_chance : MethodName := ⟨RX10, "chance", "(III)I"⟩
abbrev cX10_best : ByteArray := prog_1_method_51_code
def yX10_best : MethodName := ⟨RX10, "best", "(II)I"⟩
abbrev cX10_isTray : ByteArray := prog_1_method_52_code
def yX10_isTray : MethodName := ⟨RX10, "isTray", "(I)Z"⟩
abbrev cX10_trayRefused : ByteArray := prog_1_method_53_code
def yX10_trayRefused : MethodName := ⟨RX10, "trayRefused", "(I)I"⟩
abbrev cX10_numbers : ByteArray := prog_1_method_54_code
def yX10_numbers : MethodName := ⟨RX10, "numbers", "(III)I"⟩
abbrev cX10_write : ByteArray := prog_1_method_55_code
def yX10_write : MethodName := ⟨RX10, "write", "(IIJ)J"⟩
abbrev cX10_lists : ByteArray := prog_1_method_56_code
def yX10_lists : MethodName := ⟨RX10, "lists", "(III)I"⟩
abbrev cX10_isImage : ByteArray := prog_1_method_57_code
def yX10_isImage : MethodName := ⟨RX10, "isImage", "(I)Z"⟩
abbrev cX10_image : ByteArray := prog_1_method_58_code
def yX10_image : MethodName := ⟨RX10, "image", "(I)I"⟩
abbrev cX10_restore : ByteArray := prog_1_method_59_code
def yX10_restore : MethodName := ⟨RX10, "restore", "(I)I"⟩
abbrev cX10_count : ByteArray := prog_1_method_60_code
def yX10_count : MethodName := ⟨RX10, "count", "(I)I"⟩
abbrev cX10_standOf : ByteArray := prog_1_method_61_code
def yX10_standOf : MethodName := ⟨RX10, "standOf", "(III)I"⟩
abbrev cX10_rungOf : ByteArray := prog_1_method_62_code
def yX10_rungOf : MethodName := ⟨RX10, "rungOf", "(I)I"⟩
abbrev cX10_thingsOf : ByteArray := prog_1_method_63_code
def yX10_thingsOf : MethodName := ⟨RX10, "thingsOf", "(I)I"⟩
abbrev cX10_strengthOf : ByteArray := prog_1_method_64_code
def yX10_strengthOf : MethodName := ⟨RX10, "strengthOf", "(I)I"⟩
def zq_w : List Cond := [Cond.code yX0_init cX0_init 1 none,
  Cond.methodLink RX0 3 objectInit,
  Cond.instanceMethod objectInit,
  Cond.code objectInit ⟨#[0xb1]⟩ 1 none,
  Cond.arrayClass .int,
  Cond.fieldLink RX0 9 "HermitLadder$Cliff" "bars" "[I",
  Cond.fieldLink RX0 15 "HermitLadder$Cliff" "gives" "[I",
  Cond.fieldLink RX0 18 "HermitLadder$Cliff" "rough" "[I",
  Cond.fieldLink RX0 21 "HermitLadder$Cliff" "code" "[I",
  Cond.fieldLink RX0 24 "HermitLadder$Cliff" "top" "I",
  Cond.fieldLink RX0 28 "HermitLadder$Cliff" "startStrength" "I",
  Cond.code yX0_clear cX0_clear 1 none,
  Cond.fieldLink RX0 31 "HermitLadder$Cliff" "things" "I",
  Cond.fieldLink RX0 40 "HermitLadder$Cliff" "startRung" "I",
  Cond.fieldLink RX0 43 "HermitLadder$Cliff" "startThings" "I",
  Cond.fieldLink RX0 46 "HermitLadder$Cliff" "startWind" "I",
  Cond.fieldLink RX0 49 "HermitLadder$Cliff" "slips" "I",
  Cond.fieldLink RX0 52 "HermitLadder$Cliff" "lines" "I",
  Cond.fieldLink RX0 55 "HermitLadder$Cliff" "coded" "I",
  Cond.fieldLink RX0 58 "HermitLadder$Cliff" "tiresFrom" "I",
  Cond.fieldLink RX0 61 "HermitLadder$Cliff" "tiresTo" "I",
  Cond.fieldLink RX0 64 "HermitLadder$Cliff" "mayFrom" "I",
  Cond.fieldLink RX0 67 "HermitLadder$Cliff" "mayTo" "I",
  Cond.methodLink RX0 34 yJ7_fill_53178,
  Cond.static yJ7_fill_53178,
  Cond.initialized RJ7,
  Cond.code yJ7_fill_53178 cJ7_fill_53178 4 none,
  Cond.code yX0_copyFrom cX0_copyFrom 2 none,
  Cond.methodLink RX0 70 arraycopyName,
  Cond.native arraycopyName,
  Cond.static arraycopyName,
  Cond.initialized "java/lang/System",
  Cond.code yX0_isRung cX0_isRung 2 (some .boolean),
  Cond.code yX0_isThing cX0_isThing 2 (some .boolean),
  Cond.code yX0_isSet cX0_isSet 2 (some .boolean),
  Cond.code yX0_holds cX0_holds 3 (some .boolean),
  Cond.code yX0_addSign cX0_addSign 2 (some .boolean),
  Cond.code yX1_init cX1_init 2 none,
  Cond.methodLink RX1 3 objectInit,
  Cond.fieldLink RX1 9 "HermitLadder$Coming" "order" "[I",
  Cond.fieldLink RX1 15 "HermitLadder$Coming" "depth" "[I",
  Cond.fieldLink RX1 18 "HermitLadder$Coming" "from" "[I",
  Cond.fieldLink RX1 21 "HermitLadder$Coming" "size" "I",
  Cond.fieldLink RX1 25 "HermitLadder$Coming" "known" "Z",
  Cond.fieldLink RX1 29 "HermitLadder$Coming" "moves" "LHermitLadder$Moves;",
  Cond.code yX1_forget cX1_forget 1 none,
  Cond.fieldLink RX1 49 "HermitLadder$Moves" "ends" "[I",
  Cond.methodLink RX1 43 yX3_gather,
  Cond.instanceMethod yX3_gather,
  Cond.selects RX3 yX3_gather yX3_gather,
  Cond.initialized RX3,
  Cond.code yX3_gather cX3_gather 5 (some .int),
  Cond.fieldLink RX3 18 "HermitLadder$Moves" "found" "I",
  Cond.fieldLink RX3 26 "HermitLadder$Moves" "laws" "LHermitLadder$Laws;",
  Cond.fieldLink RX3 22 "HermitLadder$Moves" "cliff" "LHermitLadder$Cliff;",
  Cond.fieldLink RX3 62 "HermitLadder$Cliff" "gives" "[I",
  Cond.fieldLink RX3 59 "HermitLadder$Cliff" "bars" "[I",
  Cond.static yX10_rungOf,
  Cond.initialized RX10,
  Cond.code yX10_rungOf cX10_rungOf 1 (some .int),
  Cond.static yX10_thingsOf,
  Cond.code yX10_thingsOf cX10_thingsOf 1 (some .int),
  Cond.static yX10_strengthOf,
  Cond.code yX10_strengthOf cX10_strengthOf 1 (some .int),
  Cond.methodLink RX3 82 yX3_keep,
  Cond.instanceMethod yX3_keep,
  Cond.selects RX3 yX3_keep yX3_keep,
  Cond.code yX3_keep cX3_keep 3 none,
  Cond.fieldLink RX3 9 "HermitLadder$Moves" "deeds" "[I",
  Cond.fieldLink RX3 15 "HermitLadder$Moves" "ends" "[I",
  Cond.methodLink RX3 37 yX3_entryRefusal,
  Cond.instanceMethod yX3_entryRefusal,
  Cond.selects RX3 yX3_entryRefusal yX3_entryRefusal,
  Cond.code yX3_entryRefusal cX3_entryRefusal 3 (some .int),
  Cond.methodLink RX3 56 yX0_isRung,
  Cond.instanceMethod yX0_isRung,
  Cond.selects RX0 yX0_isRung yX0_isRung,
  Cond.initialized RX0,
  Cond.methodLink RX3 41 yX2_strengthAbove,
  Cond.instanceMethod yX2_strengthAbove,
  Cond.selects RX2 yX2_strengthAbove yX2_strengthAbove,
  Cond.initialized RX2,
  Cond.code yX2_strengthAbove cX2_strengthAbove 8 (some .int),
  Cond.fieldLink RX2 27 "HermitLadder$Laws" "cliff" "LHermitLadder$Cliff;",
  Cond.fieldLink RX2 55 "HermitLadder$Cliff" "top" "I",
  Cond.fieldLink RX2 11 "HermitLadder$Laws" "told" "[I",
  Cond.fieldLink RX2 62 "HermitLadder$Cliff" "mayFrom" "I",
  Cond.fieldLink RX2 65 "HermitLadder$Cliff" "mayTo" "I",
  Cond.fieldLink RX2 72 "HermitLadder$Cliff" "tiresFrom" "I",
  Cond.fieldLink RX2 75 "HermitLadder$Cliff" "tiresTo" "I",
  Cond.methodLink RX2 78 Lib.Math.min.name,
  Cond.static Lib.Math.min.name,
  Cond.initialized "java/lang/Math",
  Cond.code Lib.Math.min.name Lib.Math.min.code 2 (some .int),
  Cond.methodLink RX2 83 Lib.Math.max.name,
  Cond.static Lib.Math.max.name,
  Cond.code Lib.Math.max.name Lib.Math.max.code 2 (some .int),
  Cond.methodLink RX2 47 yJ6_bitCount_0f7a4,
  Cond.static yJ6_bitCount_0f7a4,
  Cond.initialized RJ6,
  Cond.code yJ6_bitCount_0f7a4 cJ6_bitCount_0f7a4 1 (some .int),
  Cond.constant RJ6 265 (1431655765),
  Cond.constant RJ6 266 (858993459),
  Cond.constant RJ6 267 (252645135),
  Cond.methodLink RX2 58 yX2_learnFacts,
  Cond.instanceMethod yX2_learnFacts,
  Cond.selects RX2 yX2_learnFacts yX2_learnFacts,
  Cond.code yX2_learnFacts cX2_learnFacts 4 none,
  Cond.fieldLink RX2 17 "HermitLadder$Laws" "facts" "[I",
  Cond.fieldLink RX2 86 "HermitLadder$Cliff" "rough" "[I",
  Cond.fieldLink RX2 23 "HermitLadder$Laws" "wind" "I",
  Cond.fieldLink RX2 89 "HermitLadder$Cliff" "things" "I",
  Cond.fieldLink RX2 92 "HermitLadder$Cliff" "bars" "[I",
  Cond.methodLink RX2 68 yX2_reckon,
  Cond.instanceMethod yX2_reckon,
  Cond.selects RX2 yX2_reckon yX2_reckon,
  Cond.code yX2_reckon cX2_reckon 6 (some .int),
  Cond.fieldLink RX2 95 "HermitLadder$Cliff" "code" "[I",
  Cond.fieldLink RX2 20 "HermitLadder$Laws" "stack" "[I",
  Cond.methodLink RX2 98 yX2_operate,
  Cond.instanceMethod yX2_operate,
  Cond.selects RX2 yX2_operate yX2_operate,
  Cond.code yX2_operate cX2_operate 9 (some .int),
  Cond.constantLong RX2 101 (-1000000),
  Cond.constantLong RX2 103 (1000000),
  Cond.methodLink RX2 105 Lib.MathLoose.min_long.x,
  Cond.static Lib.MathLoose.min_long.x,
  Cond.code Lib.MathLoose.min_long.x Lib.MathLoose.min_long.code 4 (some .long),
  Cond.methodLink RX2 108 Lib.MathLoose.max_long.x,
  Cond.static Lib.MathLoose.max_long.x,
  Cond.code Lib.MathLoose.max_long.x Lib.MathLoose.max_long.code 4 (some .long),
  Cond.static yX10_standOf,
  Cond.code yX10_standOf cX10_standOf 3 (some .int),
  Cond.methodLink RX3 86 yX3_gatherThings,
  Cond.instanceMethod yX3_gatherThings,
  Cond.selects RX3 yX3_gatherThings yX3_gatherThings,
  Cond.code yX3_gatherThings cX3_gatherThings 8 none,
  Cond.code yX1_leaveFrom cX1_leaveFrom 5 none,
  Cond.methodLink RX1 33 yJ7_fill_53178,
  Cond.methodLink RX1 39 yX1_leaveFrom,
  Cond.instanceMethod yX1_leaveFrom,
  Cond.selects RX1 yX1_leaveFrom yX1_leaveFrom,
  Cond.initialized RX1,
  Cond.code yX1_explore cX1_explore 3 none,
  Cond.code yX1_goal cX1_goal 4 (some .int),
  Cond.code yX1_deedsTo cX1_deedsTo 2 (some .int),
  Cond.fieldLink RX1 62 "HermitLadder$Moves" "deeds" "[I",
  Cond.code yX1_firstDeed cX1_firstDeed 5 (some .int),
  Cond.methodLink RX1 58 yX1_firstDeed,
  Cond.instanceMethod yX1_firstDeed,
  Cond.selects RX1 yX1_firstDeed yX1_firstDeed,
  Cond.code yX1_deedOnTheWay cX1_deedOnTheWay 5 (some .int),
  Cond.code yX1_topRungWith cX1_topRungWith 4 (some .int),
  Cond.methodLink RX1 65 Lib.Math.max.name,
  Cond.code yX1_isRicher cX1_isRicher 3 (some .boolean),
  Cond.methodLink RX1 74 yJ6_bitCount_0f7a4,
  Cond.code yX1_richestSet cX1_richestSet 4 (some .int),
  Cond.methodLink RX1 70 yX1_isRicher,
  Cond.static yX1_isRicher,
  Cond.code yX1_everHadOn cX1_everHadOn 5 (some .int),
  Cond.code yX2_forget cX2_forget 1 none,
  Cond.methodLink RX2 34 yJ7_fill_53178,
  Cond.code yX2_init cX2_init 2 none,
  Cond.methodLink RX2 3 objectInit,
  Cond.methodLink RX2 31 yX2_forget,
  Cond.instanceMethod yX2_forget,
  Cond.selects RX2 yX2_forget yX2_forget,
  Cond.code yX2_useWind cX2_useWind 2 none,
  Cond.code yX3_init cX3_init 3 none,
  Cond.methodLink RX3 3 objectInit,
  Cond.code yX3_takeRefusal cX3_takeRefusal 4 (some .int),
  Cond.methodLink RX3 46 yX0_isThing,
  Cond.instanceMethod yX0_isThing,
  Cond.selects RX0 yX0_isThing yX0_isThing,
  Cond.methodLink RX3 52 yX3_takeRefusal,
  Cond.instanceMethod yX3_takeRefusal,
  Cond.selects RX3 yX3_takeRefusal yX3_takeRefusal,
  Cond.code yX3_refusal cX3_refusal 6 (some .int),
  Cond.methodLink RX3 74 Lib.Math.min.name,
  Cond.code yX3_behind cX3_behind 7 (some .int),
  Cond.methodLink RX3 65 yX3_refusal,
  Cond.instanceMethod yX3_refusal,
  Cond.selects RX3 yX3_refusal yX3_refusal,
  Cond.methodLink RX3 68 yX3_behind,
  Cond.instanceMethod yX3_behind,
  Cond.selects RX3 yX3_behind yX3_behind,
  Cond.code yX3_after cX3_after 3 (some .int),
  Cond.code yX3_habitual cX3_habitual 5 (some .int),
  Cond.methodLink RX3 90 yX3_habitual,
  Cond.instanceMethod yX3_habitual,
  Cond.selects RX3 yX3_habitual yX3_habitual,
  Cond.code yX3_afterHabit cX3_afterHabit 2 (some .int),
  Cond.code yX4_init cX4_init 1 none,
  Cond.methodLink RX4 1 objectInit,
  Cond.fieldLink RX4 7 "HermitLadder$Pilgrim" "stand" "I",
  Cond.fieldLink RX4 13 "HermitLadder$Pilgrim" "wind" "I",
  Cond.fieldLink RX4 16 "HermitLadder$Pilgrim" "deeds" "I",
  Cond.code yX4_begin cX4_begin 2 none,
  Cond.fieldLink RX4 19 "HermitLadder$Cliff" "startRung" "I",
  Cond.fieldLink RX4 24 "HermitLadder$Cliff" "startThings" "I",
  Cond.fieldLink RX4 27 "HermitLadder$Cliff" "startStrength" "I",
  Cond.fieldLink RX4 36 "HermitLadder$Cliff" "startWind" "I",
  Cond.code yX4_copyFrom cX4_copyFrom 2 none,
  Cond.code yX5_init cX5_init 2 none,
  Cond.methodLink RX5 3 objectInit,
  Cond.fieldLink RX5 9 "HermitLadder$Reader" "fault" "I",
  Cond.fieldLink RX5 15 "HermitLadder$Reader" "place" "I",
  Cond.fieldLink RX5 18 "HermitLadder$Reader" "text" "[I",
  Cond.code yX5_isDigit cX5_isDigit 1 (some .boolean),
  Cond.code yX5_isLetter cX5_isLetter 1 (some .boolean),
  Cond.methodLink RX5 272 yJ0_indexOf_0f7a4,
  Cond.instanceMethod yJ0_indexOf_0f7a4,
  Cond.selects RJ0 yJ0_indexOf_0f7a4 yJ0_indexOf_0f7a4,
  Cond.initialized RJ0,
  Cond.code yJ0_indexOf_0f7a4 cJ0_indexOf_0f7a4 2 (some .int),
  Cond.methodLink RJ0 633 yJ0_indexOf_7cf53,
  Cond.instanceMethod yJ0_indexOf_7cf53,
  Cond.selects RJ0 yJ0_indexOf_7cf53 yJ0_indexOf_7cf53,
  Cond.code yJ0_indexOf_7cf53 cJ0_indexOf_7cf53 3 (some .int),
  Cond.fieldLink RJ0 9 "java/lang/String" "value" "[B",
  Cond.methodLink RJ0 492 yJ0_isLatin1_aae02,
  Cond.instanceMethod yJ0_isLatin1_aae02,
  Cond.selects RJ0 yJ0_isLatin1_aae02 yJ0_isLatin1_aae02,
  Cond.code yJ0_isLatin1_aae02 cJ0_isLatin1_aae02 1 (some .boolean),
  Cond.fieldLink RJ0 38 "java/lang/String" "COMPACT_STRINGS" "Z",
  Cond.fieldLink RJ0 15 "java/lang/String" "coder" "B",
  Cond.methodLink RJ0 505 yJ0_length_8abf5,
  Cond.instanceMethod yJ0_length_8abf5,
  Cond.selects RJ0 yJ0_length_8abf5 yJ0_length_8abf5,
  Cond.code yJ0_length_8abf5 cJ0_length_8abf5 1 (some .int),
  Cond.methodLink RJ0 335 yJ0_coder_7d493,
  Cond.instanceMethod yJ0_coder_7d493,
  Cond.selects RJ0 yJ0_coder_7d493 yJ0_coder_7d493,
  Cond.code yJ0_coder_7d493 cJ0_coder_7d493 1 (some .byte),
  Cond.methodLink RJ0 637 yJ1_indexOf_4cfef,
  Cond.static yJ1_indexOf_4cfef,
  Cond.initialized RJ1,
  Cond.code yJ1_indexOf_4cfef cJ1_indexOf_4cfef 4 (some .int),
  Cond.methodLink RJ1 92 Lib.Math.max.name,
  Cond.methodLink RJ1 38 Lib.Math.min.name,
  Cond.methodLink RJ1 88 yJ1_canEncode_9a6ad,
  Cond.static yJ1_canEncode_9a6ad,
  Cond.code yJ1_canEncode_9a6ad cJ1_canEncode_9a6ad 1 (some .boolean),
  Cond.methodLink RJ1 95 yJ1_indexOfChar_4cfef,
  Cond.static yJ1_indexOfChar_4cfef,
  Cond.code yJ1_indexOfChar_4cfef cJ1_indexOfChar_4cfef 6 (some .int),
  Cond.methodLink RJ0 640 yJ2_indexOf_4cfef,
  Cond.static yJ2_indexOf_4cfef,
  Cond.initialized RJ2,
  Cond.code yJ2_indexOf_4cfef cJ2_indexOf_4cfef 4 (some .int),
  Cond.methodLink RJ2 224 Lib.Math.max.name,
  Cond.methodLink RJ2 183 Lib.Math.min.name,
  Cond.constant RJ2 227 (65536),
  Cond.methodLink RJ2 228 yJ2_indexOfChar_4cfef,
  Cond.static yJ2_indexOfChar_4cfef,
  Cond.code yJ2_indexOfChar_4cfef cJ2_indexOfChar_4cfef 4 (some .int),
  Cond.methodLink RJ2 96 yJ2_checkBoundsBeginEnd_d044e,
  Cond.static yJ2_checkBoundsBeginEnd_d044e,
  Cond.code yJ2_checkBoundsBeginEnd_d044e cJ2_checkBoundsBeginEnd_d044e 3 none,
  Cond.methodLink RJ2 48 yJ2_length_9d52b,
  Cond.static yJ2_length_9d52b,
  Cond.code yJ2_length_9d52b cJ2_length_9d52b 1 (some .int),
  Cond.methodLink RJ2 241 yJ0_checkBoundsBeginEnd_23922,
  Cond.static yJ0_checkBoundsBeginEnd_23922,
  Cond.code yJ0_checkBoundsBeginEnd_23922 cJ0_checkBoundsBeginEnd_23922 3 none,
  Cond.fieldLink RJ0 1053 "jdk/internal/util/Preconditions" "SIOOBE_FORMATTER" "Ljava/util/function/BiFunction;",
  Cond.methodLink RJ0 1062 yJ3_checkFromToIndex_8c36e,
  Cond.static yJ3_checkFromToIndex_8c36e,
  Cond.initialized RJ3,
  Cond.code yJ3_checkFromToIndex_8c36e cJ3_checkFromToIndex_8c36e 4 (some .int),
  Cond.methodLink RJ2 244 yJ2_indexOfCharUnsafe_4cfef,
  Cond.static yJ2_indexOfCharUnsafe_4cfef,
  Cond.code yJ2_indexOfCharUnsafe_4cfef cJ2_indexOfCharUnsafe_4cfef 5 (some .int),
  Cond.methodLink RJ2 71 yJ2_getChar_3b067,
  Cond.static yJ2_getChar_3b067,
  Cond.code yJ2_getChar_3b067 cJ2_getChar_3b067 2 (some .char),
  Cond.fieldLink RJ2 44 "java/lang/StringUTF16" "$assertionsDisabled" "Z",
  Cond.fieldLink RJ2 59 "java/lang/StringUTF16" "HI_BYTE_SHIFT" "I",
  Cond.fieldLink RJ2 63 "java/lang/StringUTF16" "LO_BYTE_SHIFT" "I",
  Cond.methodLink RJ2 232 yJ2_indexOfSupplementary_4cfef,
  Cond.static yJ2_indexOfSupplementary_4cfef,
  Cond.code yJ2_indexOfSupplementary_4cfef cJ2_indexOfSupplementary_4cfef 7 (some .int),
  Cond.methodLink RJ2 164 yJ11_isValidCodePoint_9a6ad,
  Cond.static yJ11_isValidCodePoint_9a6ad,
  Cond.initialized RJ11,
  Cond.code yJ11_isValidCodePoint_9a6ad cJ11_isValidCodePoint_9a6ad 2 (some .boolean),
  Cond.methodLink RJ2 157 yJ11_highSurrogate_5068e,
  Cond.static yJ11_highSurrogate_5068e,
  Cond.code yJ11_highSurrogate_5068e cJ11_highSurrogate_5068e 1 (some .char),
  Cond.constant RJ11 110 (55232),
  Cond.methodLink RJ2 161 yJ11_lowSurrogate_5068e,
  Cond.static yJ11_lowSurrogate_5068e,
  Cond.code yJ11_lowSurrogate_5068e cJ11_lowSurrogate_5068e 1 (some .char),
  Cond.constant RJ11 76 (56320),
  Cond.code yX5_isSign cX5_isSign 1 (some .boolean),
  Cond.fieldLink RX5 31 "HermitLadder$Reader" "end" "I",
  Cond.fieldLink RX5 247 "HermitLadder$Reader" "start" "I",
  Cond.fieldLink RX5 28 "HermitLadder$Reader" "length" "I",
  Cond.fieldLink RX5 218 "HermitLadder$Reader" "value" "I",
  Cond.fieldLink RX5 50 "HermitLadder$Reader" "kind" "I",
  Cond.methodLink RX5 267 Lib.Math.max.name,
  Cond.methodLink RX5 258 yX5_isDigit,
  Cond.static yX5_isDigit,
  Cond.initialized RX5,
  Cond.methodLink RX5 261 yX5_isLetter,
  Cond.static yX5_isLetter,
  Cond.methodLink RX5 264 yX5_isSign,
  Cond.static yX5_isSign,
  Cond.code yX5_advance cX5_advance 1 none,
  Cond.methodLink RX5 250 yJ0_length_8abf5,
  Cond.methodLink RX5 254 yJ0_charAt_5068e,
  Cond.instanceMethod yJ0_charAt_5068e,
  Cond.selects RJ0 yJ0_charAt_5068e yJ0_charAt_5068e,
  Cond.code yJ0_charAt_5068e cJ0_charAt_5068e 2 (some .char),
  Cond.methodLink RJ0 495 yJ1_charAt_3b067,
  Cond.static yJ1_charAt_3b067,
  Cond.code yJ1_charAt_3b067 cJ1_charAt_3b067 2 (some .char),
  Cond.methodLink RJ1 9 yJ0_checkIndex_df160,
  Cond.static yJ0_checkIndex_df160,
  Cond.code yJ0_checkIndex_df160 cJ0_checkIndex_df160 2 none,
  Cond.methodLink RJ0 1059 yJ3_checkIndex_8e157,
  Cond.static yJ3_checkIndex_8e157,
  Cond.code yJ3_checkIndex_8e157 cJ3_checkIndex_8e157 3 (some .int),
  Cond.methodLink RJ0 498 yJ2_charAt_3b067,
  Cond.static yJ2_charAt_3b067,
  Cond.code yJ2_charAt_3b067 cJ2_charAt_3b067 2 (some .char),
  Cond.methodLink RJ2 67 yJ2_checkIndex_2214a,
  Cond.static yJ2_checkIndex_2214a,
  Cond.code yJ2_checkIndex_2214a cJ2_checkIndex_2214a 2 none,
  Cond.methodLink RJ2 414 yJ0_checkIndex_df160,
  Cond.code yX5_tokenIs cX5_tokenIs 3 (some .boolean),
  Cond.code yX5_findFault cX5_findFault 2 (some .boolean),
  Cond.code yX5_refuse cX5_refuse 1 (some .boolean),
  Cond.methodLink RX5 244 yX5_findFault,
  Cond.instanceMethod yX5_findFault,
  Cond.selects RX5 yX5_findFault yX5_findFault,
  Cond.methodLink RX5 187 yX5_tokenIs,
  Cond.instanceMethod yX5_tokenIs,
  Cond.selects RX5 yX5_tokenIs yX5_tokenIs,
  Cond.methodLink RX5 112 yX5_refuse,
  Cond.instanceMethod yX5_refuse,
  Cond.selects RX5 yX5_refuse yX5_refuse,
  Cond.methodLink RX5 43 yX5_advance,
  Cond.instanceMethod yX5_advance,
  Cond.selects RX5 yX5_advance yX5_advance,
  Cond.code yX5_expect cX5_expect 2 (some .boolean),
  Cond.code yX5_readNumber cX5_readNumber 4 (some .int),
  Cond.fieldLink RX5 34 "HermitLadder$Reader" "cliff" "LHermitLadder$Cliff;",
  Cond.fieldLink RX5 73 "HermitLadder$Cliff" "top" "I",
  Cond.fieldLink RX5 76 "HermitLadder$Cliff" "things" "I",
  Cond.fieldLink RX5 62 "HermitLadder$Cliff" "lines" "I",
  Cond.methodLink RX5 58 yX5_expect,
  Cond.instanceMethod yX5_expect,
  Cond.selects RX5 yX5_expect yX5_expect,
  Cond.methodLink RX5 68 yX5_readNumber,
  Cond.instanceMethod yX5_readNumber,
  Cond.selects RX5 yX5_readNumber yX5_readNumber,
  Cond.code yX5_readFirstLine cX5_readFirstLine 3 (some .boolean),
  Cond.code yX5_accept cX5_accept 2 (some .boolean),
  Cond.code yX5_readThing cX5_readThing 1 (some .int),
  Cond.fieldLink RX5 121 "HermitLadder$Cliff" "bars" "[I",
  Cond.fieldLink RX5 125 "HermitLadder$Cliff" "gives" "[I",
  Cond.fieldLink RX5 129 "HermitLadder$Cliff" "rough" "[I",
  Cond.methodLink RX5 80 yX5_accept,
  Cond.instanceMethod yX5_accept,
  Cond.selects RX5 yX5_accept yX5_accept,
  Cond.methodLink RX5 117 yX5_readThing,
  Cond.instanceMethod yX5_readThing,
  Cond.selects RX5 yX5_readThing yX5_readThing,
  Cond.code yX5_readHole cX5_readHole 5 (some .boolean),
  Cond.fieldLink RX5 133 "HermitLadder$Cliff" "startRung" "I",
  Cond.fieldLink RX5 138 "HermitLadder$Cliff" "startStrength" "I",
  Cond.fieldLink RX5 141 "HermitLadder$Cliff" "startThings" "I",
  Cond.code yX5_readPilgrim cX5_readPilgrim 4 (some .boolean),
  Cond.code yX5_goDeeper cX5_goDeeper 2 (some .boolean),
  Cond.fieldLink RX5 146 "HermitLadder$Reader" "inMay" "Z",
  Cond.code yX5_factTold cX5_factTold 1 (some .int),
  Cond.code yX5_comparison cX5_comparison 1 (some .int),
  Cond.methodLink RX5 177 yX0_addSign,
  Cond.instanceMethod yX0_addSign,
  Cond.selects RX0 yX0_addSign yX0_addSign,
  Cond.methodLink RX5 190 yX5_goDeeper,
  Cond.instanceMethod yX5_goDeeper,
  Cond.selects RX5 yX5_goDeeper yX5_goDeeper,
  Cond.methodLink RX5 153 yX5_readSum,
  Cond.instanceMethod yX5_readSum,
  Cond.selects RX5 yX5_readSum yX5_readSum,
  Cond.methodLink RX5 227 yX5_readIf,
  Cond.instanceMethod yX5_readIf,
  Cond.selects RX5 yX5_readIf yX5_readIf,
  Cond.methodLink RX5 230 yX5_factTold,
  Cond.instanceMethod yX5_factTold,
  Cond.selects RX5 yX5_factTold yX5_factTold,
  Cond.code yX5_readBoth cX5_readBoth 4 (some .boolean),
  Cond.methodLink RX5 180 yX5_readUnit,
  Cond.instanceMethod yX5_readUnit,
  Cond.selects RX5 yX5_readUnit yX5_readUnit,
  Cond.code yX5_readIf cX5_readIf 2 (some .boolean),
  Cond.methodLink RX5 163 yX5_readTruth,
  Cond.instanceMethod yX5_readTruth,
  Cond.selects RX5 yX5_readTruth yX5_readTruth,
  Cond.code yX5_readSum cX5_readSum 4 (some .boolean),
  Cond.methodLink RX5 206 yX5_readTerm,
  Cond.instanceMethod yX5_readTerm,
  Cond.selects RX5 yX5_readTerm yX5_readTerm,
  Cond.code yX5_readTerm cX5_readTerm 4 (some .boolean),
  Cond.methodLink RX5 213 yX5_readAtom,
  Cond.instanceMethod yX5_readAtom,
  Cond.selects RX5 yX5_readAtom yX5_readAtom,
  Cond.code yX5_readTruth cX5_readTruth 4 (some .boolean),
  Cond.methodLink RX5 172 yX5_readBoth,
  Cond.instanceMethod yX5_readBoth,
  Cond.selects RX5 yX5_readBoth yX5_readBoth,
  Cond.code yX5_readUnit cX5_readUnit 3 (some .boolean),
  Cond.methodLink RX5 197 yX5_comparison,
  Cond.instanceMethod yX5_comparison,
  Cond.selects RX5 yX5_comparison yX5_comparison,
  Cond.code yX5_readAtom cX5_readAtom 3 (some .boolean),
  Cond.fieldLink RX5 150 "HermitLadder$Cliff" "coded" "I",
  Cond.fieldLink RX5 157 "HermitLadder$Cliff" "tiresFrom" "I",
  Cond.fieldLink RX5 160 "HermitLadder$Cliff" "tiresTo" "I",
  Cond.code yX5_readTires cX5_readTires 3 (some .boolean),
  Cond.fieldLink RX5 166 "HermitLadder$Cliff" "mayFrom" "I",
  Cond.fieldLink RX5 169 "HermitLadder$Cliff" "mayTo" "I",
  Cond.code yX5_readMay cX5_readMay 3 (some .boolean),
  Cond.fieldLink RX5 93 "HermitLadder$Cliff" "startWind" "I",
  Cond.fieldLink RX5 98 "HermitLadder$Cliff" "slips" "I",
  Cond.methodLink RX5 83 yX5_readHole,
  Cond.instanceMethod yX5_readHole,
  Cond.selects RX5 yX5_readHole yX5_readHole,
  Cond.methodLink RX5 88 yX5_readPilgrim,
  Cond.instanceMethod yX5_readPilgrim,
  Cond.selects RX5 yX5_readPilgrim yX5_readPilgrim,
  Cond.methodLink RX5 104 yX5_readTires,
  Cond.instanceMethod yX5_readTires,
  Cond.selects RX5 yX5_readTires yX5_readTires,
  Cond.methodLink RX5 109 yX5_readMay,
  Cond.instanceMethod yX5_readMay,
  Cond.selects RX5 yX5_readMay yX5_readMay,
  Cond.code yX5_readLine cX5_readLine 1 (some .boolean),
  Cond.methodLink RX5 22 Lib.Math.min.name,
  Cond.methodLink RX5 38 yX0_clear,
  Cond.instanceMethod yX0_clear,
  Cond.selects RX0 yX0_clear yX0_clear,
  Cond.methodLink RX5 46 yX5_readFirstLine,
  Cond.instanceMethod yX5_readFirstLine,
  Cond.selects RX5 yX5_readFirstLine yX5_readFirstLine,
  Cond.methodLink RX5 53 yX5_readLine,
  Cond.instanceMethod yX5_readLine,
  Cond.selects RX5 yX5_readLine yX5_readLine,
  Cond.code yX5_readText cX5_readText 5 (some .boolean),
  Cond.code yX6_init cX6_init 6 none,
  Cond.methodLink RX6 3 objectInit,
  Cond.fieldLink RX6 9 "HermitLadder$Rows" "wanted" "[I",
  Cond.fieldLink RX6 15 "HermitLadder$Rows" "length" "I",
  Cond.fieldLink RX6 19 "HermitLadder$Rows" "moves" "LHermitLadder$Moves;",
  Cond.fieldLink RX6 23 "HermitLadder$Rows" "coming" "LHermitLadder$Coming;",
  Cond.fieldLink RX6 27 "HermitLadder$Rows" "levels" "[I",
  Cond.fieldLink RX6 30 "HermitLadder$Rows" "counts" "[J",
  Cond.fieldLink RX6 34 "HermitLadder$Rows" "fresh" "[J",
  Cond.code yX6_wantNothing cX6_wantNothing 2 none,
  Cond.methodLink RX6 37 Lib.Math.min.name,
  Cond.methodLink RX6 43 yJ7_fill_53178,
  Cond.code yX6_want cX6_want 3 none,
  Cond.fieldLink RX6 49 "HermitLadder$Tray" "size" "I",
  Cond.fieldLink RX6 54 "HermitLadder$Tray" "numbers" "[J",
  Cond.code yX6_within cX6_within 3 (some .int),
  Cond.fieldLink RX6 57 "HermitLadder$Coming" "size" "I",
  Cond.fieldLink RX6 91 "HermitLadder$Coming" "depth" "[I",
  Cond.fieldLink RX6 60 "HermitLadder$Coming" "order" "[I",
  Cond.code yX6_isWanted cX6_isWanted 3 (some .boolean),
  Cond.fieldLink RX6 76 "HermitLadder$Moves" "ends" "[I",
  Cond.methodLink RX6 67 yX6_within,
  Cond.instanceMethod yX6_within,
  Cond.selects RX6 yX6_within yX6_within,
  Cond.initialized RX6,
  Cond.methodLink RX6 71 yX3_gather,
  Cond.methodLink RX6 82 yJ6_bitCount_0f7a4,
  Cond.methodLink RX6 87 yX6_isWanted,
  Cond.instanceMethod yX6_isWanted,
  Cond.selects RX6 yX6_isWanted yX6_isWanted,
  Cond.code yX6_spread cX6_spread 9 none,
  Cond.methodLink RX6 63 yX6_spread,
  Cond.instanceMethod yX6_spread,
  Cond.selects RX6 yX6_spread yX6_spread,
  Cond.code yX6_tally cX6_tally 3 none,
  Cond.code yX6_endingOn cX6_endingOn 8 (some .long),
  Cond.code yX6_commonThings cX6_commonThings 4 (some .int),
  Cond.code yX6_firstOnward cX6_firstOnward 5 (some .int),
  Cond.methodLink RX6 100 yX6_firstOnward,
  Cond.instanceMethod yX6_firstOnward,
  Cond.selects RX6 yX6_firstOnward yX6_firstOnward,
  Cond.code yX6_dropDeadEnds cX6_dropDeadEnds 5 none,
  Cond.fieldLink RX6 103 "HermitLadder$Moves" "deeds" "[I",
  Cond.methodLink RX6 97 yX6_dropDeadEnds,
  Cond.instanceMethod yX6_dropDeadEnds,
  Cond.selects RX6 yX6_dropDeadEnds yX6_dropDeadEnds,
  Cond.code yX6_deedOfFirst cX6_deedOfFirst 7 (some .int),
  Cond.code yX7_init cX7_init 3 none,
  Cond.methodLink RX7 3 objectInit,
  Cond.fieldLink RX7 9 "HermitLadder$Sharing" "rungs" "I",
  Cond.fieldLink RX7 15 "HermitLadder$Sharing" "cliff" "LHermitLadder$Cliff;",
  Cond.fieldLink RX7 19 "HermitLadder$Sharing" "can" "[I",
  Cond.code yX7_behind cX7_behind 3 (some .int),
  Cond.code yX7_isFree cX7_isFree 4 (some .boolean),
  Cond.methodLink RX7 44 yX0_holds,
  Cond.instanceMethod yX0_holds,
  Cond.selects RX0 yX0_holds yX0_holds,
  Cond.code yX7_withThing cX7_withThing 5 (some .int),
  Cond.methodLink RX7 39 Lib.Math.max.name,
  Cond.methodLink RX7 32 yX7_behind,
  Cond.instanceMethod yX7_behind,
  Cond.selects RX7 yX7_behind yX7_behind,
  Cond.initialized RX7,
  Cond.methodLink RX7 35 yX7_isFree,
  Cond.instanceMethod yX7_isFree,
  Cond.selects RX7 yX7_isFree yX7_isFree,
  Cond.fieldLink RX7 23 "HermitLadder$Cliff" "things" "I",
  Cond.methodLink RX7 28 yX7_withThing,
  Cond.instanceMethod yX7_withThing,
  Cond.selects RX7 yX7_withThing yX7_withThing,
  Cond.code yX7_reckon cX7_reckon 6 none,
  Cond.code yX7_landed cX7_landed 1 (some .int),
  Cond.code yX7_firstRung cX7_firstRung 5 (some .int),
  Cond.code yX7_rungOfThing cX7_rungOfThing 6 (some .int),
  Cond.methodLink RX7 48 yX7_firstRung,
  Cond.instanceMethod yX7_firstRung,
  Cond.selects RX7 yX7_firstRung yX7_firstRung,
  Cond.code yX8_init cX8_init 7 none,
  Cond.methodLink RX8 3 objectInit,
  Cond.fieldLink RX8 9 "HermitLadder$Slips" "size" "I",
  Cond.fieldLink RX8 15 "HermitLadder$Slips" "rung" "I",
  Cond.fieldLink RX8 18 "HermitLadder$Slips" "whole" "J",
  Cond.fieldLink RX8 22 "HermitLadder$Slips" "result" "J",
  Cond.fieldLink RX8 25 "HermitLadder$Slips" "firstDeed" "I",
  Cond.fieldLink RX8 28 "HermitLadder$Slips" "cliff" "LHermitLadder$Cliff;",
  Cond.fieldLink RX8 32 "HermitLadder$Slips" "moves" "LHermitLadder$Moves;",
  Cond.fieldLink RX8 36 "HermitLadder$Slips" "order" "[I",
  Cond.fieldLink RX8 40 "HermitLadder$Slips" "depth" "[I",
  Cond.fieldLink RX8 43 "HermitLadder$Slips" "likely" "[J",
  Cond.fieldLink RX8 47 "HermitLadder$Slips" "fresh" "[J",
  Cond.code yX8_reach cX8_reach 3 none,
  Cond.code yX8_slipped cX8_slipped 2 (some .int),
  Cond.fieldLink RX8 81 "HermitLadder$Moves" "ends" "[I",
  Cond.fieldLink RX8 84 "HermitLadder$Moves" "deeds" "[I",
  Cond.methodLink RX8 76 yX3_gather,
  Cond.methodLink RX8 66 yX8_reach,
  Cond.instanceMethod yX8_reach,
  Cond.selects RX8 yX8_reach yX8_reach,
  Cond.initialized RX8,
  Cond.methodLink RX8 87 yX8_slipped,
  Cond.static yX8_slipped,
  Cond.code yX8_reachFrom cX8_reachFrom 4 none,
  Cond.methodLink RX8 60 yJ7_fill_53178,
  Cond.methodLink RX8 73 yX8_reachFrom,
  Cond.instanceMethod yX8_reachFrom,
  Cond.selects RX8 yX8_reachFrom yX8_reachFrom,
  Cond.code yX8_explore cX8_explore 5 none,
  Cond.constantLong RX8 54 (10),
  Cond.fieldLink RX8 105 "HermitLadder$Cliff" "slips" "I",
  Cond.code yX8_likeliest cX8_likeliest 11 (some .long),
  Cond.methodLink RX8 101 yX8_likeliest,
  Cond.instanceMethod yX8_likeliest,
  Cond.selects RX8 yX8_likeliest yX8_likeliest,
  Cond.code yX8_reckonWithin cX8_reckonWithin 3 none,
  Cond.methodLink RX8 50 yX8_explore,
  Cond.instanceMethod yX8_explore,
  Cond.selects RX8 yX8_explore yX8_explore,
  Cond.methodLink RX8 56 yX8_reckonWithin,
  Cond.instanceMethod yX8_reckonWithin,
  Cond.selects RX8 yX8_reckonWithin yX8_reckonWithin,
  Cond.code yX8_reckon cX8_reckon 5 none,
  Cond.code yX8_commonDivisor cX8_commonDivisor 11 (some .long),
  Cond.methodLink RX8 114 Lib.MathLoose.max_long.x,
  Cond.code yX8_numerator cX8_numerator 1 (some .int),
  Cond.methodLink RX8 110 yX8_commonDivisor,
  Cond.static yX8_commonDivisor,
  Cond.code yX8_denominator cX8_denominator 1 (some .int),
  Cond.code yX9_init cX9_init 1 none,
  Cond.methodLink RX9 3 objectInit,
  Cond.fieldLink RX9 9 "HermitLadder$Tray" "missing" "Z",
  Cond.arrayClass .long,
  Cond.fieldLink RX9 15 "HermitLadder$Tray" "numbers" "[J",
  Cond.fieldLink RX9 19 "HermitLadder$Tray" "size" "I",
  Cond.fieldLink RX9 23 "HermitLadder$Tray" "sort" "I",
  Cond.code yX9_make cX9_make 3 none,
  Cond.methodLink RX9 26 yJ7_fill_d0a16,
  Cond.static yJ7_fill_d0a16,
  Cond.code yJ7_fill_d0a16 cJ7_fill_d0a16 5 none,
  Cond.code yX9_put cX9_put 4 (some .long),
  Cond.code yX9_deedAt cX9_deedAt 4 (some .int),
  Cond.constantLong RX9 32 (40),
  Cond.methodLink RX10 3 objectInit,
  Cond.fieldLink RX10 9 "HermitLadder" "tape" "[I",
  Cond.fieldLink RX10 13 "HermitLadder" "taped" "I",
  Cond.classLink RX10 17 RX0,
  Cond.instantiable RX0 17,
  Cond.fieldLink RX10 20 "HermitLadder" "cliff" "LHermitLadder$Cliff;",
  Cond.fieldLink RX10 24 "HermitLadder" "spare" "LHermitLadder$Cliff;",
  Cond.classLink RX10 27 RX5,
  Cond.instantiable RX5 10,
  Cond.fieldLink RX10 32 "HermitLadder" "reader" "LHermitLadder$Reader;",
  Cond.classLink RX10 36 RX4,
  Cond.instantiable RX4 3,
  Cond.initialized RX4,
  Cond.fieldLink RX10 39 "HermitLadder" "now" "LHermitLadder$Pilgrim;",
  Cond.fieldLink RX10 43 "HermitLadder" "trial" "LHermitLadder$Pilgrim;",
  Cond.fieldLink RX10 46 "HermitLadder" "past" "[LHermitLadder$Pilgrim;",
  Cond.fieldLink RX10 50 "HermitLadder" "undoable" "I",
  Cond.classLink RX10 53 RX9,
  Cond.fieldLink RX10 55 "HermitLadder" "trays" "[LHermitLadder$Tray;",
  Cond.fieldLink RX10 59 "HermitLadder" "imageCliffs" "[LHermitLadder$Cliff;",
  Cond.fieldLink RX10 63 "HermitLadder" "imagePilgrims" "[LHermitLadder$Pilgrim;",
  Cond.classLink RX10 66 RX2,
  Cond.instantiable RX2 5,
  Cond.fieldLink RX10 71 "HermitLadder" "laws" "LHermitLadder$Laws;",
  Cond.classLink RX10 75 RX3,
  Cond.instantiable RX3 5,
  Cond.fieldLink RX10 80 "HermitLadder" "moves" "LHermitLadder$Moves;",
  Cond.classLink RX10 84 RX1,
  Cond.instantiable RX1 6,
  Cond.fieldLink RX10 89 "HermitLadder" "coming" "LHermitLadder$Coming;",
  Cond.instantiable RX9 4,
  Cond.initialized RX9,
  Cond.classLink RX10 94 RX6,
  Cond.instantiable RX6 7,
  Cond.fieldLink RX10 99 "HermitLadder" "rowCounter" "LHermitLadder$Rows;",
  Cond.classLink RX10 103 RX8,
  Cond.instantiable RX8 11,
  Cond.fieldLink RX10 108 "HermitLadder" "slipping" "LHermitLadder$Slips;",
  Cond.classLink RX10 112 RX7,
  Cond.instantiable RX7 3,
  Cond.fieldLink RX10 117 "HermitLadder" "sharing" "LHermitLadder$Sharing;",
  Cond.methodLink RX10 19 yX0_init,
  Cond.instanceMethod yX0_init,
  Cond.methodLink RX10 29 yX5_init,
  Cond.instanceMethod yX5_init,
  Cond.instanceMethod yX4_init,
  Cond.methodLink RX10 68 yX2_init,
  Cond.instanceMethod yX2_init,
  Cond.methodLink RX10 77 yX3_init,
  Cond.instanceMethod yX3_init,
  Cond.methodLink RX10 86 yX1_init,
  Cond.instanceMethod yX1_init,
  Cond.instanceMethod yX9_init,
  Cond.methodLink RX10 96 yX6_init,
  Cond.instanceMethod yX6_init,
  Cond.methodLink RX10 105 yX8_init,
  Cond.instanceMethod yX8_init,
  Cond.methodLink RX10 114 yX7_init,
  Cond.instanceMethod yX7_init,
  Cond.methodLink RX10 121 yX4_begin,
  Cond.instanceMethod yX4_begin,
  Cond.selects RX4 yX4_begin yX4_begin,
  Cond.code yX10_init cX10_init 5 none,
  Cond.code yX10_tapeInt cX10_tapeInt 3 none,
  Cond.code yX10_feed cX10_feed 6 (some .int),
  Cond.methodLink RX10 124 yX10_tapeInt,
  Cond.instanceMethod yX10_tapeInt,
  Cond.selects RX10 yX10_tapeInt yX10_tapeInt,
  Cond.fieldLink RX10 150 "HermitLadder$Pilgrim" "wind" "I",
  Cond.methodLink RX10 153 yX2_useWind,
  Cond.instanceMethod yX2_useWind,
  Cond.selects RX2 yX2_useWind yX2_useWind,
  Cond.methodLink RX10 156 yX1_forget,
  Cond.instanceMethod yX1_forget,
  Cond.selects RX1 yX1_forget yX1_forget,
  Cond.code yX10_settle cX10_settle 1 none,
  Cond.methodLink RX10 144 yX2_forget,
  Cond.methodLink RX10 147 yX10_settle,
  Cond.instanceMethod yX10_settle,
  Cond.selects RX10 yX10_settle yX10_settle,
  Cond.code yX10_startAnew cX10_startAnew 1 none,
  Cond.fieldLink RX10 132 "HermitLadder$Reader" "fault" "I",
  Cond.fieldLink RX10 141 "HermitLadder$Cliff" "lines" "I",
  Cond.methodLink RX10 128 yX5_readText,
  Cond.instanceMethod yX5_readText,
  Cond.selects RX5 yX5_readText yX5_readText,
  Cond.methodLink RX10 135 yX0_copyFrom,
  Cond.instanceMethod yX0_copyFrom,
  Cond.selects RX0 yX0_copyFrom yX0_copyFrom,
  Cond.methodLink RX10 138 yX10_startAnew,
  Cond.instanceMethod yX10_startAnew,
  Cond.selects RX10 yX10_startAnew yX10_startAnew,
  Cond.code yX10_cliff cX10_cliff 2 (some .int),
  Cond.code yX10_fault cX10_fault 2 (some .int),
  Cond.fieldLink RX10 157 "HermitLadder$Reader" "place" "I",
  Cond.code yX10_hole cX10_hole 3 (some .int),
  Cond.fieldLink RX10 164 "HermitLadder$Cliff" "bars" "[I",
  Cond.fieldLink RX10 167 "HermitLadder$Cliff" "gives" "[I",
  Cond.fieldLink RX10 170 "HermitLadder$Cliff" "rough" "[I",
  Cond.methodLink RX10 160 yX0_isRung,
  Cond.fieldLink RX10 173 "HermitLadder$Pilgrim" "stand" "I",
  Cond.methodLink RX10 176 yX3_refusal,
  Cond.code yX10_why cX10_why 2 (some .int),
  Cond.methodLink RX10 180 yX3_after,
  Cond.instanceMethod yX3_after,
  Cond.selects RX3 yX3_after yX3_after,
  Cond.methodLink RX10 183 yX10_rungOf,
  Cond.methodLink RX10 187 yX10_thingsOf,
  Cond.methodLink RX10 190 yX10_strengthOf,
  Cond.code yX10_by cX10_by 4 (some .int),
  Cond.fieldLink RX10 206 "HermitLadder$Pilgrim" "deeds" "I",
  Cond.methodLink RX10 203 yX3_behind,
  Cond.code yX10_step cX10_step 4 (some .int),
  Cond.code yX10_remember cX10_remember 3 none,
  Cond.methodLink RX10 193 yX4_copyFrom,
  Cond.instanceMethod yX4_copyFrom,
  Cond.selects RX4 yX4_copyFrom yX4_copyFrom,
  Cond.methodLink RX10 209 yX10_remember,
  Cond.instanceMethod yX10_remember,
  Cond.selects RX10 yX10_remember yX10_remember,
  Cond.code yX10_keepTrial cX10_keepTrial 1 none,
  Cond.methodLink RX10 196 yX10_step,
  Cond.instanceMethod yX10_step,
  Cond.selects RX10 yX10_step yX10_step,
  Cond.methodLink RX10 200 yX10_keepTrial,
  Cond.instanceMethod yX10_keepTrial,
  Cond.selects RX10 yX10_keepTrial yX10_keepTrial,
  Cond.code yX10_act cX10_act 3 (some .int),
  Cond.code yX10_wind cX10_wind 3 (some .int),
  Cond.methodLink RX10 212 yX3_habitual,
  Cond.code yX10_habit cX10_habit 3 (some .int),
  Cond.code yX10_undo cX10_undo 2 (some .int),
  Cond.code yX10_isTray cX10_isTray 1 (some .boolean),
  Cond.fieldLink RX10 226 "HermitLadder$Tray" "size" "I",
  Cond.methodLink RX10 229 yX9_deedAt,
  Cond.instanceMethod yX9_deedAt,
  Cond.selects RX9 yX9_deedAt yX9_deedAt,
  Cond.code yX10_follow cX10_follow 3 (some .int),
  Cond.fieldLink RX10 218 "HermitLadder$Tray" "missing" "Z",
  Cond.methodLink RX10 215 yX10_isTray,
  Cond.static yX10_isTray,
  Cond.methodLink RX10 222 yX10_follow,
  Cond.instanceMethod yX10_follow,
  Cond.selects RX10 yX10_follow yX10_follow,
  Cond.code yX10_judge cX10_judge 6 (some .int),
  Cond.code yX10_trayRefused cX10_trayRefused 2 (some .int),
  Cond.methodLink RX10 232 yX10_trayRefused,
  Cond.instanceMethod yX10_trayRefused,
  Cond.selects RX10 yX10_trayRefused yX10_trayRefused,
  Cond.code yX10_perform cX10_perform 4 (some .int),
  Cond.code yX10_nextSeed cX10_nextSeed 1 (some .int),
  Cond.constant RX10 241 (1103515245),
  Cond.code yX10_drawnDeed cX10_drawnDeed 2 (some .int),
  Cond.methodLink RX10 235 yX10_nextSeed,
  Cond.static yX10_nextSeed,
  Cond.methodLink RX10 238 yX10_drawnDeed,
  Cond.static yX10_drawnDeed,
  Cond.code yX10_year cX10_year 8 (some .int),
  Cond.code yX10_comingRefused cX10_comingRefused 3 (some .int),
  Cond.methodLink RX10 254 yX0_isSet,
  Cond.instanceMethod yX0_isSet,
  Cond.selects RX0 yX0_isSet yX0_isSet,
  Cond.methodLink RX10 242 yX10_comingRefused,
  Cond.instanceMethod yX10_comingRefused,
  Cond.selects RX10 yX10_comingRefused yX10_comingRefused,
  Cond.methodLink RX10 245 yX1_explore,
  Cond.instanceMethod yX1_explore,
  Cond.selects RX1 yX1_explore yX1_explore,
  Cond.methodLink RX10 248 yX1_goal,
  Cond.instanceMethod yX1_goal,
  Cond.selects RX1 yX1_goal yX1_goal,
  Cond.methodLink RX10 251 yX1_deedsTo,
  Cond.instanceMethod yX1_deedsTo,
  Cond.selects RX1 yX1_deedsTo yX1_deedsTo,
  Cond.code yX10_soonest cX10_soonest 4 (some .int),
  Cond.methodLink RX10 257 yX1_deedOnTheWay,
  Cond.instanceMethod yX1_deedOnTheWay,
  Cond.selects RX1 yX1_deedOnTheWay yX1_deedOnTheWay,
  Cond.code yX10_way cX10_way 5 (some .int),
  Cond.constantLong RX10 260 (-3),
  Cond.methodLink RX10 262 yX6_wantNothing,
  Cond.instanceMethod yX6_wantNothing,
  Cond.selects RX6 yX6_wantNothing yX6_wantNothing,
  Cond.methodLink RX10 265 yX6_tally,
  Cond.instanceMethod yX6_tally,
  Cond.selects RX6 yX6_tally yX6_tally,
  Cond.methodLink RX10 268 yX6_endingOn,
  Cond.instanceMethod yX6_endingOn,
  Cond.selects RX6 yX6_endingOn yX6_endingOn,
  Cond.code yX10_rows cX10_rows 5 (some .long),
  Cond.methodLink RX10 272 yX1_topRungWith,
  Cond.instanceMethod yX1_topRungWith,
  Cond.selects RX1 yX1_topRungWith yX1_topRungWith,
  Cond.code yX10_highest cX10_highest 2 (some .int),
  Cond.methodLink RX10 275 yX1_richestSet,
  Cond.instanceMethod yX1_richestSet,
  Cond.selects RX1 yX1_richestSet yX1_richestSet,
  Cond.methodLink RX10 278 yJ6_bitCount_0f7a4,
  Cond.code yX10_most cX10_most 4 (some .int),
  Cond.methodLink RX10 283 yX1_everHadOn,
  Cond.instanceMethod yX1_everHadOn,
  Cond.selects RX1 yX1_everHadOn yX1_everHadOn,
  Cond.code yX10_loses cX10_loses 3 (some .int),
  Cond.fieldLink RX10 286 "HermitLadder$Coming" "size" "I",
  Cond.code yX10_stands cX10_stands 1 (some .int),
  Cond.code yX10_lands cX10_lands 4 (some .int),
  Cond.methodLink RX10 287 yX0_isThing,
  Cond.methodLink RX10 290 yX0_holds,
  Cond.code yX10_isTenAndThing cX10_isTenAndThing 2 (some .boolean),
  Cond.methodLink RX10 294 yX10_isTenAndThing,
  Cond.instanceMethod yX10_isTenAndThing,
  Cond.selects RX10 yX10_isTenAndThing yX10_isTenAndThing,
  Cond.methodLink RX10 297 yX7_reckon,
  Cond.instanceMethod yX7_reckon,
  Cond.selects RX7 yX7_reckon yX7_reckon,
  Cond.methodLink RX10 301 yX7_landed,
  Cond.instanceMethod yX7_landed,
  Cond.selects RX7 yX7_landed yX7_landed,
  Cond.methodLink RX10 305 yX7_rungOfThing,
  Cond.instanceMethod yX7_rungOfThing,
  Cond.selects RX7 yX7_rungOfThing yX7_rungOfThing,
  Cond.code yX10_shares cX10_shares 4 (some .int),
  Cond.methodLink RX10 317 yX3_afterHabit,
  Cond.instanceMethod yX3_afterHabit,
  Cond.selects RX3 yX3_afterHabit yX3_afterHabit,
  Cond.code yX10_timesTillSettled cX10_timesTillSettled 4 (some .int),
  Cond.constant RX10 308 (99999),
  Cond.methodLink RX10 312 Lib.Math.min.name,
  Cond.methodLink RX10 309 yX10_timesTillSettled,
  Cond.instanceMethod yX10_timesTillSettled,
  Cond.selects RX10 yX10_timesTillSettled yX10_timesTillSettled,
  Cond.code yX10_lies cX10_lies 5 (some .int),
  Cond.code yX10_round cX10_round 2 (some .int),
  Cond.code yX10_when cX10_when 5 (some .int),
  Cond.code yX10_toldRefused cX10_toldRefused 8 (some .int),
  Cond.fieldLink RX10 337 "HermitLadder$Tray" "numbers" "[J",
  Cond.methodLink RX10 329 yX10_toldRefused,
  Cond.instanceMethod yX10_toldRefused,
  Cond.selects RX10 yX10_toldRefused yX10_toldRefused,
  Cond.methodLink RX10 333 yX6_want,
  Cond.instanceMethod yX6_want,
  Cond.selects RX6 yX6_want yX6_want,
  Cond.code yX10_tallySeen cX10_tallySeen 3 (some .int),
  Cond.methodLink RX10 320 yX10_tallySeen,
  Cond.instanceMethod yX10_tallySeen,
  Cond.selects RX10 yX10_tallySeen yX10_tallySeen,
  Cond.code yX10_seen cX10_seen 3 (some .long),
  Cond.methodLink RX10 323 yX6_deedOfFirst,
  Cond.instanceMethod yX6_deedOfFirst,
  Cond.selects RX6 yX6_deedOfFirst yX6_deedOfFirst,
  Cond.code yX10_seenBy cX10_seenBy 4 (some .int),
  Cond.methodLink RX10 326 yX6_commonThings,
  Cond.instanceMethod yX6_commonThings,
  Cond.selects RX6 yX6_commonThings yX6_commonThings,
  Cond.code yX10_surely cX10_surely 3 (some .int),
  Cond.code yX10_tiresAsTold cX10_tiresAsTold 5 (some .boolean),
  Cond.methodLink RX10 344 yX10_tiresAsTold,
  Cond.instanceMethod yX10_tiresAsTold,
  Cond.selects RX10 yX10_tiresAsTold yX10_tiresAsTold,
  Cond.code yX10_windsThatTire cX10_windsThatTire 4 (some .int),
  Cond.methodLink RX10 341 yX10_windsThatTire,
  Cond.instanceMethod yX10_windsThatTire,
  Cond.selects RX10 yX10_windsThatTire yX10_windsThatTire,
  Cond.code yX10_winds cX10_winds 3 (some .int),
  Cond.methodLink RX10 351 Lib.Math.max.name,
  Cond.code yX10_mostAlike cX10_mostAlike 9 (some .int),
  Cond.methodLink RX10 348 yX10_mostAlike,
  Cond.instanceMethod yX10_mostAlike,
  Cond.selects RX10 yX10_mostAlike yX10_mostAlike,
  Cond.code yX10_attempt cX10_attempt 8 (some .int),
  Cond.code yX10_withstands cX10_withstands 2 (some .int),
  Cond.methodLink RX10 354 yX8_reckon,
  Cond.instanceMethod yX8_reckon,
  Cond.selects RX8 yX8_reckon yX8_reckon,
  Cond.methodLink RX10 357 yX8_numerator,
  Cond.instanceMethod yX8_numerator,
  Cond.selects RX8 yX8_numerator yX8_numerator,
  Cond.methodLink RX10 360 yX8_denominator,
  Cond.instanceMethod yX8_denominator,
  Cond.selects RX8 yX8_denominator yX8_denominator,
  Cond.code yX10_chance cX10_chance 4 (some .int),
  Cond.fieldLink RX10 363 "HermitLadder$Slips" "firstDeed" "I",
  Cond.code yX10_best cX10_best 3 (some .int),
  Cond.code yX10_numbers cX10_numbers 4 (some .int),
  Cond.methodLink RX10 366 yX9_make,
  Cond.instanceMethod yX9_make,
  Cond.selects RX9 yX9_make yX9_make,
  Cond.code yX10_write cX10_write 6 (some .long),
  Cond.constantLong RX10 369 (-7),
  Cond.methodLink RX10 371 yX9_put,
  Cond.instanceMethod yX9_put,
  Cond.selects RX9 yX9_put yX9_put,
  Cond.code yX10_lists cX10_lists 7 (some .int),
  Cond.code yX10_isImage cX10_isImage 1 (some .boolean),
  Cond.methodLink RX10 375 yX10_isImage,
  Cond.static yX10_isImage,
  Cond.code yX10_image cX10_image 2 (some .int),
  Cond.code yX10_restore cX10_restore 2 (some .int),
  Cond.code yX10_count cX10_count 2 (some .int),
  Cond.fieldLink RX10 378 "HermitLadder$Cliff" "top" "I",
  Cond.fieldLink RX10 381 "HermitLadder$Cliff" "things" "I",
  Cond.code yJ9_max_7cf53 cJ9_max_7cf53 2 (some .int),
  Cond.code yJ9_max_f86c9 cJ9_max_f86c9 4 (some .long),
  Cond.code yJ9_min_7cf53 cJ9_min_7cf53 2 (some .int),
  Cond.code yJ9_min_f86c9 cJ9_min_f86c9 4 (some .long)]
abbrev zq_T : List Cond := zq_w ++ (u_ws RX0 TX0 17 ++ (u_ws RX1 TX1 6 ++ (u_ws RX2 TX2 5 ++ (u_ws RX3 TX3 5 ++ (u_ws RX4 TX4 3 ++ (u_ws RX5 TX5 10 ++ (u_ws RX6 TX6 7 ++ (u_ws RX7 TX7 3 ++ (u_ws RX8 TX8 11 ++ (u_ws RX9 TX9 4 ++ (u_ws RX10 TX10 18)))))))))))
theorem zq_layX0 : ∀ w ∈ u_ws RX0 TX0 17, w ∈ zq_T := fun _ h => List.mem_append_right _ (List.mem_append_left _ h)
theorem zq_layX1 : ∀ w ∈ u_ws RX1 TX1 6, w ∈ zq_T := fun _ h => List.mem_append_right _ (List.mem_append_right _ (List.mem_append_left _ h))
theorem zq_layX2 : ∀ w ∈ u_ws RX2 TX2 5, w ∈ zq_T := fun _ h => List.mem_append_right _ (List.mem_append_right _ (List.mem_append_right _ (List.mem_append_left _ h)))
theorem zq_layX3 : ∀ w ∈ u_ws RX3 TX3 5, w ∈ zq_T := fun _ h => List.mem_append_right _ (List.mem_append_right _ (List.mem_append_right _ (List.mem_append_right _ (List.mem_append_left _ h))))
theorem zq_layX4 : ∀ w ∈ u_ws RX4 TX4 3, w ∈ zq_T := fun _ h => List.mem_append_right _ (List.mem_append_right _ (List.mem_append_right _ (List.mem_append_right _ (List.mem_append_right _ (List.mem_append_left _ h)))))
theorem zq_layX5 : ∀ w ∈ u_ws RX5 TX5 10, w ∈ zq_T := fun _ h => List.mem_append_right _ (List.mem_append_right _ (List.mem_append_right _ (List.mem_append_right _ (List.mem_append_right _ (List.mem_append_right _ (List.mem_append_left _ h))))))
theorem zq_layX6 : ∀ w ∈ u_ws RX6 TX6 7, w ∈ zq_T := fun _ h => List.mem_append_right _ (List.mem_append_right _ (List.mem_append_right _ (List.mem_append_right _ (List.mem_append_right _ (List.mem_append_right _ (List.mem_append_right _ (List.mem_append_left _ h)))))))
theorem zq_layX7 : ∀ w ∈ u_ws RX7 TX7 3, w ∈ zq_T := fun _ h => List.mem_append_right _ (List.mem_append_right _ (List.mem_append_right _ (List.mem_append_right _ (List.mem_append_right _ (List.mem_append_right _ (List.mem_append_right _ (List.mem_append_right _ (List.mem_append_left _ h))))))))
theorem zq_layX8 : ∀ w ∈ u_ws RX8 TX8 11, w ∈ zq_T := fun _ h => List.mem_append_right _ (List.mem_append_right _ (List.mem_append_right _ (List.mem_append_right _ (List.mem_append_right _ (List.mem_append_right _ (List.mem_append_right _ (List.mem_append_right _ (List.mem_append_right _ (List.mem_append_left _ h)))))))))
theorem zq_layX9 : ∀ w ∈ u_ws RX9 TX9 4, w ∈ zq_T := fun _ h => List.mem_append_right _ (List.mem_append_right _ (List.mem_append_right _ (List.mem_append_right _ (List.mem_append_right _ (List.mem_append_right _ (List.mem_append_right _ (List.mem_append_right _ (List.mem_append_right _ (List.mem_append_right _ (List.mem_append_left _ h))))))))))
theorem zq_layX10 : ∀ w ∈ u_ws RX10 TX10 18, w ∈ zq_T := fun _ h => List.mem_append_right _ (List.mem_append_right _ (List.mem_append_right _ (List.mem_append_right _ (List.mem_append_right _ (List.mem_append_right _ (List.mem_append_right _ (List.mem_append_right _ (List.mem_append_right _ (List.mem_append_right _ (List.mem_append_right _ (h)))))))))))
theorem zq_in {w : Cond} (i : Nat) (h : zq_w[i]? = some w) : w ∈ zq_T := List.mem_append_left _ (List.mem_of_getElem? h)
set_option maxRecDepth 20000 in
theorem zq_good : zq_T.all goodWord = true := by decide +kernel
theorem zq_gi {ws : List Cond} (h : ∀ w ∈ ws, w ∈ zq_T) : GoodIn zq_T ws := fun w hw => ⟨h w hw, good_of_word (List.all_eq_true.mp zq_good w (h w hw))⟩
theorem zq_C {c : Cond} (h : c ∈ zq_T) : GoodIn zq_T (c :: zq_T) := zq_gi (fun w hw => by
  rcases List.mem_cons.mp hw with rfl | h2
  · exact h
  · exact h2)
theorem zq_V {own C : String} {idx : Nat} {y : MethodName} {c : ByteArray} {n : Nat} {r : Option FieldType} (h1 : Cond.methodLink own idx y ∈ zq_T) (h2 : Cond.instanceMethod y ∈ zq_T) (h3 : Cond.selects C y y ∈ zq_T) (h4 : Cond.initialized C ∈ zq_T) (h5 : Cond.code y c n r ∈ zq_T) : GoodIn zq_T (wsV own idx C y (.code y c n r :: zq_T)) := zq_gi (fun w hw => by
  simp only [wsV, List.mem_append (s := ([.methodLink own idx y, .instanceMethod y, .selects C y y, .initialized C] : List Cond)), List.mem_cons, List.not_mem_nil, or_false] at hw
  rcases hw with (rfl | rfl | rfl | rfl) | rfl | h
  · exact h1
  · exact h2
  · exact h3
  · exact h4
  · exact h5
  · exact h)
theorem zq_S {own : String} {idx : Nat} {y : MethodName} {c : ByteArray} {n : Nat} {r : Option FieldType} (h1 : Cond.methodLink own idx y ∈ zq_T) (h2 : Cond.static y ∈ zq_T) (h4 : Cond.initialized own ∈ zq_T) (h5 : Cond.code y c n r ∈ zq_T) : GoodIn zq_T (wsS own idx y (.code y c n r :: zq_T)) := zq_gi (fun w hw => by
  simp only [wsS, List.mem_append (s := ([.methodLink own idx y, .static y, .initialized own] : List Cond)), List.mem_cons, List.not_mem_nil, or_false] at hw
  rcases hw with (rfl | rfl | rfl) | rfl | h
  · exact h1
  · exact h2
  · exact h4
  · exact h5
  · exact h)
theorem zq_X {own : String} {idx : Nat} {y : MethodName} {c : ByteArray} {n : Nat} {r : Option FieldType} (h1 : Cond.methodLink own idx y ∈ zq_T) (h2 : Cond.static y ∈ zq_T) (h4 : Cond.initialized y.cls ∈ zq_T) (h5 : Cond.code y c n r ∈ zq_T) : GoodIn zq_T (va_wsS own idx y (.code y c n r :: zq_T)) := zq_gi (fun w hw => by
  simp only [va_wsS, List.mem_append (s := ([.methodLink own idx y, .static y, .initialized y.cls] : List Cond)), List.mem_cons, List.not_mem_nil, or_false] at hw
  rcases hw with (rfl | rfl | rfl) | rfl | h
  · exact h1
  · exact h2
  · exact h4
  · exact h5
  · exact h)
theorem zq_0 : Cond.code yX0_init cX0_init 1 none ∈ zq_T := zq_in 0 rfl
theorem zq_1 : Cond.methodLink RX0 3 objectInit ∈ zq_T := zq_in 1 rfl
theorem zq_2 : Cond.instanceMethod objectInit ∈ zq_T := zq_in 2 rfl
theorem zq_3 : Cond.code objectInit ⟨#[0xb1]⟩ 1 none ∈ zq_T := zq_in 3 rfl
theorem zq_4 : Cond.arrayClass .int ∈ zq_T := zq_in 4 rfl
theorem zq_5 : Cond.fieldLink RX0 9 "HermitLadder$Cliff" "bars" "[I" ∈ zq_T := zq_in 5 rfl
theorem zq_6 : Cond.fieldLink RX0 15 "HermitLadder$Cliff" "gives" "[I" ∈ zq_T := zq_in 6 rfl
theorem zq_7 : Cond.fieldLink RX0 18 "HermitLadder$Cliff" "rough" "[I" ∈ zq_T := zq_in 7 rfl
theorem zq_8 : Cond.fieldLink RX0 21 "HermitLadder$Cliff" "code" "[I" ∈ zq_T := zq_in 8 rfl
theorem zq_9 : Cond.fieldLink RX0 24 "HermitLadder$Cliff" "top" "I" ∈ zq_T := zq_in 9 rfl
theorem zq_10 : Cond.fieldLink RX0 28 "HermitLadder$Cliff" "startStrength" "I" ∈ zq_T := zq_in 10 rfl
theorem zq_11 : Cond.code yX0_clear cX0_clear 1 none ∈ zq_T := zq_in 11 rfl
theorem zq_12 : Cond.fieldLink RX0 31 "HermitLadder$Cliff" "things" "I" ∈ zq_T := zq_in 12 rfl
theorem zq_13 : Cond.fieldLink RX0 40 "HermitLadder$Cliff" "startRung" "I" ∈ zq_T := zq_in 13 rfl
theorem zq_14 : Cond.fieldLink RX0 43 "HermitLadder$Cliff" "startThings" "I" ∈ zq_T := zq_in 14 rfl
theorem zq_15 : Cond.fieldLink RX0 46 "HermitLadder$Cliff" "startWind" "I" ∈ zq_T := zq_in 15 rfl
theorem zq_16 : Cond.fieldLink RX0 49 "HermitLadder$Cliff" "slips" "I" ∈ zq_T := zq_in 16 rfl
theorem zq_17 : Cond.fieldLink RX0 52 "HermitLadder$Cliff" "lines" "I" ∈ zq_T := zq_in 17 rfl
theorem zq_18 : Cond.fieldLink RX0 55 "HermitLadder$Cliff" "coded" "I" ∈ zq_T := zq_in 18 rfl
theorem zq_19 : Cond.fieldLink RX0 58 "HermitLadder$Cliff" "tiresFrom" "I" ∈ zq_T := zq_in 19 rfl
theorem zq_20 : Cond.fieldLink RX0 61 "HermitLadder$Cliff" "tiresTo" "I" ∈ zq_T := zq_in 20 rfl
theorem zq_21 : Cond.fieldLink RX0 64 "HermitLadder$Cliff" "mayFrom" "I" ∈ zq_T := zq_in 21 rfl
theorem zq_22 : Cond.fieldLink RX0 67 "HermitLadder$Cliff" "mayTo" "I" ∈ zq_T := zq_in 22 rfl
theorem zq_23 : Cond.methodLink RX0 34 yJ7_fill_53178 ∈ zq_T := zq_in 23 rfl
theorem zq_24 : Cond.static yJ7_fill_53178 ∈ zq_T := zq_in 24 rfl
theorem zq_25 : Cond.initialized RJ7 ∈ zq_T := zq_in 25 rfl
theorem zq_26 : Cond.code yJ7_fill_53178 cJ7_fill_53178 4 none ∈ zq_T := zq_in 26 rfl
theorem zq_27 : Cond.code yX0_copyFrom cX0_copyFrom 2 none ∈ zq_T := zq_in 27 rfl
theorem zq_28 : Cond.methodLink RX0 70 arraycopyName ∈ zq_T := zq_in 28 rfl
theorem zq_29 : Cond.native arraycopyName ∈ zq_T := zq_in 29 rfl
theorem zq_30 : Cond.static arraycopyName ∈ zq_T := zq_in 30 rfl
theorem zq_31 : Cond.initialized "java/lang/System" ∈ zq_T := zq_in 31 rfl
theorem zq_32 : Cond.code yX0_isRung cX0_isRung 2 (some .boolean) ∈ zq_T := zq_in 32 rfl
theorem zq_33 : Cond.code yX0_isThing cX0_isThing 2 (some .boolean) ∈ zq_T := zq_in 33 rfl
theorem zq_34 : Cond.code yX0_isSet cX0_isSet 2 (some .boolean) ∈ zq_T := zq_in 34 rfl
theorem zq_35 : Cond.code yX0_holds cX0_holds 3 (some .boolean) ∈ zq_T := zq_in 35 rfl
theorem zq_36 : Cond.code yX0_addSign cX0_addSign 2 (some .boolean) ∈ zq_T := zq_in 36 rfl
theorem zq_37 : Cond.code yX1_init cX1_init 2 none ∈ zq_T := zq_in 37 rfl
theorem zq_38 : Cond.methodLink RX1 3 objectInit ∈ zq_T := zq_in 38 rfl
theorem zq_39 : Cond.fieldLink RX1 9 "HermitLadder$Coming" "order" "[I" ∈ zq_T := zq_in 39 rfl
theorem zq_40 : Cond.fieldLink RX1 15 "HermitLadder$Coming" "depth" "[I" ∈ zq_T := zq_in 40 rfl
theorem zq_41 : Cond.fieldLink RX1 18 "HermitLadder$Coming" "from" "[I" ∈ zq_T := zq_in 41 rfl
theorem zq_42 : Cond.fieldLink RX1 21 "HermitLadder$Coming" "size" "I" ∈ zq_T := zq_in 42 rfl
theorem zq_43 : Cond.fieldLink RX1 25 "HermitLadder$Coming" "known" "Z" ∈ zq_T := zq_in 43 rfl
theorem zq_44 : Cond.fieldLink RX1 29 "HermitLadder$Coming" "moves" "LHermitLadder$Moves;" ∈ zq_T := zq_in 44 rfl
theorem zq_45 : Cond.code yX1_forget cX1_forget 1 none ∈ zq_T := zq_in 45 rfl
theorem zq_46 : Cond.fieldLink RX1 49 "HermitLadder$Moves" "ends" "[I" ∈ zq_T := zq_in 46 rfl
theorem zq_47 : Cond.methodLink RX1 43 yX3_gather ∈ zq_T := zq_in 47 rfl
theorem zq_48 : Cond.instanceMethod yX3_gather ∈ zq_T := zq_in 48 rfl
theorem zq_49 : Cond.selects RX3 yX3_gather yX3_gather ∈ zq_T := zq_in 49 rfl
theorem zq_50 : Cond.initialized RX3 ∈ zq_T := zq_in 50 rfl
theorem zq_51 : Cond.code yX3_gather cX3_gather 5 (some .int) ∈ zq_T := zq_in 51 rfl
theorem zq_52 : Cond.fieldLink RX3 18 "HermitLadder$Moves" "found" "I" ∈ zq_T := zq_in 52 rfl
theorem zq_53 : Cond.fieldLink RX3 26 "HermitLadder$Moves" "laws" "LHermitLadder$Laws;" ∈ zq_T := zq_in 53 rfl
theorem zq_54 : Cond.fieldLink RX3 22 "HermitLadder$Moves" "cliff" "LHermitLadder$Cliff;" ∈ zq_T := zq_in 54 rfl
theorem zq_55 : Cond.fieldLink RX3 62 "HermitLadder$Cliff" "gives" "[I" ∈ zq_T := zq_in 55 rfl
theorem zq_56 : Cond.fieldLink RX3 59 "HermitLadder$Cliff" "bars" "[I" ∈ zq_T := zq_in 56 rfl
theorem zq_57 : Cond.static yX10_rungOf ∈ zq_T := zq_in 57 rfl
theorem zq_58 : Cond.initialized RX10 ∈ zq_T := zq_in 58 rfl
theorem zq_59 : Cond.code yX10_rungOf cX10_rungOf 1 (some .int) ∈ zq_T := zq_in 59 rfl
theorem zq_60 : Cond.static yX10_thingsOf ∈ zq_T := zq_in 60 rfl
theorem zq_61 : Cond.code yX10_thingsOf cX10_thingsOf 1 (some .int) ∈ zq_T := zq_in 61 rfl
theorem zq_62 : Cond.static yX10_strengthOf ∈ zq_T := zq_in 62 rfl
theorem zq_63 : Cond.code yX10_strengthOf cX10_strengthOf 1 (some .int) ∈ zq_T := zq_in 63 rfl
theorem zq_64 : Cond.methodLink RX3 82 yX3_keep ∈ zq_T := zq_in 64 rfl
theorem zq_65 : Cond.instanceMethod yX3_keep ∈ zq_T := zq_in 65 rfl
theorem zq_66 : Cond.selects RX3 yX3_keep yX3_keep ∈ zq_T := zq_in 66 rfl
theorem zq_67 : Cond.code yX3_keep cX3_keep 3 none ∈ zq_T := zq_in 67 rfl
theorem zq_68 : Cond.fieldLink RX3 9 "HermitLadder$Moves" "deeds" "[I" ∈ zq_T := zq_in 68 rfl
theorem zq_69 : Cond.fieldLink RX3 15 "HermitLadder$Moves" "ends" "[I" ∈ zq_T := zq_in 69 rfl
theorem zq_70 : Cond.methodLink RX3 37 yX3_entryRefusal ∈ zq_T := zq_in 70 rfl
theorem zq_71 : Cond.instanceMethod yX3_entryRefusal ∈ zq_T := zq_in 71 rfl
theorem zq_72 : Cond.selects RX3 yX3_entryRefusal yX3_entryRefusal ∈ zq_T := zq_in 72 rfl
theorem zq_73 : Cond.code yX3_entryRefusal cX3_entryRefusal 3 (some .int) ∈ zq_T := zq_in 73 rfl
theorem zq_74 : Cond.methodLink RX3 56 yX0_isRung ∈ zq_T := zq_in 74 rfl
theorem zq_75 : Cond.instanceMethod yX0_isRung ∈ zq_T := zq_in 75 rfl
theorem zq_76 : Cond.selects RX0 yX0_isRung yX0_isRung ∈ zq_T := zq_in 76 rfl
theorem zq_77 : Cond.initialized RX0 ∈ zq_T := zq_in 77 rfl
theorem zq_78 : Cond.methodLink RX3 41 yX2_strengthAbove ∈ zq_T := zq_in 78 rfl
theorem zq_79 : Cond.instanceMethod yX2_strengthAbove ∈ zq_T := zq_in 79 rfl
theorem zq_80 : Cond.selects RX2 yX2_strengthAbove yX2_strengthAbove ∈ zq_T := zq_in 80 rfl
theorem zq_81 : Cond.initialized RX2 ∈ zq_T := zq_in 81 rfl
theorem zq_82 : Cond.code yX2_strengthAbove cX2_strengthAbove 8 (some .int) ∈ zq_T := zq_in 82 rfl
theorem zq_83 : Cond.fieldLink RX2 27 "HermitLadder$Laws" "cliff" "LHermitLadder$Cliff;" ∈ zq_T := zq_in 83 rfl
theorem zq_84 : Cond.fieldLink RX2 55 "HermitLadder$Cliff" "top" "I" ∈ zq_T := zq_in 84 rfl
theorem zq_85 : Cond.fieldLink RX2 11 "HermitLadder$Laws" "told" "[I" ∈ zq_T := zq_in 85 rfl
theorem zq_86 : Cond.fieldLink RX2 62 "HermitLadder$Cliff" "mayFrom" "I" ∈ zq_T := zq_in 86 rfl
theorem zq_87 : Cond.fieldLink RX2 65 "HermitLadder$Cliff" "mayTo" "I" ∈ zq_T := zq_in 87 rfl
theorem zq_88 : Cond.fieldLink RX2 72 "HermitLadder$Cliff" "tiresFrom" "I" ∈ zq_T := zq_in 88 rfl
theorem zq_89 : Cond.fieldLink RX2 75 "HermitLadder$Cliff" "tiresTo" "I" ∈ zq_T := zq_in 89 rfl
theorem zq_90 : Cond.methodLink RX2 78 Lib.Math.min.name ∈ zq_T := zq_in 90 rfl
theorem zq_91 : Cond.static Lib.Math.min.name ∈ zq_T := zq_in 91 rfl
theorem zq_92 : Cond.initialized "java/lang/Math" ∈ zq_T := zq_in 92 rfl
theorem zq_93 : Cond.code Lib.Math.min.name Lib.Math.min.code 2 (some .int) ∈ zq_T := zq_in 93 rfl
theorem zq_94 : Cond.methodLink RX2 83 Lib.Math.max.name ∈ zq_T := zq_in 94 rfl
theorem zq_95 : Cond.static Lib.Math.max.name ∈ zq_T := zq_in 95 rfl
theorem zq_96 : Cond.code Lib.Math.max.name Lib.Math.max.code 2 (some .int) ∈ zq_T := zq_in 96 rfl
theorem zq_97 : Cond.methodLink RX2 47 yJ6_bitCount_0f7a4 ∈ zq_T := zq_in 97 rfl
theorem zq_98 : Cond.static yJ6_bitCount_0f7a4 ∈ zq_T := zq_in 98 rfl
theorem zq_99 : Cond.initialized RJ6 ∈ zq_T := zq_in 99 rfl
theorem zq_100 : Cond.code yJ6_bitCount_0f7a4 cJ6_bitCount_0f7a4 1 (some .int) ∈ zq_T := zq_in 100 rfl
theorem zq_101 : Cond.constant RJ6 265 (1431655765) ∈ zq_T := zq_in 101 rfl
theorem zq_102 : Cond.constant RJ6 266 (858993459) ∈ zq_T := zq_in 102 rfl
theorem zq_103 : Cond.constant RJ6 267 (252645135) ∈ zq_T := zq_in 103 rfl
theorem zq_104 : Cond.methodLink RX2 58 yX2_learnFacts ∈ zq_T := zq_in 104 rfl
theorem zq_105 : Cond.instanceMethod yX2_learnFacts ∈ zq_T := zq_in 105 rfl
theorem zq_106 : Cond.selects RX2 yX2_learnFacts yX2_learnFacts ∈ zq_T := zq_in 106 rfl
theorem zq_107 : Cond.code yX2_learnFacts cX2_learnFacts 4 none ∈ zq_T := zq_in 107 rfl
theorem zq_108 : Cond.fieldLink RX2 17 "HermitLadder$Laws" "facts" "[I" ∈ zq_T := zq_in 108 rfl
theorem zq_109 : Cond.fieldLink RX2 86 "HermitLadder$Cliff" "rough" "[I" ∈ zq_T := zq_in 109 rfl
theorem zq_110 : Cond.fieldLink RX2 23 "HermitLadder$Laws" "wind" "I" ∈ zq_T := zq_in 110 rfl
theorem zq_111 : Cond.fieldLink RX2 89 "HermitLadder$Cliff" "things" "I" ∈ zq_T := zq_in 111 rfl
theorem zq_112 : Cond.fieldLink RX2 92 "HermitLadder$Cliff" "bars" "[I" ∈ zq_T := zq_in 112 rfl
theorem zq_113 : Cond.methodLink RX2 68 yX2_reckon ∈ zq_T := zq_in 113 rfl
theorem zq_114 : Cond.instanceMethod yX2_reckon ∈ zq_T := zq_in 114 rfl
theorem zq_115 : Cond.selects RX2 yX2_reckon yX2_reckon ∈ zq_T := zq_in 115 rfl
theorem zq_116 : Cond.code yX2_reckon cX2_reckon 6 (some .int) ∈ zq_T := zq_in 116 rfl
theorem zq_117 : Cond.fieldLink RX2 95 "HermitLadder$Cliff" "code" "[I" ∈ zq_T := zq_in 117 rfl
theorem zq_118 : Cond.fieldLink RX2 20 "HermitLadder$Laws" "stack" "[I" ∈ zq_T := zq_in 118 rfl
theorem zq_119 : Cond.methodLink RX2 98 yX2_operate ∈ zq_T := zq_in 119 rfl
theorem zq_120 : Cond.instanceMethod yX2_operate ∈ zq_T := zq_in 120 rfl
theorem zq_121 : Cond.selects RX2 yX2_operate yX2_operate ∈ zq_T := zq_in 121 rfl
theorem zq_122 : Cond.code yX2_operate cX2_operate 9 (some .int) ∈ zq_T := zq_in 122 rfl
theorem zq_123 : Cond.constantLong RX2 101 (-1000000) ∈ zq_T := zq_in 123 rfl
theorem zq_124 : Cond.constantLong RX2 103 (1000000) ∈ zq_T := zq_in 124 rfl
theorem zq_125 : Cond.methodLink RX2 105 Lib.MathLoose.min_long.x ∈ zq_T := zq_in 125 rfl
theorem zq_126 : Cond.static Lib.MathLoose.min_long.x ∈ zq_T := zq_in 126 rfl
theorem zq_127 : Cond.code Lib.MathLoose.min_long.x Lib.MathLoose.min_long.code 4 (some .long) ∈ zq_T := zq_in 127 rfl
theorem zq_128 : Cond.methodLink RX2 108 Lib.MathLoose.max_long.x ∈ zq_T := zq_in 128 rfl
theorem zq_129 : Cond.static Lib.MathLoose.max_long.x ∈ zq_T := zq_in 129 rfl
theorem zq_130 : Cond.code Lib.MathLoose.max_long.x Lib.MathLoose.max_long.code 4 (some .long) ∈ zq_T := zq_in 130 rfl
theorem zq_131 : Cond.static yX10_standOf ∈ zq_T := zq_in 131 rfl
theorem zq_132 : Cond.code yX10_standOf cX10_standOf 3 (some .int) ∈ zq_T := zq_in 132 rfl
theorem zq_133 : Cond.methodLink RX3 86 yX3_gatherThings ∈ zq_T := zq_in 133 rfl
theorem zq_134 : Cond.instanceMethod yX3_gatherThings ∈ zq_T := zq_in 134 rfl
theorem zq_135 : Cond.selects RX3 yX3_gatherThings yX3_gatherThings ∈ zq_T := zq_in 135 rfl
theorem zq_136 : Cond.code yX3_gatherThings cX3_gatherThings 8 none ∈ zq_T := zq_in 136 rfl
theorem zq_137 : Cond.code yX1_leaveFrom cX1_leaveFrom 5 none ∈ zq_T := zq_in 137 rfl
theorem zq_138 : Cond.methodLink RX1 33 yJ7_fill_53178 ∈ zq_T := zq_in 138 rfl
theorem zq_139 : Cond.methodLink RX1 39 yX1_leaveFrom ∈ zq_T := zq_in 139 rfl
theorem zq_140 : Cond.instanceMethod yX1_leaveFrom ∈ zq_T := zq_in 140 rfl
theorem zq_141 : Cond.selects RX1 yX1_leaveFrom yX1_leaveFrom ∈ zq_T := zq_in 141 rfl
theorem zq_142 : Cond.initialized RX1 ∈ zq_T := zq_in 142 rfl
theorem zq_143 : Cond.code yX1_explore cX1_explore 3 none ∈ zq_T := zq_in 143 rfl
theorem zq_144 : Cond.code yX1_goal cX1_goal 4 (some .int) ∈ zq_T := zq_in 144 rfl
theorem zq_145 : Cond.code yX1_deedsTo cX1_deedsTo 2 (some .int) ∈ zq_T := zq_in 145 rfl
theorem zq_146 : Cond.fieldLink RX1 62 "HermitLadder$Moves" "deeds" "[I" ∈ zq_T := zq_in 146 rfl
theorem zq_147 : Cond.code yX1_firstDeed cX1_firstDeed 5 (some .int) ∈ zq_T := zq_in 147 rfl
theorem zq_148 : Cond.methodLink RX1 58 yX1_firstDeed ∈ zq_T := zq_in 148 rfl
theorem zq_149 : Cond.instanceMethod yX1_firstDeed ∈ zq_T := zq_in 149 rfl
theorem zq_150 : Cond.selects RX1 yX1_firstDeed yX1_firstDeed ∈ zq_T := zq_in 150 rfl
theorem zq_151 : Cond.code yX1_deedOnTheWay cX1_deedOnTheWay 5 (some .int) ∈ zq_T := zq_in 151 rfl
theorem zq_152 : Cond.code yX1_topRungWith cX1_topRungWith 4 (some .int) ∈ zq_T := zq_in 152 rfl
theorem zq_153 : Cond.methodLink RX1 65 Lib.Math.max.name ∈ zq_T := zq_in 153 rfl
theorem zq_154 : Cond.code yX1_isRicher cX1_isRicher 3 (some .boolean) ∈ zq_T := zq_in 154 rfl
theorem zq_155 : Cond.methodLink RX1 74 yJ6_bitCount_0f7a4 ∈ zq_T := zq_in 155 rfl
theorem zq_156 : Cond.code yX1_richestSet cX1_richestSet 4 (some .int) ∈ zq_T := zq_in 156 rfl
theorem zq_157 : Cond.methodLink RX1 70 yX1_isRicher ∈ zq_T := zq_in 157 rfl
theorem zq_158 : Cond.static yX1_isRicher ∈ zq_T := zq_in 158 rfl
theorem zq_159 : Cond.code yX1_everHadOn cX1_everHadOn 5 (some .int) ∈ zq_T := zq_in 159 rfl
theorem zq_160 : Cond.code yX2_forget cX2_forget 1 none ∈ zq_T := zq_in 160 rfl
theorem zq_161 : Cond.methodLink RX2 34 yJ7_fill_53178 ∈ zq_T := zq_in 161 rfl
theorem zq_162 : Cond.code yX2_init cX2_init 2 none ∈ zq_T := zq_in 162 rfl
theorem zq_163 : Cond.methodLink RX2 3 objectInit ∈ zq_T := zq_in 163 rfl
theorem zq_164 : Cond.methodLink RX2 31 yX2_forget ∈ zq_T := zq_in 164 rfl
theorem zq_165 : Cond.instanceMethod yX2_forget ∈ zq_T := zq_in 165 rfl
theorem zq_166 : Cond.selects RX2 yX2_forget yX2_forget ∈ zq_T := zq_in 166 rfl
theorem zq_167 : Cond.code yX2_useWind cX2_useWind 2 none ∈ zq_T := zq_in 167 rfl
theorem zq_168 : Cond.code yX3_init cX3_init 3 none ∈ zq_T := zq_in 168 rfl
theorem zq_169 : Cond.methodLink RX3 3 objectInit ∈ zq_T := zq_in 169 rfl
theorem zq_170 : Cond.code yX3_takeRefusal cX3_takeRefusal 4 (some .int) ∈ zq_T := zq_in 170 rfl
theorem zq_171 : Cond.methodLink RX3 46 yX0_isThing ∈ zq_T := zq_in 171 rfl
theorem zq_172 : Cond.instanceMethod yX0_isThing ∈ zq_T := zq_in 172 rfl
theorem zq_173 : Cond.selects RX0 yX0_isThing yX0_isThing ∈ zq_T := zq_in 173 rfl
theorem zq_174 : Cond.methodLink RX3 52 yX3_takeRefusal ∈ zq_T := zq_in 174 rfl
theorem zq_175 : Cond.instanceMethod yX3_takeRefusal ∈ zq_T := zq_in 175 rfl
theorem zq_176 : Cond.selects RX3 yX3_takeRefusal yX3_takeRefusal ∈ zq_T := zq_in 176 rfl
theorem zq_177 : Cond.code yX3_refusal cX3_refusal 6 (some .int) ∈ zq_T := zq_in 177 rfl
theorem zq_178 : Cond.methodLink RX3 74 Lib.Math.min.name ∈ zq_T := zq_in 178 rfl
theorem zq_179 : Cond.code yX3_behind cX3_behind 7 (some .int) ∈ zq_T := zq_in 179 rfl
theorem zq_180 : Cond.methodLink RX3 65 yX3_refusal ∈ zq_T := zq_in 180 rfl
theorem zq_181 : Cond.instanceMethod yX3_refusal ∈ zq_T := zq_in 181 rfl
theorem zq_182 : Cond.selects RX3 yX3_refusal yX3_refusal ∈ zq_T := zq_in 182 rfl
theorem zq_183 : Cond.methodLink RX3 68 yX3_behind ∈ zq_T := zq_in 183 rfl
theorem zq_184 : Cond.instanceMethod yX3_behind ∈ zq_T := zq_in 184 rfl
theorem zq_185 : Cond.selects RX3 yX3_behind yX3_behind ∈ zq_T := zq_in 185 rfl
theorem zq_186 : Cond.code yX3_after cX3_after 3 (some .int) ∈ zq_T := zq_in 186 rfl
theorem zq_187 : Cond.code yX3_habitual cX3_habitual 5 (some .int) ∈ zq_T := zq_in 187 rfl
theorem zq_188 : Cond.methodLink RX3 90 yX3_habitual ∈ zq_T := zq_in 188 rfl
theorem zq_189 : Cond.instanceMethod yX3_habitual ∈ zq_T := zq_in 189 rfl
theorem zq_190 : Cond.selects RX3 yX3_habitual yX3_habitual ∈ zq_T := zq_in 190 rfl
theorem zq_191 : Cond.code yX3_afterHabit cX3_afterHabit 2 (some .int) ∈ zq_T := zq_in 191 rfl
theorem zq_192 : Cond.code yX4_init cX4_init 1 none ∈ zq_T := zq_in 192 rfl
theorem zq_193 : Cond.methodLink RX4 1 objectInit ∈ zq_T := zq_in 193 rfl
theorem zq_194 : Cond.fieldLink RX4 7 "HermitLadder$Pilgrim" "stand" "I" ∈ zq_T := zq_in 194 rfl
theorem zq_195 : Cond.fieldLink RX4 13 "HermitLadder$Pilgrim" "wind" "I" ∈ zq_T := zq_in 195 rfl
theorem zq_196 : Cond.fieldLink RX4 16 "HermitLadder$Pilgrim" "deeds" "I" ∈ zq_T := zq_in 196 rfl
theorem zq_197 : Cond.code yX4_begin cX4_begin 2 none ∈ zq_T := zq_in 197 rfl
theorem zq_198 : Cond.fieldLink RX4 19 "HermitLadder$Cliff" "startRung" "I" ∈ zq_T := zq_in 198 rfl
theorem zq_199 : Cond.fieldLink RX4 24 "HermitLadder$Cliff" "startThings" "I" ∈ zq_T := zq_in 199 rfl
theorem zq_200 : Cond.fieldLink RX4 27 "HermitLadder$Cliff" "startStrength" "I" ∈ zq_T := zq_in 200 rfl
theorem zq_201 : Cond.fieldLink RX4 36 "HermitLadder$Cliff" "startWind" "I" ∈ zq_T := zq_in 201 rfl
theorem zq_202 : Cond.code yX4_copyFrom cX4_copyFrom 2 none ∈ zq_T := zq_in 202 rfl
theorem zq_203 : Cond.code yX5_init cX5_init 2 none ∈ zq_T := zq_in 203 rfl
theorem zq_204 : Cond.methodLink RX5 3 objectInit ∈ zq_T := zq_in 204 rfl
theorem zq_205 : Cond.fieldLink RX5 9 "HermitLadder$Reader" "fault" "I" ∈ zq_T := zq_in 205 rfl
theorem zq_206 : Cond.fieldLink RX5 15 "HermitLadder$Reader" "place" "I" ∈ zq_T := zq_in 206 rfl
theorem zq_207 : Cond.fieldLink RX5 18 "HermitLadder$Reader" "text" "[I" ∈ zq_T := zq_in 207 rfl
theorem zq_208 : Cond.code yX5_isDigit cX5_isDigit 1 (some .boolean) ∈ zq_T := zq_in 208 rfl
theorem zq_209 : Cond.code yX5_isLetter cX5_isLetter 1 (some .boolean) ∈ zq_T := zq_in 209 rfl
theorem zq_210 : Cond.methodLink RX5 272 yJ0_indexOf_0f7a4 ∈ zq_T := zq_in 210 rfl
theorem zq_211 : Cond.instanceMethod yJ0_indexOf_0f7a4 ∈ zq_T := zq_in 211 rfl
theorem zq_212 : Cond.selects RJ0 yJ0_indexOf_0f7a4 yJ0_indexOf_0f7a4 ∈ zq_T := zq_in 212 rfl
theorem zq_213 : Cond.initialized RJ0 ∈ zq_T := zq_in 213 rfl
theorem zq_214 : Cond.code yJ0_indexOf_0f7a4 cJ0_indexOf_0f7a4 2 (some .int) ∈ zq_T := zq_in 214 rfl
theorem zq_215 : Cond.methodLink RJ0 633 yJ0_indexOf_7cf53 ∈ zq_T := zq_in 215 rfl
theorem zq_216 : Cond.instanceMethod yJ0_indexOf_7cf53 ∈ zq_T := zq_in 216 rfl
theorem zq_217 : Cond.selects RJ0 yJ0_indexOf_7cf53 yJ0_indexOf_7cf53 ∈ zq_T := zq_in 217 rfl
theorem zq_218 : Cond.code yJ0_indexOf_7cf53 cJ0_indexOf_7cf53 3 (some .int) ∈ zq_T := zq_in 218 rfl
theorem zq_219 : Cond.fieldLink RJ0 9 "java/lang/String" "value" "[B" ∈ zq_T := zq_in 219 rfl
theorem zq_220 : Cond.methodLink RJ0 492 yJ0_isLatin1_aae02 ∈ zq_T := zq_in 220 rfl
theorem zq_221 : Cond.instanceMethod yJ0_isLatin1_aae02 ∈ zq_T := zq_in 221 rfl
theorem zq_222 : Cond.selects RJ0 yJ0_isLatin1_aae02 yJ0_isLatin1_aae02 ∈ zq_T := zq_in 222 rfl
theorem zq_223 : Cond.code yJ0_isLatin1_aae02 cJ0_isLatin1_aae02 1 (some .boolean) ∈ zq_T := zq_in 223 rfl
theorem zq_224 : Cond.fieldLink RJ0 38 "java/lang/String" "COMPACT_STRINGS" "Z" ∈ zq_T := zq_in 224 rfl
theorem zq_225 : Cond.fieldLink RJ0 15 "java/lang/String" "coder" "B" ∈ zq_T := zq_in 225 rfl
theorem zq_226 : Cond.methodLink RJ0 505 yJ0_length_8abf5 ∈ zq_T := zq_in 226 rfl
theorem zq_227 : Cond.instanceMethod yJ0_length_8abf5 ∈ zq_T := zq_in 227 rfl
theorem zq_228 : Cond.selects RJ0 yJ0_length_8abf5 yJ0_length_8abf5 ∈ zq_T := zq_in 228 rfl
theorem zq_229 : Cond.code yJ0_length_8abf5 cJ0_length_8abf5 1 (some .int) ∈ zq_T := zq_in 229 rfl
theorem zq_230 : Cond.methodLink RJ0 335 yJ0_coder_7d493 ∈ zq_T := zq_in 230 rfl
theorem zq_231 : Cond.instanceMethod yJ0_coder_7d493 ∈ zq_T := zq_in 231 rfl
theorem zq_232 : Cond.selects RJ0 yJ0_coder_7d493 yJ0_coder_7d493 ∈ zq_T := zq_in 232 rfl
theorem zq_233 : Cond.code yJ0_coder_7d493 cJ0_coder_7d493 1 (some .byte) ∈ zq_T := zq_in 233 rfl
theorem zq_234 : Cond.methodLink RJ0 637 yJ1_indexOf_4cfef ∈ zq_T := zq_in 234 rfl
theorem zq_235 : Cond.static yJ1_indexOf_4cfef ∈ zq_T := zq_in 235 rfl
theorem zq_236 : Cond.initialized RJ1 ∈ zq_T := zq_in 236 rfl
theorem zq_237 : Cond.code yJ1_indexOf_4cfef cJ1_indexOf_4cfef 4 (some .int) ∈ zq_T := zq_in 237 rfl
theorem zq_238 : Cond.methodLink RJ1 92 Lib.Math.max.name ∈ zq_T := zq_in 238 rfl
theorem zq_239 : Cond.methodLink RJ1 38 Lib.Math.min.name ∈ zq_T := zq_in 239 rfl
theorem zq_240 : Cond.methodLink RJ1 88 yJ1_canEncode_9a6ad ∈ zq_T := zq_in 240 rfl
theorem zq_241 : Cond.static yJ1_canEncode_9a6ad ∈ zq_T := zq_in 241 rfl
theorem zq_242 : Cond.code yJ1_canEncode_9a6ad cJ1_canEncode_9a6ad 1 (some .boolean) ∈ zq_T := zq_in 242 rfl
theorem zq_243 : Cond.methodLink RJ1 95 yJ1_indexOfChar_4cfef ∈ zq_T := zq_in 243 rfl
theorem zq_244 : Cond.static yJ1_indexOfChar_4cfef ∈ zq_T := zq_in 244 rfl
theorem zq_245 : Cond.code yJ1_indexOfChar_4cfef cJ1_indexOfChar_4cfef 6 (some .int) ∈ zq_T := zq_in 245 rfl
theorem zq_246 : Cond.methodLink RJ0 640 yJ2_indexOf_4cfef ∈ zq_T := zq_in 246 rfl
theorem zq_247 : Cond.static yJ2_indexOf_4cfef ∈ zq_T := zq_in 247 rfl
theorem zq_248 : Cond.initialized RJ2 ∈ zq_T := zq_in 248 rfl
theorem zq_249 : Cond.code yJ2_indexOf_4cfef cJ2_indexOf_4cfef 4 (some .int) ∈ zq_T := zq_in 249 rfl
theorem zq_250 : Cond.methodLink RJ2 224 Lib.Math.max.name ∈ zq_T := zq_in 250 rfl
theorem zq_251 : Cond.methodLink RJ2 183 Lib.Math.min.name ∈ zq_T := zq_in 251 rfl
theorem zq_252 : Cond.constant RJ2 227 (65536) ∈ zq_T := zq_in 252 rfl
theorem zq_253 : Cond.methodLink RJ2 228 yJ2_indexOfChar_4cfef ∈ zq_T := zq_in 253 rfl
theorem zq_254 : Cond.static yJ2_indexOfChar_4cfef ∈ zq_T := zq_in 254 rfl
theorem zq_255 : Cond.code yJ2_indexOfChar_4cfef cJ2_indexOfChar_4cfef 4 (some .int) ∈ zq_T := zq_in 255 rfl
theorem zq_256 : Cond.methodLink RJ2 96 yJ2_checkBoundsBeginEnd_d044e ∈ zq_T := zq_in 256 rfl
theorem zq_257 : Cond.static yJ2_checkBoundsBeginEnd_d044e ∈ zq_T := zq_in 257 rfl
theorem zq_258 : Cond.code yJ2_checkBoundsBeginEnd_d044e cJ2_checkBoundsBeginEnd_d044e 3 none ∈ zq_T := zq_in 258 rfl
theorem zq_259 : Cond.methodLink RJ2 48 yJ2_length_9d52b ∈ zq_T := zq_in 259 rfl
theorem zq_260 : Cond.static yJ2_length_9d52b ∈ zq_T := zq_in 260 rfl
theorem zq_261 : Cond.code yJ2_length_9d52b cJ2_length_9d52b 1 (some .int) ∈ zq_T := zq_in 261 rfl
theorem zq_262 : Cond.methodLink RJ2 241 yJ0_checkBoundsBeginEnd_23922 ∈ zq_T := zq_in 262 rfl
theorem zq_263 : Cond.static yJ0_checkBoundsBeginEnd_23922 ∈ zq_T := zq_in 263 rfl
theorem zq_264 : Cond.code yJ0_checkBoundsBeginEnd_23922 cJ0_checkBoundsBeginEnd_23922 3 none ∈ zq_T := zq_in 264 rfl
theorem zq_265 : Cond.fieldLink RJ0 1053 "jdk/internal/util/Preconditions" "SIOOBE_FORMATTER" "Ljava/util/function/BiFunction;" ∈ zq_T := zq_in 265 rfl
theorem zq_266 : Cond.methodLink RJ0 1062 yJ3_checkFromToIndex_8c36e ∈ zq_T := zq_in 266 rfl
theorem zq_267 : Cond.static yJ3_checkFromToIndex_8c36e ∈ zq_T := zq_in 267 rfl
theorem zq_268 : Cond.initialized RJ3 ∈ zq_T := zq_in 268 rfl
theorem zq_269 : Cond.code yJ3_checkFromToIndex_8c36e cJ3_checkFromToIndex_8c36e 4 (some .int) ∈ zq_T := zq_in 269 rfl
theorem zq_270 : Cond.methodLink RJ2 244 yJ2_indexOfCharUnsafe_4cfef ∈ zq_T := zq_in 270 rfl
theorem zq_271 : Cond.static yJ2_indexOfCharUnsafe_4cfef ∈ zq_T := zq_in 271 rfl
theorem zq_272 : Cond.code yJ2_indexOfCharUnsafe_4cfef cJ2_indexOfCharUnsafe_4cfef 5 (some .int) ∈ zq_T := zq_in 272 rfl
theorem zq_273 : Cond.methodLink RJ2 71 yJ2_getChar_3b067 ∈ zq_T := zq_in 273 rfl
theorem zq_274 : Cond.static yJ2_getChar_3b067 ∈ zq_T := zq_in 274 rfl
theorem zq_275 : Cond.code yJ2_getChar_3b067 cJ2_getChar_3b067 2 (some .char) ∈ zq_T := zq_in 275 rfl
theorem zq_276 : Cond.fieldLink RJ2 44 "java/lang/StringUTF16" "$assertionsDisabled" "Z" ∈ zq_T := zq_in 276 rfl
theorem zq_277 : Cond.fieldLink RJ2 59 "java/lang/StringUTF16" "HI_BYTE_SHIFT" "I" ∈ zq_T := zq_in 277 rfl
theorem zq_278 : Cond.fieldLink RJ2 63 "java/lang/StringUTF16" "LO_BYTE_SHIFT" "I" ∈ zq_T := zq_in 278 rfl
theorem zq_279 : Cond.methodLink RJ2 232 yJ2_indexOfSupplementary_4cfef ∈ zq_T := zq_in 279 rfl
theorem zq_280 : Cond.static yJ2_indexOfSupplementary_4cfef ∈ zq_T := zq_in 280 rfl
theorem zq_281 : Cond.code yJ2_indexOfSupplementary_4cfef cJ2_indexOfSupplementary_4cfef 7 (some .int) ∈ zq_T := zq_in 281 rfl
theorem zq_282 : Cond.methodLink RJ2 164 yJ11_isValidCodePoint_9a6ad ∈ zq_T := zq_in 282 rfl
theorem zq_283 : Cond.static yJ11_isValidCodePoint_9a6ad ∈ zq_T := zq_in 283 rfl
theorem zq_284 : Cond.initialized RJ11 ∈ zq_T := zq_in 284 rfl
theorem zq_285 : Cond.code yJ11_isValidCodePoint_9a6ad cJ11_isValidCodePoint_9a6ad 2 (some .boolean) ∈ zq_T := zq_in 285 rfl
theorem zq_286 : Cond.methodLink RJ2 157 yJ11_highSurrogate_5068e ∈ zq_T := zq_in 286 rfl
theorem zq_287 : Cond.static yJ11_highSurrogate_5068e ∈ zq_T := zq_in 287 rfl
theorem zq_288 : Cond.code yJ11_highSurrogate_5068e cJ11_highSurrogate_5068e 1 (some .char) ∈ zq_T := zq_in 288 rfl
theorem zq_289 : Cond.constant RJ11 110 (55232) ∈ zq_T := zq_in 289 rfl
theorem zq_290 : Cond.methodLink RJ2 161 yJ11_lowSurrogate_5068e ∈ zq_T := zq_in 290 rfl
theorem zq_291 : Cond.static yJ11_lowSurrogate_5068e ∈ zq_T := zq_in 291 rfl
theorem zq_292 : Cond.code yJ11_lowSurrogate_5068e cJ11_lowSurrogate_5068e 1 (some .char) ∈ zq_T := zq_in 292 rfl
theorem zq_293 : Cond.constant RJ11 76 (56320) ∈ zq_T := zq_in 293 rfl
theorem zq_294 : Cond.code yX5_isSign cX5_isSign 1 (some .boolean) ∈ zq_T := zq_in 294 rfl
theorem zq_295 : Cond.fieldLink RX5 31 "HermitLadder$Reader" "end" "I" ∈ zq_T := zq_in 295 rfl
theorem zq_296 : Cond.fieldLink RX5 247 "HermitLadder$Reader" "start" "I" ∈ zq_T := zq_in 296 rfl
theorem zq_297 : Cond.fieldLink RX5 28 "HermitLadder$Reader" "length" "I" ∈ zq_T := zq_in 297 rfl
theorem zq_298 : Cond.fieldLink RX5 218 "HermitLadder$Reader" "value" "I" ∈ zq_T := zq_in 298 rfl
theorem zq_299 : Cond.fieldLink RX5 50 "HermitLadder$Reader" "kind" "I" ∈ zq_T := zq_in 299 rfl
theorem zq_300 : Cond.methodLink RX5 267 Lib.Math.max.name ∈ zq_T := zq_in 300 rfl
theorem zq_301 : Cond.methodLink RX5 258 yX5_isDigit ∈ zq_T := zq_in 301 rfl
theorem zq_302 : Cond.static yX5_isDigit ∈ zq_T := zq_in 302 rfl
theorem zq_303 : Cond.initialized RX5 ∈ zq_T := zq_in 303 rfl
theorem zq_304 : Cond.methodLink RX5 261 yX5_isLetter ∈ zq_T := zq_in 304 rfl
theorem zq_305 : Cond.static yX5_isLetter ∈ zq_T := zq_in 305 rfl
theorem zq_306 : Cond.methodLink RX5 264 yX5_isSign ∈ zq_T := zq_in 306 rfl
theorem zq_307 : Cond.static yX5_isSign ∈ zq_T := zq_in 307 rfl
theorem zq_308 : Cond.code yX5_advance cX5_advance 1 none ∈ zq_T := zq_in 308 rfl
theorem zq_309 : Cond.methodLink RX5 250 yJ0_length_8abf5 ∈ zq_T := zq_in 309 rfl
theorem zq_310 : Cond.methodLink RX5 254 yJ0_charAt_5068e ∈ zq_T := zq_in 310 rfl
theorem zq_311 : Cond.instanceMethod yJ0_charAt_5068e ∈ zq_T := zq_in 311 rfl
theorem zq_312 : Cond.selects RJ0 yJ0_charAt_5068e yJ0_charAt_5068e ∈ zq_T := zq_in 312 rfl
theorem zq_313 : Cond.code yJ0_charAt_5068e cJ0_charAt_5068e 2 (some .char) ∈ zq_T := zq_in 313 rfl
theorem zq_314 : Cond.methodLink RJ0 495 yJ1_charAt_3b067 ∈ zq_T := zq_in 314 rfl
theorem zq_315 : Cond.static yJ1_charAt_3b067 ∈ zq_T := zq_in 315 rfl
theorem zq_316 : Cond.code yJ1_charAt_3b067 cJ1_charAt_3b067 2 (some .char) ∈ zq_T := zq_in 316 rfl
theorem zq_317 : Cond.methodLink RJ1 9 yJ0_checkIndex_df160 ∈ zq_T := zq_in 317 rfl
theorem zq_318 : Cond.static yJ0_checkIndex_df160 ∈ zq_T := zq_in 318 rfl
theorem zq_319 : Cond.code yJ0_checkIndex_df160 cJ0_checkIndex_df160 2 none ∈ zq_T := zq_in 319 rfl
theorem zq_320 : Cond.methodLink RJ0 1059 yJ3_checkIndex_8e157 ∈ zq_T := zq_in 320 rfl
theorem zq_321 : Cond.static yJ3_checkIndex_8e157 ∈ zq_T := zq_in 321 rfl
theorem zq_322 : Cond.code yJ3_checkIndex_8e157 cJ3_checkIndex_8e157 3 (some .int) ∈ zq_T := zq_in 322 rfl
theorem zq_323 : Cond.methodLink RJ0 498 yJ2_charAt_3b067 ∈ zq_T := zq_in 323 rfl
theorem zq_324 : Cond.static yJ2_charAt_3b067 ∈ zq_T := zq_in 324 rfl
theorem zq_325 : Cond.code yJ2_charAt_3b067 cJ2_charAt_3b067 2 (some .char) ∈ zq_T := zq_in 325 rfl
theorem zq_326 : Cond.methodLink RJ2 67 yJ2_checkIndex_2214a ∈ zq_T := zq_in 326 rfl
theorem zq_327 : Cond.static yJ2_checkIndex_2214a ∈ zq_T := zq_in 327 rfl
theorem zq_328 : Cond.code yJ2_checkIndex_2214a cJ2_checkIndex_2214a 2 none ∈ zq_T := zq_in 328 rfl
theorem zq_329 : Cond.methodLink RJ2 414 yJ0_checkIndex_df160 ∈ zq_T := zq_in 329 rfl
theorem zq_330 : Cond.code yX5_tokenIs cX5_tokenIs 3 (some .boolean) ∈ zq_T := zq_in 330 rfl
theorem zq_331 : Cond.code yX5_findFault cX5_findFault 2 (some .boolean) ∈ zq_T := zq_in 331 rfl
theorem zq_332 : Cond.code yX5_refuse cX5_refuse 1 (some .boolean) ∈ zq_T := zq_in 332 rfl
theorem zq_333 : Cond.methodLink RX5 244 yX5_findFault ∈ zq_T := zq_in 333 rfl
theorem zq_334 : Cond.instanceMethod yX5_findFault ∈ zq_T := zq_in 334 rfl
theorem zq_335 : Cond.selects RX5 yX5_findFault yX5_findFault ∈ zq_T := zq_in 335 rfl
theorem zq_336 : Cond.methodLink RX5 187 yX5_tokenIs ∈ zq_T := zq_in 336 rfl
theorem zq_337 : Cond.instanceMethod yX5_tokenIs ∈ zq_T := zq_in 337 rfl
theorem zq_338 : Cond.selects RX5 yX5_tokenIs yX5_tokenIs ∈ zq_T := zq_in 338 rfl
theorem zq_339 : Cond.methodLink RX5 112 yX5_refuse ∈ zq_T := zq_in 339 rfl
theorem zq_340 : Cond.instanceMethod yX5_refuse ∈ zq_T := zq_in 340 rfl
theorem zq_341 : Cond.selects RX5 yX5_refuse yX5_refuse ∈ zq_T := zq_in 341 rfl
theorem zq_342 : Cond.methodLink RX5 43 yX5_advance ∈ zq_T := zq_in 342 rfl
theorem zq_343 : Cond.instanceMethod yX5_advance ∈ zq_T := zq_in 343 rfl
theorem zq_344 : Cond.selects RX5 yX5_advance yX5_advance ∈ zq_T := zq_in 344 rfl
theorem zq_345 : Cond.code yX5_expect cX5_expect 2 (some .boolean) ∈ zq_T := zq_in 345 rfl
theorem zq_346 : Cond.code yX5_readNumber cX5_readNumber 4 (some .int) ∈ zq_T := zq_in 346 rfl
theorem zq_347 : Cond.fieldLink RX5 34 "HermitLadder$Reader" "cliff" "LHermitLadder$Cliff;" ∈ zq_T := zq_in 347 rfl
theorem zq_348 : Cond.fieldLink RX5 73 "HermitLadder$Cliff" "top" "I" ∈ zq_T := zq_in 348 rfl
theorem zq_349 : Cond.fieldLink RX5 76 "HermitLadder$Cliff" "things" "I" ∈ zq_T := zq_in 349 rfl
theorem zq_350 : Cond.fieldLink RX5 62 "HermitLadder$Cliff" "lines" "I" ∈ zq_T := zq_in 350 rfl
theorem zq_351 : Cond.methodLink RX5 58 yX5_expect ∈ zq_T := zq_in 351 rfl
theorem zq_352 : Cond.instanceMethod yX5_expect ∈ zq_T := zq_in 352 rfl
theorem zq_353 : Cond.selects RX5 yX5_expect yX5_expect ∈ zq_T := zq_in 353 rfl
theorem zq_354 : Cond.methodLink RX5 68 yX5_readNumber ∈ zq_T := zq_in 354 rfl
theorem zq_355 : Cond.instanceMethod yX5_readNumber ∈ zq_T := zq_in 355 rfl
theorem zq_356 : Cond.selects RX5 yX5_readNumber yX5_readNumber ∈ zq_T := zq_in 356 rfl
theorem zq_357 : Cond.code yX5_readFirstLine cX5_readFirstLine 3 (some .boolean) ∈ zq_T := zq_in 357 rfl
theorem zq_358 : Cond.code yX5_accept cX5_accept 2 (some .boolean) ∈ zq_T := zq_in 358 rfl
theorem zq_359 : Cond.code yX5_readThing cX5_readThing 1 (some .int) ∈ zq_T := zq_in 359 rfl
theorem zq_360 : Cond.fieldLink RX5 121 "HermitLadder$Cliff" "bars" "[I" ∈ zq_T := zq_in 360 rfl
theorem zq_361 : Cond.fieldLink RX5 125 "HermitLadder$Cliff" "gives" "[I" ∈ zq_T := zq_in 361 rfl
theorem zq_362 : Cond.fieldLink RX5 129 "HermitLadder$Cliff" "rough" "[I" ∈ zq_T := zq_in 362 rfl
theorem zq_363 : Cond.methodLink RX5 80 yX5_accept ∈ zq_T := zq_in 363 rfl
theorem zq_364 : Cond.instanceMethod yX5_accept ∈ zq_T := zq_in 364 rfl
theorem zq_365 : Cond.selects RX5 yX5_accept yX5_accept ∈ zq_T := zq_in 365 rfl
theorem zq_366 : Cond.methodLink RX5 117 yX5_readThing ∈ zq_T := zq_in 366 rfl
theorem zq_367 : Cond.instanceMethod yX5_readThing ∈ zq_T := zq_in 367 rfl
theorem zq_368 : Cond.selects RX5 yX5_readThing yX5_readThing ∈ zq_T := zq_in 368 rfl
theorem zq_369 : Cond.code yX5_readHole cX5_readHole 5 (some .boolean) ∈ zq_T := zq_in 369 rfl
theorem zq_370 : Cond.fieldLink RX5 133 "HermitLadder$Cliff" "startRung" "I" ∈ zq_T := zq_in 370 rfl
theorem zq_371 : Cond.fieldLink RX5 138 "HermitLadder$Cliff" "startStrength" "I" ∈ zq_T := zq_in 371 rfl
theorem zq_372 : Cond.fieldLink RX5 141 "HermitLadder$Cliff" "startThings" "I" ∈ zq_T := zq_in 372 rfl
theorem zq_373 : Cond.code yX5_readPilgrim cX5_readPilgrim 4 (some .boolean) ∈ zq_T := zq_in 373 rfl
theorem zq_374 : Cond.code yX5_goDeeper cX5_goDeeper 2 (some .boolean) ∈ zq_T := zq_in 374 rfl
theorem zq_375 : Cond.fieldLink RX5 146 "HermitLadder$Reader" "inMay" "Z" ∈ zq_T := zq_in 375 rfl
theorem zq_376 : Cond.code yX5_factTold cX5_factTold 1 (some .int) ∈ zq_T := zq_in 376 rfl
theorem zq_377 : Cond.code yX5_comparison cX5_comparison 1 (some .int) ∈ zq_T := zq_in 377 rfl
theorem zq_378 : Cond.methodLink RX5 177 yX0_addSign ∈ zq_T := zq_in 378 rfl
theorem zq_379 : Cond.instanceMethod yX0_addSign ∈ zq_T := zq_in 379 rfl
theorem zq_380 : Cond.selects RX0 yX0_addSign yX0_addSign ∈ zq_T := zq_in 380 rfl
theorem zq_381 : Cond.methodLink RX5 190 yX5_goDeeper ∈ zq_T := zq_in 381 rfl
theorem zq_382 : Cond.instanceMethod yX5_goDeeper ∈ zq_T := zq_in 382 rfl
theorem zq_383 : Cond.selects RX5 yX5_goDeeper yX5_goDeeper ∈ zq_T := zq_in 383 rfl
theorem zq_384 : Cond.methodLink RX5 153 yX5_readSum ∈ zq_T := zq_in 384 rfl
theorem zq_385 : Cond.instanceMethod yX5_readSum ∈ zq_T := zq_in 385 rfl
theorem zq_386 : Cond.selects RX5 yX5_readSum yX5_readSum ∈ zq_T := zq_in 386 rfl
theorem zq_387 : Cond.methodLink RX5 227 yX5_readIf ∈ zq_T := zq_in 387 rfl
theorem zq_388 : Cond.instanceMethod yX5_readIf ∈ zq_T := zq_in 388 rfl
theorem zq_389 : Cond.selects RX5 yX5_readIf yX5_readIf ∈ zq_T := zq_in 389 rfl
theorem zq_390 : Cond.methodLink RX5 230 yX5_factTold ∈ zq_T := zq_in 390 rfl
theorem zq_391 : Cond.instanceMethod yX5_factTold ∈ zq_T := zq_in 391 rfl
theorem zq_392 : Cond.selects RX5 yX5_factTold yX5_factTold ∈ zq_T := zq_in 392 rfl
theorem zq_393 : Cond.code yX5_readBoth cX5_readBoth 4 (some .boolean) ∈ zq_T := zq_in 393 rfl
theorem zq_394 : Cond.methodLink RX5 180 yX5_readUnit ∈ zq_T := zq_in 394 rfl
theorem zq_395 : Cond.instanceMethod yX5_readUnit ∈ zq_T := zq_in 395 rfl
theorem zq_396 : Cond.selects RX5 yX5_readUnit yX5_readUnit ∈ zq_T := zq_in 396 rfl
theorem zq_397 : Cond.code yX5_readIf cX5_readIf 2 (some .boolean) ∈ zq_T := zq_in 397 rfl
theorem zq_398 : Cond.methodLink RX5 163 yX5_readTruth ∈ zq_T := zq_in 398 rfl
theorem zq_399 : Cond.instanceMethod yX5_readTruth ∈ zq_T := zq_in 399 rfl
theorem zq_400 : Cond.selects RX5 yX5_readTruth yX5_readTruth ∈ zq_T := zq_in 400 rfl
set_option maxRecDepth 20000 in
theorem zq_401 : Cond.code yX5_readSum cX5_readSum 4 (some .boolean) ∈ zq_T := zq_in 401 rfl
set_option maxRecDepth 20000 in
theorem zq_402 : Cond.methodLink RX5 206 yX5_readTerm ∈ zq_T := zq_in 402 rfl
set_option maxRecDepth 20000 in
theorem zq_403 : Cond.instanceMethod yX5_readTerm ∈ zq_T := zq_in 403 rfl
set_option maxRecDepth 20000 in
theorem zq_404 : Cond.selects RX5 yX5_readTerm yX5_readTerm ∈ zq_T := zq_in 404 rfl
set_option maxRecDepth 20000 in
theorem zq_405 : Cond.code yX5_readTerm cX5_readTerm 4 (some .boolean) ∈ zq_T := zq_in 405 rfl
set_option maxRecDepth 20000 in
theorem zq_406 : Cond.methodLink RX5 213 yX5_readAtom ∈ zq_T := zq_in 406 rfl
set_option maxRecDepth 20000 in
theorem zq_407 : Cond.instanceMethod yX5_readAtom ∈ zq_T := zq_in 407 rfl
set_option maxRecDepth 20000 in
theorem zq_408 : Cond.selects RX5 yX5_readAtom yX5_readAtom ∈ zq_T := zq_in 408 rfl
set_option maxRecDepth 20000 in
theorem zq_409 : Cond.code yX5_readTruth cX5_readTruth 4 (some .boolean) ∈ zq_T := zq_in 409 rfl
set_option maxRecDepth 20000 in
theorem zq_410 : Cond.methodLink RX5 172 yX5_readBoth ∈ zq_T := zq_in 410 rfl
set_option maxRecDepth 20000 in
theorem zq_411 : Cond.instanceMethod yX5_readBoth ∈ zq_T := zq_in 411 rfl
set_option maxRecDepth 20000 in
theorem zq_412 : Cond.selects RX5 yX5_readBoth yX5_readBoth ∈ zq_T := zq_in 412 rfl
set_option maxRecDepth 20000 in
theorem zq_413 : Cond.code yX5_readUnit cX5_readUnit 3 (some .boolean) ∈ zq_T := zq_in 413 rfl
set_option maxRecDepth 20000 in
theorem zq_414 : Cond.methodLink RX5 197 yX5_comparison ∈ zq_T := zq_in 414 rfl
set_option maxRecDepth 20000 in
theorem zq_415 : Cond.instanceMethod yX5_comparison ∈ zq_T := zq_in 415 rfl
set_option maxRecDepth 20000 in
theorem zq_416 : Cond.selects RX5 yX5_comparison yX5_comparison ∈ zq_T := zq_in 416 rfl
set_option maxRecDepth 20000 in
theorem zq_417 : Cond.code yX5_readAtom cX5_readAtom 3 (some .boolean) ∈ zq_T := zq_in 417 rfl
set_option maxRecDepth 20000 in
theorem zq_418 : Cond.fieldLink RX5 150 "HermitLadder$Cliff" "coded" "I" ∈ zq_T := zq_in 418 rfl
set_option maxRecDepth 20000 in
theorem zq_419 : Cond.fieldLink RX5 157 "HermitLadder$Cliff" "tiresFrom" "I" ∈ zq_T := zq_in 419 rfl
set_option maxRecDepth 20000 in
theorem zq_420 : Cond.fieldLink RX5 160 "HermitLadder$Cliff" "tiresTo" "I" ∈ zq_T := zq_in 420 rfl
set_option maxRecDepth 20000 in
theorem zq_421 : Cond.code yX5_readTires cX5_readTires 3 (some .boolean) ∈ zq_T := zq_in 421 rfl
set_option maxRecDepth 20000 in
theorem zq_422 : Cond.fieldLink RX5 166 "HermitLadder$Cliff" "mayFrom" "I" ∈ zq_T := zq_in 422 rfl
set_option maxRecDepth 20000 in
theorem zq_423 : Cond.fieldLink RX5 169 "HermitLadder$Cliff" "mayTo" "I" ∈ zq_T := zq_in 423 rfl
set_option maxRecDepth 20000 in
theorem zq_424 : Cond.code yX5_readMay cX5_readMay 3 (some .boolean) ∈ zq_T := zq_in 424 rfl
set_option maxRecDepth 20000 in
theorem zq_425 : Cond.fieldLink RX5 93 "HermitLadder$Cliff" "startWind" "I" ∈ zq_T := zq_in 425 rfl
set_option maxRecDepth 20000 in
theorem zq_426 : Cond.fieldLink RX5 98 "HermitLadder$Cliff" "slips" "I" ∈ zq_T := zq_in 426 rfl
set_option maxRecDepth 20000 in
theorem zq_427 : Cond.methodLink RX5 83 yX5_readHole ∈ zq_T := zq_in 427 rfl
set_option maxRecDepth 20000 in
theorem zq_428 : Cond.instanceMethod yX5_readHole ∈ zq_T := zq_in 428 rfl
set_option maxRecDepth 20000 in
theorem zq_429 : Cond.selects RX5 yX5_readHole yX5_readHole ∈ zq_T := zq_in 429 rfl
set_option maxRecDepth 20000 in
theorem zq_430 : Cond.methodLink RX5 88 yX5_readPilgrim ∈ zq_T := zq_in 430 rfl
set_option maxRecDepth 20000 in
theorem zq_431 : Cond.instanceMethod yX5_readPilgrim ∈ zq_T := zq_in 431 rfl
set_option maxRecDepth 20000 in
theorem zq_432 : Cond.selects RX5 yX5_readPilgrim yX5_readPilgrim ∈ zq_T := zq_in 432 rfl
set_option maxRecDepth 20000 in
theorem zq_433 : Cond.methodLink RX5 104 yX5_readTires ∈ zq_T := zq_in 433 rfl
set_option maxRecDepth 20000 in
theorem zq_434 : Cond.instanceMethod yX5_readTires ∈ zq_T := zq_in 434 rfl
set_option maxRecDepth 20000 in
theorem zq_435 : Cond.selects RX5 yX5_readTires yX5_readTires ∈ zq_T := zq_in 435 rfl
set_option maxRecDepth 20000 in
theorem zq_436 : Cond.methodLink RX5 109 yX5_readMay ∈ zq_T := zq_in 436 rfl
set_option maxRecDepth 20000 in
theorem zq_437 : Cond.instanceMethod yX5_readMay ∈ zq_T := zq_in 437 rfl
set_option maxRecDepth 20000 in
theorem zq_438 : Cond.selects RX5 yX5_readMay yX5_readMay ∈ zq_T := zq_in 438 rfl
set_option maxRecDepth 20000 in
theorem zq_439 : Cond.code yX5_readLine cX5_readLine 1 (some .boolean) ∈ zq_T := zq_in 439 rfl
set_option maxRecDepth 20000 in
theorem zq_440 : Cond.methodLink RX5 22 Lib.Math.min.name ∈ zq_T := zq_in 440 rfl
set_option maxRecDepth 20000 in
theorem zq_441 : Cond.methodLink RX5 38 yX0_clear ∈ zq_T := zq_in 441 rfl
set_option maxRecDepth 20000 in
theorem zq_442 : Cond.instanceMethod yX0_clear ∈ zq_T := zq_in 442 rfl
set_option maxRecDepth 20000 in
theorem zq_443 : Cond.selects RX0 yX0_clear yX0_clear ∈ zq_T := zq_in 443 rfl
set_option maxRecDepth 20000 in
theorem zq_444 : Cond.methodLink RX5 46 yX5_readFirstLine ∈ zq_T := zq_in 444 rfl
set_option maxRecDepth 20000 in
theorem zq_445 : Cond.instanceMethod yX5_readFirstLine ∈ zq_T := zq_in 445 rfl
set_option maxRecDepth 20000 in
theorem zq_446 : Cond.selects RX5 yX5_readFirstLine yX5_readFirstLine ∈ zq_T := zq_in 446 rfl
set_option maxRecDepth 20000 in
theorem zq_447 : Cond.methodLink RX5 53 yX5_readLine ∈ zq_T := zq_in 447 rfl
set_option maxRecDepth 20000 in
theorem zq_448 : Cond.instanceMethod yX5_readLine ∈ zq_T := zq_in 448 rfl
set_option maxRecDepth 20000 in
theorem zq_449 : Cond.selects RX5 yX5_readLine yX5_readLine ∈ zq_T := zq_in 449 rfl
set_option maxRecDepth 20000 in
theorem zq_450 : Cond.code yX5_readText cX5_readText 5 (some .boolean) ∈ zq_T := zq_in 450 rfl
set_option maxRecDepth 20000 in
theorem zq_451 : Cond.code yX6_init cX6_init 6 none ∈ zq_T := zq_in 451 rfl
set_option maxRecDepth 20000 in
theorem zq_452 : Cond.methodLink RX6 3 objectInit ∈ zq_T := zq_in 452 rfl
set_option maxRecDepth 20000 in
theorem zq_453 : Cond.fieldLink RX6 9 "HermitLadder$Rows" "wanted" "[I" ∈ zq_T := zq_in 453 rfl
set_option maxRecDepth 20000 in
theorem zq_454 : Cond.fieldLink RX6 15 "HermitLadder$Rows" "length" "I" ∈ zq_T := zq_in 454 rfl
set_option maxRecDepth 20000 in
theorem zq_455 : Cond.fieldLink RX6 19 "HermitLadder$Rows" "moves" "LHermitLadder$Moves;" ∈ zq_T := zq_in 455 rfl
set_option maxRecDepth 20000 in
theorem zq_456 : Cond.fieldLink RX6 23 "HermitLadder$Rows" "coming" "LHermitLadder$Coming;" ∈ zq_T := zq_in 456 rfl
set_option maxRecDepth 20000 in
theorem zq_457 : Cond.fieldLink RX6 27 "HermitLadder$Rows" "levels" "[I" ∈ zq_T := zq_in 457 rfl
set_option maxRecDepth 20000 in
theorem zq_458 : Cond.fieldLink RX6 30 "HermitLadder$Rows" "counts" "[J" ∈ zq_T := zq_in 458 rfl
set_option maxRecDepth 20000 in
theorem zq_459 : Cond.fieldLink RX6 34 "HermitLadder$Rows" "fresh" "[J" ∈ zq_T := zq_in 459 rfl
set_option maxRecDepth 20000 in
theorem zq_460 : Cond.code yX6_wantNothing cX6_wantNothing 2 none ∈ zq_T := zq_in 460 rfl
set_option maxRecDepth 20000 in
theorem zq_461 : Cond.methodLink RX6 37 Lib.Math.min.name ∈ zq_T := zq_in 461 rfl
set_option maxRecDepth 20000 in
theorem zq_462 : Cond.methodLink RX6 43 yJ7_fill_53178 ∈ zq_T := zq_in 462 rfl
set_option maxRecDepth 20000 in
theorem zq_463 : Cond.code yX6_want cX6_want 3 none ∈ zq_T := zq_in 463 rfl
set_option maxRecDepth 20000 in
theorem zq_464 : Cond.fieldLink RX6 49 "HermitLadder$Tray" "size" "I" ∈ zq_T := zq_in 464 rfl
set_option maxRecDepth 20000 in
theorem zq_465 : Cond.fieldLink RX6 54 "HermitLadder$Tray" "numbers" "[J" ∈ zq_T := zq_in 465 rfl
set_option maxRecDepth 20000 in
theorem zq_466 : Cond.code yX6_within cX6_within 3 (some .int) ∈ zq_T := zq_in 466 rfl
set_option maxRecDepth 20000 in
theorem zq_467 : Cond.fieldLink RX6 57 "HermitLadder$Coming" "size" "I" ∈ zq_T := zq_in 467 rfl
set_option maxRecDepth 20000 in
theorem zq_468 : Cond.fieldLink RX6 91 "HermitLadder$Coming" "depth" "[I" ∈ zq_T := zq_in 468 rfl
set_option maxRecDepth 20000 in
theorem zq_469 : Cond.fieldLink RX6 60 "HermitLadder$Coming" "order" "[I" ∈ zq_T := zq_in 469 rfl
set_option maxRecDepth 20000 in
theorem zq_470 : Cond.code yX6_isWanted cX6_isWanted 3 (some .boolean) ∈ zq_T := zq_in 470 rfl
set_option maxRecDepth 20000 in
theorem zq_471 : Cond.fieldLink RX6 76 "HermitLadder$Moves" "ends" "[I" ∈ zq_T := zq_in 471 rfl
set_option maxRecDepth 20000 in
theorem zq_472 : Cond.methodLink RX6 67 yX6_within ∈ zq_T := zq_in 472 rfl
set_option maxRecDepth 20000 in
theorem zq_473 : Cond.instanceMethod yX6_within ∈ zq_T := zq_in 473 rfl
set_option maxRecDepth 20000 in
theorem zq_474 : Cond.selects RX6 yX6_within yX6_within ∈ zq_T := zq_in 474 rfl
set_option maxRecDepth 20000 in
theorem zq_475 : Cond.initialized RX6 ∈ zq_T := zq_in 475 rfl
set_option maxRecDepth 20000 in
theorem zq_476 : Cond.methodLink RX6 71 yX3_gather ∈ zq_T := zq_in 476 rfl
set_option maxRecDepth 20000 in
theorem zq_477 : Cond.methodLink RX6 82 yJ6_bitCount_0f7a4 ∈ zq_T := zq_in 477 rfl
set_option maxRecDepth 20000 in
theorem zq_478 : Cond.methodLink RX6 87 yX6_isWanted ∈ zq_T := zq_in 478 rfl
set_option maxRecDepth 20000 in
theorem zq_479 : Cond.instanceMethod yX6_isWanted ∈ zq_T := zq_in 479 rfl
set_option maxRecDepth 20000 in
theorem zq_480 : Cond.selects RX6 yX6_isWanted yX6_isWanted ∈ zq_T := zq_in 480 rfl
set_option maxRecDepth 20000 in
theorem zq_481 : Cond.code yX6_spread cX6_spread 9 none ∈ zq_T := zq_in 481 rfl
set_option maxRecDepth 20000 in
theorem zq_482 : Cond.methodLink RX6 63 yX6_spread ∈ zq_T := zq_in 482 rfl
set_option maxRecDepth 20000 in
theorem zq_483 : Cond.instanceMethod yX6_spread ∈ zq_T := zq_in 483 rfl
set_option maxRecDepth 20000 in
theorem zq_484 : Cond.selects RX6 yX6_spread yX6_spread ∈ zq_T := zq_in 484 rfl
set_option maxRecDepth 20000 in
theorem zq_485 : Cond.code yX6_tally cX6_tally 3 none ∈ zq_T := zq_in 485 rfl
set_option maxRecDepth 20000 in
theorem zq_486 : Cond.code yX6_endingOn cX6_endingOn 8 (some .long) ∈ zq_T := zq_in 486 rfl
set_option maxRecDepth 20000 in
theorem zq_487 : Cond.code yX6_commonThings cX6_commonThings 4 (some .int) ∈ zq_T := zq_in 487 rfl
set_option maxRecDepth 20000 in
theorem zq_488 : Cond.code yX6_firstOnward cX6_firstOnward 5 (some .int) ∈ zq_T := zq_in 488 rfl
set_option maxRecDepth 20000 in
theorem zq_489 : Cond.methodLink RX6 100 yX6_firstOnward ∈ zq_T := zq_in 489 rfl
set_option maxRecDepth 20000 in
theorem zq_490 : Cond.instanceMethod yX6_firstOnward ∈ zq_T := zq_in 490 rfl
set_option maxRecDepth 20000 in
theorem zq_491 : Cond.selects RX6 yX6_firstOnward yX6_firstOnward ∈ zq_T := zq_in 491 rfl
set_option maxRecDepth 20000 in
theorem zq_492 : Cond.code yX6_dropDeadEnds cX6_dropDeadEnds 5 none ∈ zq_T := zq_in 492 rfl
set_option maxRecDepth 20000 in
theorem zq_493 : Cond.fieldLink RX6 103 "HermitLadder$Moves" "deeds" "[I" ∈ zq_T := zq_in 493 rfl
set_option maxRecDepth 20000 in
theorem zq_494 : Cond.methodLink RX6 97 yX6_dropDeadEnds ∈ zq_T := zq_in 494 rfl
set_option maxRecDepth 20000 in
theorem zq_495 : Cond.instanceMethod yX6_dropDeadEnds ∈ zq_T := zq_in 495 rfl
set_option maxRecDepth 20000 in
theorem zq_496 : Cond.selects RX6 yX6_dropDeadEnds yX6_dropDeadEnds ∈ zq_T := zq_in 496 rfl
set_option maxRecDepth 20000 in
theorem zq_497 : Cond.code yX6_deedOfFirst cX6_deedOfFirst 7 (some .int) ∈ zq_T := zq_in 497 rfl
set_option maxRecDepth 20000 in
theorem zq_498 : Cond.code yX7_init cX7_init 3 none ∈ zq_T := zq_in 498 rfl
set_option maxRecDepth 20000 in
theorem zq_499 : Cond.methodLink RX7 3 objectInit ∈ zq_T := zq_in 499 rfl
set_option maxRecDepth 20000 in
theorem zq_500 : Cond.fieldLink RX7 9 "HermitLadder$Sharing" "rungs" "I" ∈ zq_T := zq_in 500 rfl
set_option maxRecDepth 20000 in
theorem zq_501 : Cond.fieldLink RX7 15 "HermitLadder$Sharing" "cliff" "LHermitLadder$Cliff;" ∈ zq_T := zq_in 501 rfl
set_option maxRecDepth 20000 in
theorem zq_502 : Cond.fieldLink RX7 19 "HermitLadder$Sharing" "can" "[I" ∈ zq_T := zq_in 502 rfl
set_option maxRecDepth 20000 in
theorem zq_503 : Cond.code yX7_behind cX7_behind 3 (some .int) ∈ zq_T := zq_in 503 rfl
set_option maxRecDepth 20000 in
theorem zq_504 : Cond.code yX7_isFree cX7_isFree 4 (some .boolean) ∈ zq_T := zq_in 504 rfl
set_option maxRecDepth 20000 in
theorem zq_505 : Cond.methodLink RX7 44 yX0_holds ∈ zq_T := zq_in 505 rfl
set_option maxRecDepth 20000 in
theorem zq_506 : Cond.instanceMethod yX0_holds ∈ zq_T := zq_in 506 rfl
set_option maxRecDepth 20000 in
theorem zq_507 : Cond.selects RX0 yX0_holds yX0_holds ∈ zq_T := zq_in 507 rfl
set_option maxRecDepth 20000 in
theorem zq_508 : Cond.code yX7_withThing cX7_withThing 5 (some .int) ∈ zq_T := zq_in 508 rfl
set_option maxRecDepth 20000 in
theorem zq_509 : Cond.methodLink RX7 39 Lib.Math.max.name ∈ zq_T := zq_in 509 rfl
set_option maxRecDepth 20000 in
theorem zq_510 : Cond.methodLink RX7 32 yX7_behind ∈ zq_T := zq_in 510 rfl
set_option maxRecDepth 20000 in
theorem zq_511 : Cond.instanceMethod yX7_behind ∈ zq_T := zq_in 511 rfl
set_option maxRecDepth 20000 in
theorem zq_512 : Cond.selects RX7 yX7_behind yX7_behind ∈ zq_T := zq_in 512 rfl
set_option maxRecDepth 20000 in
theorem zq_513 : Cond.initialized RX7 ∈ zq_T := zq_in 513 rfl
set_option maxRecDepth 20000 in
theorem zq_514 : Cond.methodLink RX7 35 yX7_isFree ∈ zq_T := zq_in 514 rfl
set_option maxRecDepth 20000 in
theorem zq_515 : Cond.instanceMethod yX7_isFree ∈ zq_T := zq_in 515 rfl
set_option maxRecDepth 20000 in
theorem zq_516 : Cond.selects RX7 yX7_isFree yX7_isFree ∈ zq_T := zq_in 516 rfl
set_option maxRecDepth 20000 in
theorem zq_517 : Cond.fieldLink RX7 23 "HermitLadder$Cliff" "things" "I" ∈ zq_T := zq_in 517 rfl
set_option maxRecDepth 20000 in
theorem zq_518 : Cond.methodLink RX7 28 yX7_withThing ∈ zq_T := zq_in 518 rfl
set_option maxRecDepth 20000 in
theorem zq_519 : Cond.instanceMethod yX7_withThing ∈ zq_T := zq_in 519 rfl
set_option maxRecDepth 20000 in
theorem zq_520 : Cond.selects RX7 yX7_withThing yX7_withThing ∈ zq_T := zq_in 520 rfl
set_option maxRecDepth 20000 in
theorem zq_521 : Cond.code yX7_reckon cX7_reckon 6 none ∈ zq_T := zq_in 521 rfl
set_option maxRecDepth 20000 in
theorem zq_522 : Cond.code yX7_landed cX7_landed 1 (some .int) ∈ zq_T := zq_in 522 rfl
set_option maxRecDepth 20000 in
theorem zq_523 : Cond.code yX7_firstRung cX7_firstRung 5 (some .int) ∈ zq_T := zq_in 523 rfl
set_option maxRecDepth 20000 in
theorem zq_524 : Cond.code yX7_rungOfThing cX7_rungOfThing 6 (some .int) ∈ zq_T := zq_in 524 rfl
set_option maxRecDepth 20000 in
theorem zq_525 : Cond.methodLink RX7 48 yX7_firstRung ∈ zq_T := zq_in 525 rfl
set_option maxRecDepth 20000 in
theorem zq_526 : Cond.instanceMethod yX7_firstRung ∈ zq_T := zq_in 526 rfl
set_option maxRecDepth 20000 in
theorem zq_527 : Cond.selects RX7 yX7_firstRung yX7_firstRung ∈ zq_T := zq_in 527 rfl
set_option maxRecDepth 20000 in
theorem zq_528 : Cond.code yX8_init cX8_init 7 none ∈ zq_T := zq_in 528 rfl
set_option maxRecDepth 20000 in
theorem zq_529 : Cond.methodLink RX8 3 objectInit ∈ zq_T := zq_in 529 rfl
set_option maxRecDepth 20000 in
theorem zq_530 : Cond.fieldLink RX8 9 "HermitLadder$Slips" "size" "I" ∈ zq_T := zq_in 530 rfl
set_option maxRecDepth 20000 in
theorem zq_531 : Cond.fieldLink RX8 15 "HermitLadder$Slips" "rung" "I" ∈ zq_T := zq_in 531 rfl
set_option maxRecDepth 20000 in
theorem zq_532 : Cond.fieldLink RX8 18 "HermitLadder$Slips" "whole" "J" ∈ zq_T := zq_in 532 rfl
set_option maxRecDepth 20000 in
theorem zq_533 : Cond.fieldLink RX8 22 "HermitLadder$Slips" "result" "J" ∈ zq_T := zq_in 533 rfl
set_option maxRecDepth 20000 in
theorem zq_534 : Cond.fieldLink RX8 25 "HermitLadder$Slips" "firstDeed" "I" ∈ zq_T := zq_in 534 rfl
set_option maxRecDepth 20000 in
theorem zq_535 : Cond.fieldLink RX8 28 "HermitLadder$Slips" "cliff" "LHermitLadder$Cliff;" ∈ zq_T := zq_in 535 rfl
set_option maxRecDepth 20000 in
theorem zq_536 : Cond.fieldLink RX8 32 "HermitLadder$Slips" "moves" "LHermitLadder$Moves;" ∈ zq_T := zq_in 536 rfl
set_option maxRecDepth 20000 in
theorem zq_537 : Cond.fieldLink RX8 36 "HermitLadder$Slips" "order" "[I" ∈ zq_T := zq_in 537 rfl
set_option maxRecDepth 20000 in
theorem zq_538 : Cond.fieldLink RX8 40 "HermitLadder$Slips" "depth" "[I" ∈ zq_T := zq_in 538 rfl
set_option maxRecDepth 20000 in
theorem zq_539 : Cond.fieldLink RX8 43 "HermitLadder$Slips" "likely" "[J" ∈ zq_T := zq_in 539 rfl
set_option maxRecDepth 20000 in
theorem zq_540 : Cond.fieldLink RX8 47 "HermitLadder$Slips" "fresh" "[J" ∈ zq_T := zq_in 540 rfl
set_option maxRecDepth 20000 in
theorem zq_541 : Cond.code yX8_reach cX8_reach 3 none ∈ zq_T := zq_in 541 rfl
set_option maxRecDepth 20000 in
theorem zq_542 : Cond.code yX8_slipped cX8_slipped 2 (some .int) ∈ zq_T := zq_in 542 rfl
set_option maxRecDepth 20000 in
theorem zq_543 : Cond.fieldLink RX8 81 "HermitLadder$Moves" "ends" "[I" ∈ zq_T := zq_in 543 rfl
set_option maxRecDepth 20000 in
theorem zq_544 : Cond.fieldLink RX8 84 "HermitLadder$Moves" "deeds" "[I" ∈ zq_T := zq_in 544 rfl
set_option maxRecDepth 20000 in
theorem zq_545 : Cond.methodLink RX8 76 yX3_gather ∈ zq_T := zq_in 545 rfl
set_option maxRecDepth 20000 in
theorem zq_546 : Cond.methodLink RX8 66 yX8_reach ∈ zq_T := zq_in 546 rfl
set_option maxRecDepth 20000 in
theorem zq_547 : Cond.instanceMethod yX8_reach ∈ zq_T := zq_in 547 rfl
set_option maxRecDepth 20000 in
theorem zq_548 : Cond.selects RX8 yX8_reach yX8_reach ∈ zq_T := zq_in 548 rfl
set_option maxRecDepth 20000 in
theorem zq_549 : Cond.initialized RX8 ∈ zq_T := zq_in 549 rfl
set_option maxRecDepth 20000 in
theorem zq_550 : Cond.methodLink RX8 87 yX8_slipped ∈ zq_T := zq_in 550 rfl
set_option maxRecDepth 20000 in
theorem zq_551 : Cond.static yX8_slipped ∈ zq_T := zq_in 551 rfl
set_option maxRecDepth 20000 in
theorem zq_552 : Cond.code yX8_reachFrom cX8_reachFrom 4 none ∈ zq_T := zq_in 552 rfl
set_option maxRecDepth 20000 in
theorem zq_553 : Cond.methodLink RX8 60 yJ7_fill_53178 ∈ zq_T := zq_in 553 rfl
set_option maxRecDepth 20000 in
theorem zq_554 : Cond.methodLink RX8 73 yX8_reachFrom ∈ zq_T := zq_in 554 rfl
set_option maxRecDepth 20000 in
theorem zq_555 : Cond.instanceMethod yX8_reachFrom ∈ zq_T := zq_in 555 rfl
set_option maxRecDepth 20000 in
theorem zq_556 : Cond.selects RX8 yX8_reachFrom yX8_reachFrom ∈ zq_T := zq_in 556 rfl
set_option maxRecDepth 20000 in
theorem zq_557 : Cond.code yX8_explore cX8_explore 5 none ∈ zq_T := zq_in 557 rfl
set_option maxRecDepth 20000 in
theorem zq_558 : Cond.constantLong RX8 54 (10) ∈ zq_T := zq_in 558 rfl
set_option maxRecDepth 20000 in
theorem zq_559 : Cond.fieldLink RX8 105 "HermitLadder$Cliff" "slips" "I" ∈ zq_T := zq_in 559 rfl
set_option maxRecDepth 20000 in
theorem zq_560 : Cond.code yX8_likeliest cX8_likeliest 11 (some .long) ∈ zq_T := zq_in 560 rfl
set_option maxRecDepth 20000 in
theorem zq_561 : Cond.methodLink RX8 101 yX8_likeliest ∈ zq_T := zq_in 561 rfl
set_option maxRecDepth 20000 in
theorem zq_562 : Cond.instanceMethod yX8_likeliest ∈ zq_T := zq_in 562 rfl
set_option maxRecDepth 20000 in
theorem zq_563 : Cond.selects RX8 yX8_likeliest yX8_likeliest ∈ zq_T := zq_in 563 rfl
set_option maxRecDepth 20000 in
theorem zq_564 : Cond.code yX8_reckonWithin cX8_reckonWithin 3 none ∈ zq_T := zq_in 564 rfl
set_option maxRecDepth 20000 in
theorem zq_565 : Cond.methodLink RX8 50 yX8_explore ∈ zq_T := zq_in 565 rfl
set_option maxRecDepth 20000 in
theorem zq_566 : Cond.instanceMethod yX8_explore ∈ zq_T := zq_in 566 rfl
set_option maxRecDepth 20000 in
theorem zq_567 : Cond.selects RX8 yX8_explore yX8_explore ∈ zq_T := zq_in 567 rfl
set_option maxRecDepth 20000 in
theorem zq_568 : Cond.methodLink RX8 56 yX8_reckonWithin ∈ zq_T := zq_in 568 rfl
set_option maxRecDepth 20000 in
theorem zq_569 : Cond.instanceMethod yX8_reckonWithin ∈ zq_T := zq_in 569 rfl
set_option maxRecDepth 20000 in
theorem zq_570 : Cond.selects RX8 yX8_reckonWithin yX8_reckonWithin ∈ zq_T := zq_in 570 rfl
set_option maxRecDepth 20000 in
theorem zq_571 : Cond.code yX8_reckon cX8_reckon 5 none ∈ zq_T := zq_in 571 rfl
set_option maxRecDepth 20000 in
theorem zq_572 : Cond.code yX8_commonDivisor cX8_commonDivisor 11 (some .long) ∈ zq_T := zq_in 572 rfl
set_option maxRecDepth 20000 in
theorem zq_573 : Cond.methodLink RX8 114 Lib.MathLoose.max_long.x ∈ zq_T := zq_in 573 rfl
set_option maxRecDepth 20000 in
theorem zq_574 : Cond.code yX8_numerator cX8_numerator 1 (some .int) ∈ zq_T := zq_in 574 rfl
set_option maxRecDepth 20000 in
theorem zq_575 : Cond.methodLink RX8 110 yX8_commonDivisor ∈ zq_T := zq_in 575 rfl
set_option maxRecDepth 20000 in
theorem zq_576 : Cond.static yX8_commonDivisor ∈ zq_T := zq_in 576 rfl
set_option maxRecDepth 20000 in
theorem zq_577 : Cond.code yX8_denominator cX8_denominator 1 (some .int) ∈ zq_T := zq_in 577 rfl
set_option maxRecDepth 20000 in
theorem zq_578 : Cond.code yX9_init cX9_init 1 none ∈ zq_T := zq_in 578 rfl
set_option maxRecDepth 20000 in
theorem zq_579 : Cond.methodLink RX9 3 objectInit ∈ zq_T := zq_in 579 rfl
set_option maxRecDepth 20000 in
theorem zq_580 : Cond.fieldLink RX9 9 "HermitLadder$Tray" "missing" "Z" ∈ zq_T := zq_in 580 rfl
set_option maxRecDepth 20000 in
theorem zq_581 : Cond.arrayClass .long ∈ zq_T := zq_in 581 rfl
set_option maxRecDepth 20000 in
theorem zq_582 : Cond.fieldLink RX9 15 "HermitLadder$Tray" "numbers" "[J" ∈ zq_T := zq_in 582 rfl
set_option maxRecDepth 20000 in
theorem zq_583 : Cond.fieldLink RX9 19 "HermitLadder$Tray" "size" "I" ∈ zq_T := zq_in 583 rfl
set_option maxRecDepth 20000 in
theorem zq_584 : Cond.fieldLink RX9 23 "HermitLadder$Tray" "sort" "I" ∈ zq_T := zq_in 584 rfl
set_option maxRecDepth 20000 in
theorem zq_585 : Cond.code yX9_make cX9_make 3 none ∈ zq_T := zq_in 585 rfl
set_option maxRecDepth 20000 in
theorem zq_586 : Cond.methodLink RX9 26 yJ7_fill_d0a16 ∈ zq_T := zq_in 586 rfl
set_option maxRecDepth 20000 in
theorem zq_587 : Cond.static yJ7_fill_d0a16 ∈ zq_T := zq_in 587 rfl
set_option maxRecDepth 20000 in
theorem zq_588 : Cond.code yJ7_fill_d0a16 cJ7_fill_d0a16 5 none ∈ zq_T := zq_in 588 rfl
set_option maxRecDepth 20000 in
theorem zq_589 : Cond.code yX9_put cX9_put 4 (some .long) ∈ zq_T := zq_in 589 rfl
set_option maxRecDepth 20000 in
theorem zq_590 : Cond.code yX9_deedAt cX9_deedAt 4 (some .int) ∈ zq_T := zq_in 590 rfl
set_option maxRecDepth 20000 in
theorem zq_591 : Cond.constantLong RX9 32 (40) ∈ zq_T := zq_in 591 rfl
set_option maxRecDepth 20000 in
theorem zq_592 : Cond.methodLink RX10 3 objectInit ∈ zq_T := zq_in 592 rfl
set_option maxRecDepth 20000 in
theorem zq_593 : Cond.fieldLink RX10 9 "HermitLadder" "tape" "[I" ∈ zq_T := zq_in 593 rfl
set_option maxRecDepth 20000 in
theorem zq_594 : Cond.fieldLink RX10 13 "HermitLadder" "taped" "I" ∈ zq_T := zq_in 594 rfl
set_option maxRecDepth 20000 in
theorem zq_595 : Cond.classLink RX10 17 RX0 ∈ zq_T := zq_in 595 rfl
set_option maxRecDepth 20000 in
theorem zq_596 : Cond.instantiable RX0 17 ∈ zq_T := zq_in 596 rfl
set_option maxRecDepth 20000 in
theorem zq_597 : Cond.fieldLink RX10 20 "HermitLadder" "cliff" "LHermitLadder$Cliff;" ∈ zq_T := zq_in 597 rfl
set_option maxRecDepth 20000 in
theorem zq_598 : Cond.fieldLink RX10 24 "HermitLadder" "spare" "LHermitLadder$Cliff;" ∈ zq_T := zq_in 598 rfl
set_option maxRecDepth 20000 in
theorem zq_599 : Cond.classLink RX10 27 RX5 ∈ zq_T := zq_in 599 rfl
set_option maxRecDepth 20000 in
theorem zq_600 : Cond.instantiable RX5 10 ∈ zq_T := zq_in 600 rfl
set_option maxRecDepth 20000 in
theorem zq_601 : Cond.fieldLink RX10 32 "HermitLadder" "reader" "LHermitLadder$Reader;" ∈ zq_T := zq_in 601 rfl
set_option maxRecDepth 20000 in
theorem zq_602 : Cond.classLink RX10 36 RX4 ∈ zq_T := zq_in 602 rfl
set_option maxRecDepth 20000 in
theorem zq_603 : Cond.instantiable RX4 3 ∈ zq_T := zq_in 603 rfl
set_option maxRecDepth 20000 in
theorem zq_604 : Cond.initialized RX4 ∈ zq_T := zq_in 604 rfl
set_option maxRecDepth 20000 in
theorem zq_605 : Cond.fieldLink RX10 39 "HermitLadder" "now" "LHermitLadder$Pilgrim;" ∈ zq_T := zq_in 605 rfl
set_option maxRecDepth 20000 in
theorem zq_606 : Cond.fieldLink RX10 43 "HermitLadder" "trial" "LHermitLadder$Pilgrim;" ∈ zq_T := zq_in 606 rfl
set_option maxRecDepth 20000 in
theorem zq_607 : Cond.fieldLink RX10 46 "HermitLadder" "past" "[LHermitLadder$Pilgrim;" ∈ zq_T := zq_in 607 rfl
set_option maxRecDepth 20000 in
theorem zq_608 : Cond.fieldLink RX10 50 "HermitLadder" "undoable" "I" ∈ zq_T := zq_in 608 rfl
set_option maxRecDepth 20000 in
theorem zq_609 : Cond.classLink RX10 53 RX9 ∈ zq_T := zq_in 609 rfl
set_option maxRecDepth 20000 in
theorem zq_610 : Cond.fieldLink RX10 55 "HermitLadder" "trays" "[LHermitLadder$Tray;" ∈ zq_T := zq_in 610 rfl
set_option maxRecDepth 20000 in
theorem zq_611 : Cond.fieldLink RX10 59 "HermitLadder" "imageCliffs" "[LHermitLadder$Cliff;" ∈ zq_T := zq_in 611 rfl
set_option maxRecDepth 20000 in
theorem zq_612 : Cond.fieldLink RX10 63 "HermitLadder" "imagePilgrims" "[LHermitLadder$Pilgrim;" ∈ zq_T := zq_in 612 rfl
set_option maxRecDepth 20000 in
theorem zq_613 : Cond.classLink RX10 66 RX2 ∈ zq_T := zq_in 613 rfl
set_option maxRecDepth 20000 in
theorem zq_614 : Cond.instantiable RX2 5 ∈ zq_T := zq_in 614 rfl
set_option maxRecDepth 20000 in
theorem zq_615 : Cond.fieldLink RX10 71 "HermitLadder" "laws" "LHermitLadder$Laws;" ∈ zq_T := zq_in 615 rfl
set_option maxRecDepth 20000 in
theorem zq_616 : Cond.classLink RX10 75 RX3 ∈ zq_T := zq_in 616 rfl
set_option maxRecDepth 20000 in
theorem zq_617 : Cond.instantiable RX3 5 ∈ zq_T := zq_in 617 rfl
set_option maxRecDepth 20000 in
theorem zq_618 : Cond.fieldLink RX10 80 "HermitLadder" "moves" "LHermitLadder$Moves;" ∈ zq_T := zq_in 618 rfl
set_option maxRecDepth 20000 in
theorem zq_619 : Cond.classLink RX10 84 RX1 ∈ zq_T := zq_in 619 rfl
set_option maxRecDepth 20000 in
theorem zq_620 : Cond.instantiable RX1 6 ∈ zq_T := zq_in 620 rfl
set_option maxRecDepth 20000 in
theorem zq_621 : Cond.fieldLink RX10 89 "HermitLadder" "coming" "LHermitLadder$Coming;" ∈ zq_T := zq_in 621 rfl
set_option maxRecDepth 20000 in
theorem zq_622 : Cond.instantiable RX9 4 ∈ zq_T := zq_in 622 rfl
set_option maxRecDepth 20000 in
theorem zq_623 : Cond.initialized RX9 ∈ zq_T := zq_in 623 rfl
set_option maxRecDepth 20000 in
theorem zq_624 : Cond.classLink RX10 94 RX6 ∈ zq_T := zq_in 624 rfl
set_option maxRecDepth 20000 in
theorem zq_625 : Cond.instantiable RX6 7 ∈ zq_T := zq_in 625 rfl
set_option maxRecDepth 20000 in
theorem zq_626 : Cond.fieldLink RX10 99 "HermitLadder" "rowCounter" "LHermitLadder$Rows;" ∈ zq_T := zq_in 626 rfl
set_option maxRecDepth 20000 in
theorem zq_627 : Cond.classLink RX10 103 RX8 ∈ zq_T := zq_in 627 rfl
set_option maxRecDepth 20000 in
theorem zq_628 : Cond.instantiable RX8 11 ∈ zq_T := zq_in 628 rfl
set_option maxRecDepth 20000 in
theorem zq_629 : Cond.fieldLink RX10 108 "HermitLadder" "slipping" "LHermitLadder$Slips;" ∈ zq_T := zq_in 629 rfl
set_option maxRecDepth 20000 in
theorem zq_630 : Cond.classLink RX10 112 RX7 ∈ zq_T := zq_in 630 rfl
set_option maxRecDepth 20000 in
theorem zq_631 : Cond.instantiable RX7 3 ∈ zq_T := zq_in 631 rfl
set_option maxRecDepth 20000 in
theorem zq_632 : Cond.fieldLink RX10 117 "HermitLadder" "sharing" "LHermitLadder$Sharing;" ∈ zq_T := zq_in 632 rfl
set_option maxRecDepth 20000 in
theorem zq_633 : Cond.methodLink RX10 19 yX0_init ∈ zq_T := zq_in 633 rfl
set_option maxRecDepth 20000 in
theorem zq_634 : Cond.instanceMethod yX0_init ∈ zq_T := zq_in 634 rfl
set_option maxRecDepth 20000 in
theorem zq_635 : Cond.methodLink RX10 29 yX5_init ∈ zq_T := zq_in 635 rfl
set_option maxRecDepth 20000 in
theorem zq_636 : Cond.instanceMethod yX5_init ∈ zq_T := zq_in 636 rfl
set_option maxRecDepth 20000 in
theorem zq_637 : Cond.instanceMethod yX4_init ∈ zq_T := zq_in 637 rfl
set_option maxRecDepth 20000 in
theorem zq_638 : Cond.methodLink RX10 68 yX2_init ∈ zq_T := zq_in 638 rfl
set_option maxRecDepth 20000 in
theorem zq_639 : Cond.instanceMethod yX2_init ∈ zq_T := zq_in 639 rfl
set_option maxRecDepth 20000 in
theorem zq_640 : Cond.methodLink RX10 77 yX3_init ∈ zq_T := zq_in 640 rfl
set_option maxRecDepth 20000 in
theorem zq_641 : Cond.instanceMethod yX3_init ∈ zq_T := zq_in 641 rfl
set_option maxRecDepth 20000 in
theorem zq_642 : Cond.methodLink RX10 86 yX1_init ∈ zq_T := zq_in 642 rfl
set_option maxRecDepth 20000 in
theorem zq_643 : Cond.instanceMethod yX1_init ∈ zq_T := zq_in 643 rfl
set_option maxRecDepth 20000 in
theorem zq_644 : Cond.instanceMethod yX9_init ∈ zq_T := zq_in 644 rfl
set_option maxRecDepth 20000 in
theorem zq_645 : Cond.methodLink RX10 96 yX6_init ∈ zq_T := zq_in 645 rfl
set_option maxRecDepth 20000 in
theorem zq_646 : Cond.instanceMethod yX6_init ∈ zq_T := zq_in 646 rfl
set_option maxRecDepth 20000 in
theorem zq_647 : Cond.methodLink RX10 105 yX8_init ∈ zq_T := zq_in 647 rfl
set_option maxRecDepth 20000 in
theorem zq_648 : Cond.instanceMethod yX8_init ∈ zq_T := zq_in 648 rfl
set_option maxRecDepth 20000 in
theorem zq_649 : Cond.methodLink RX10 114 yX7_init ∈ zq_T := zq_in 649 rfl
set_option maxRecDepth 20000 in
theorem zq_650 : Cond.instanceMethod yX7_init ∈ zq_T := zq_in 650 rfl
set_option maxRecDepth 20000 in
theorem zq_651 : Cond.methodLink RX10 121 yX4_begin ∈ zq_T := zq_in 651 rfl
set_option maxRecDepth 20000 in
theorem zq_652 : Cond.instanceMethod yX4_begin ∈ zq_T := zq_in 652 rfl
set_option maxRecDepth 20000 in
theorem zq_653 : Cond.selects RX4 yX4_begin yX4_begin ∈ zq_T := zq_in 653 rfl
set_option maxRecDepth 20000 in
theorem zq_654 : Cond.code yX10_init cX10_init 5 none ∈ zq_T := zq_in 654 rfl
set_option maxRecDepth 20000 in
theorem zq_655 : Cond.code yX10_tapeInt cX10_tapeInt 3 none ∈ zq_T := zq_in 655 rfl
set_option maxRecDepth 20000 in
theorem zq_656 : Cond.code yX10_feed cX10_feed 6 (some .int) ∈ zq_T := zq_in 656 rfl
set_option maxRecDepth 20000 in
theorem zq_657 : Cond.methodLink RX10 124 yX10_tapeInt ∈ zq_T := zq_in 657 rfl
set_option maxRecDepth 20000 in
theorem zq_658 : Cond.instanceMethod yX10_tapeInt ∈ zq_T := zq_in 658 rfl
set_option maxRecDepth 20000 in
theorem zq_659 : Cond.selects RX10 yX10_tapeInt yX10_tapeInt ∈ zq_T := zq_in 659 rfl
set_option maxRecDepth 20000 in
theorem zq_660 : Cond.fieldLink RX10 150 "HermitLadder$Pilgrim" "wind" "I" ∈ zq_T := zq_in 660 rfl
set_option maxRecDepth 20000 in
theorem zq_661 : Cond.methodLink RX10 153 yX2_useWind ∈ zq_T := zq_in 661 rfl
set_option maxRecDepth 20000 in
theorem zq_662 : Cond.instanceMethod yX2_useWind ∈ zq_T := zq_in 662 rfl
set_option maxRecDepth 20000 in
theorem zq_663 : Cond.selects RX2 yX2_useWind yX2_useWind ∈ zq_T := zq_in 663 rfl
set_option maxRecDepth 20000 in
theorem zq_664 : Cond.methodLink RX10 156 yX1_forget ∈ zq_T := zq_in 664 rfl
set_option maxRecDepth 20000 in
theorem zq_665 : Cond.instanceMethod yX1_forget ∈ zq_T := zq_in 665 rfl
set_option maxRecDepth 20000 in
theorem zq_666 : Cond.selects RX1 yX1_forget yX1_forget ∈ zq_T := zq_in 666 rfl
set_option maxRecDepth 20000 in
theorem zq_667 : Cond.code yX10_settle cX10_settle 1 none ∈ zq_T := zq_in 667 rfl
set_option maxRecDepth 20000 in
theorem zq_668 : Cond.methodLink RX10 144 yX2_forget ∈ zq_T := zq_in 668 rfl
set_option maxRecDepth 20000 in
theorem zq_669 : Cond.methodLink RX10 147 yX10_settle ∈ zq_T := zq_in 669 rfl
set_option maxRecDepth 20000 in
theorem zq_670 : Cond.instanceMethod yX10_settle ∈ zq_T := zq_in 670 rfl
set_option maxRecDepth 20000 in
theorem zq_671 : Cond.selects RX10 yX10_settle yX10_settle ∈ zq_T := zq_in 671 rfl
set_option maxRecDepth 20000 in
theorem zq_672 : Cond.code yX10_startAnew cX10_startAnew 1 none ∈ zq_T := zq_in 672 rfl
set_option maxRecDepth 20000 in
theorem zq_673 : Cond.fieldLink RX10 132 "HermitLadder$Reader" "fault" "I" ∈ zq_T := zq_in 673 rfl
set_option maxRecDepth 20000 in
theorem zq_674 : Cond.fieldLink RX10 141 "HermitLadder$Cliff" "lines" "I" ∈ zq_T := zq_in 674 rfl
set_option maxRecDepth 20000 in
theorem zq_675 : Cond.methodLink RX10 128 yX5_readText ∈ zq_T := zq_in 675 rfl
set_option maxRecDepth 20000 in
theorem zq_676 : Cond.instanceMethod yX5_readText ∈ zq_T := zq_in 676 rfl
set_option maxRecDepth 20000 in
theorem zq_677 : Cond.selects RX5 yX5_readText yX5_readText ∈ zq_T := zq_in 677 rfl
set_option maxRecDepth 20000 in
theorem zq_678 : Cond.methodLink RX10 135 yX0_copyFrom ∈ zq_T := zq_in 678 rfl
set_option maxRecDepth 20000 in
theorem zq_679 : Cond.instanceMethod yX0_copyFrom ∈ zq_T := zq_in 679 rfl
set_option maxRecDepth 20000 in
theorem zq_680 : Cond.selects RX0 yX0_copyFrom yX0_copyFrom ∈ zq_T := zq_in 680 rfl
set_option maxRecDepth 20000 in
theorem zq_681 : Cond.methodLink RX10 138 yX10_startAnew ∈ zq_T := zq_in 681 rfl
set_option maxRecDepth 20000 in
theorem zq_682 : Cond.instanceMethod yX10_startAnew ∈ zq_T := zq_in 682 rfl
set_option maxRecDepth 20000 in
theorem zq_683 : Cond.selects RX10 yX10_startAnew yX10_startAnew ∈ zq_T := zq_in 683 rfl
set_option maxRecDepth 20000 in
theorem zq_684 : Cond.code yX10_cliff cX10_cliff 2 (some .int) ∈ zq_T := zq_in 684 rfl
set_option maxRecDepth 20000 in
theorem zq_685 : Cond.code yX10_fault cX10_fault 2 (some .int) ∈ zq_T := zq_in 685 rfl
set_option maxRecDepth 20000 in
theorem zq_686 : Cond.fieldLink RX10 157 "HermitLadder$Reader" "place" "I" ∈ zq_T := zq_in 686 rfl
set_option maxRecDepth 20000 in
theorem zq_687 : Cond.code yX10_hole cX10_hole 3 (some .int) ∈ zq_T := zq_in 687 rfl
set_option maxRecDepth 20000 in
theorem zq_688 : Cond.fieldLink RX10 164 "HermitLadder$Cliff" "bars" "[I" ∈ zq_T := zq_in 688 rfl
set_option maxRecDepth 20000 in
theorem zq_689 : Cond.fieldLink RX10 167 "HermitLadder$Cliff" "gives" "[I" ∈ zq_T := zq_in 689 rfl
set_option maxRecDepth 20000 in
theorem zq_690 : Cond.fieldLink RX10 170 "HermitLadder$Cliff" "rough" "[I" ∈ zq_T := zq_in 690 rfl
set_option maxRecDepth 20000 in
theorem zq_691 : Cond.methodLink RX10 160 yX0_isRung ∈ zq_T := zq_in 691 rfl
set_option maxRecDepth 20000 in
theorem zq_692 : Cond.fieldLink RX10 173 "HermitLadder$Pilgrim" "stand" "I" ∈ zq_T := zq_in 692 rfl
set_option maxRecDepth 20000 in
theorem zq_693 : Cond.methodLink RX10 176 yX3_refusal ∈ zq_T := zq_in 693 rfl
set_option maxRecDepth 20000 in
theorem zq_694 : Cond.code yX10_why cX10_why 2 (some .int) ∈ zq_T := zq_in 694 rfl
set_option maxRecDepth 20000 in
theorem zq_695 : Cond.methodLink RX10 180 yX3_after ∈ zq_T := zq_in 695 rfl
set_option maxRecDepth 20000 in
theorem zq_696 : Cond.instanceMethod yX3_after ∈ zq_T := zq_in 696 rfl
set_option maxRecDepth 20000 in
theorem zq_697 : Cond.selects RX3 yX3_after yX3_after ∈ zq_T := zq_in 697 rfl
set_option maxRecDepth 20000 in
theorem zq_698 : Cond.methodLink RX10 183 yX10_rungOf ∈ zq_T := zq_in 698 rfl
set_option maxRecDepth 20000 in
theorem zq_699 : Cond.methodLink RX10 187 yX10_thingsOf ∈ zq_T := zq_in 699 rfl
set_option maxRecDepth 20000 in
theorem zq_700 : Cond.methodLink RX10 190 yX10_strengthOf ∈ zq_T := zq_in 700 rfl
set_option maxRecDepth 20000 in
theorem zq_701 : Cond.code yX10_by cX10_by 4 (some .int) ∈ zq_T := zq_in 701 rfl
set_option maxRecDepth 20000 in
theorem zq_702 : Cond.fieldLink RX10 206 "HermitLadder$Pilgrim" "deeds" "I" ∈ zq_T := zq_in 702 rfl
set_option maxRecDepth 20000 in
theorem zq_703 : Cond.methodLink RX10 203 yX3_behind ∈ zq_T := zq_in 703 rfl
set_option maxRecDepth 20000 in
theorem zq_704 : Cond.code yX10_step cX10_step 4 (some .int) ∈ zq_T := zq_in 704 rfl
set_option maxRecDepth 20000 in
theorem zq_705 : Cond.code yX10_remember cX10_remember 3 none ∈ zq_T := zq_in 705 rfl
set_option maxRecDepth 20000 in
theorem zq_706 : Cond.methodLink RX10 193 yX4_copyFrom ∈ zq_T := zq_in 706 rfl
set_option maxRecDepth 20000 in
theorem zq_707 : Cond.instanceMethod yX4_copyFrom ∈ zq_T := zq_in 707 rfl
set_option maxRecDepth 20000 in
theorem zq_708 : Cond.selects RX4 yX4_copyFrom yX4_copyFrom ∈ zq_T := zq_in 708 rfl
set_option maxRecDepth 20000 in
theorem zq_709 : Cond.methodLink RX10 209 yX10_remember ∈ zq_T := zq_in 709 rfl
set_option maxRecDepth 20000 in
theorem zq_710 : Cond.instanceMethod yX10_remember ∈ zq_T := zq_in 710 rfl
set_option maxRecDepth 20000 in
theorem zq_711 : Cond.selects RX10 yX10_remember yX10_remember ∈ zq_T := zq_in 711 rfl
set_option maxRecDepth 20000 in
theorem zq_712 : Cond.code yX10_keepTrial cX10_keepTrial 1 none ∈ zq_T := zq_in 712 rfl
set_option maxRecDepth 20000 in
theorem zq_713 : Cond.methodLink RX10 196 yX10_step ∈ zq_T := zq_in 713 rfl
set_option maxRecDepth 20000 in
theorem zq_714 : Cond.instanceMethod yX10_step ∈ zq_T := zq_in 714 rfl
set_option maxRecDepth 20000 in
theorem zq_715 : Cond.selects RX10 yX10_step yX10_step ∈ zq_T := zq_in 715 rfl
set_option maxRecDepth 20000 in
theorem zq_716 : Cond.methodLink RX10 200 yX10_keepTrial ∈ zq_T := zq_in 716 rfl
set_option maxRecDepth 20000 in
theorem zq_717 : Cond.instanceMethod yX10_keepTrial ∈ zq_T := zq_in 717 rfl
set_option maxRecDepth 20000 in
theorem zq_718 : Cond.selects RX10 yX10_keepTrial yX10_keepTrial ∈ zq_T := zq_in 718 rfl
set_option maxRecDepth 20000 in
theorem zq_719 : Cond.code yX10_act cX10_act 3 (some .int) ∈ zq_T := zq_in 719 rfl
set_option maxRecDepth 20000 in
theorem zq_720 : Cond.code yX10_wind cX10_wind 3 (some .int) ∈ zq_T := zq_in 720 rfl
set_option maxRecDepth 20000 in
theorem zq_721 : Cond.methodLink RX10 212 yX3_habitual ∈ zq_T := zq_in 721 rfl
set_option maxRecDepth 20000 in
theorem zq_722 : Cond.code yX10_habit cX10_habit 3 (some .int) ∈ zq_T := zq_in 722 rfl
set_option maxRecDepth 20000 in
theorem zq_723 : Cond.code yX10_undo cX10_undo 2 (some .int) ∈ zq_T := zq_in 723 rfl
set_option maxRecDepth 20000 in
theorem zq_724 : Cond.code yX10_isTray cX10_isTray 1 (some .boolean) ∈ zq_T := zq_in 724 rfl
set_option maxRecDepth 20000 in
theorem zq_725 : Cond.fieldLink RX10 226 "HermitLadder$Tray" "size" "I" ∈ zq_T := zq_in 725 rfl
set_option maxRecDepth 20000 in
theorem zq_726 : Cond.methodLink RX10 229 yX9_deedAt ∈ zq_T := zq_in 726 rfl
set_option maxRecDepth 20000 in
theorem zq_727 : Cond.instanceMethod yX9_deedAt ∈ zq_T := zq_in 727 rfl
set_option maxRecDepth 20000 in
theorem zq_728 : Cond.selects RX9 yX9_deedAt yX9_deedAt ∈ zq_T := zq_in 728 rfl
set_option maxRecDepth 20000 in
theorem zq_729 : Cond.code yX10_follow cX10_follow 3 (some .int) ∈ zq_T := zq_in 729 rfl
set_option maxRecDepth 20000 in
theorem zq_730 : Cond.fieldLink RX10 218 "HermitLadder$Tray" "missing" "Z" ∈ zq_T := zq_in 730 rfl
set_option maxRecDepth 20000 in
theorem zq_731 : Cond.methodLink RX10 215 yX10_isTray ∈ zq_T := zq_in 731 rfl
set_option maxRecDepth 20000 in
theorem zq_732 : Cond.static yX10_isTray ∈ zq_T := zq_in 732 rfl
set_option maxRecDepth 20000 in
theorem zq_733 : Cond.methodLink RX10 222 yX10_follow ∈ zq_T := zq_in 733 rfl
set_option maxRecDepth 20000 in
theorem zq_734 : Cond.instanceMethod yX10_follow ∈ zq_T := zq_in 734 rfl
set_option maxRecDepth 20000 in
theorem zq_735 : Cond.selects RX10 yX10_follow yX10_follow ∈ zq_T := zq_in 735 rfl
set_option maxRecDepth 20000 in
theorem zq_736 : Cond.code yX10_judge cX10_judge 6 (some .int) ∈ zq_T := zq_in 736 rfl
set_option maxRecDepth 20000 in
theorem zq_737 : Cond.code yX10_trayRefused cX10_trayRefused 2 (some .int) ∈ zq_T := zq_in 737 rfl
set_option maxRecDepth 20000 in
theorem zq_738 : Cond.methodLink RX10 232 yX10_trayRefused ∈ zq_T := zq_in 738 rfl
set_option maxRecDepth 20000 in
theorem zq_739 : Cond.instanceMethod yX10_trayRefused ∈ zq_T := zq_in 739 rfl
set_option maxRecDepth 20000 in
theorem zq_740 : Cond.selects RX10 yX10_trayRefused yX10_trayRefused ∈ zq_T := zq_in 740 rfl
set_option maxRecDepth 20000 in
theorem zq_741 : Cond.code yX10_perform cX10_perform 4 (some .int) ∈ zq_T := zq_in 741 rfl
set_option maxRecDepth 20000 in
theorem zq_742 : Cond.code yX10_nextSeed cX10_nextSeed 1 (some .int) ∈ zq_T := zq_in 742 rfl
set_option maxRecDepth 20000 in
theorem zq_743 : Cond.constant RX10 241 (1103515245) ∈ zq_T := zq_in 743 rfl
set_option maxRecDepth 20000 in
theorem zq_744 : Cond.code yX10_drawnDeed cX10_drawnDeed 2 (some .int) ∈ zq_T := zq_in 744 rfl
set_option maxRecDepth 20000 in
theorem zq_745 : Cond.methodLink RX10 235 yX10_nextSeed ∈ zq_T := zq_in 745 rfl
set_option maxRecDepth 20000 in
theorem zq_746 : Cond.static yX10_nextSeed ∈ zq_T := zq_in 746 rfl
set_option maxRecDepth 20000 in
theorem zq_747 : Cond.methodLink RX10 238 yX10_drawnDeed ∈ zq_T := zq_in 747 rfl
set_option maxRecDepth 20000 in
theorem zq_748 : Cond.static yX10_drawnDeed ∈ zq_T := zq_in 748 rfl
set_option maxRecDepth 20000 in
theorem zq_749 : Cond.code yX10_year cX10_year 8 (some .int) ∈ zq_T := zq_in 749 rfl
set_option maxRecDepth 20000 in
theorem zq_750 : Cond.code yX10_comingRefused cX10_comingRefused 3 (some .int) ∈ zq_T := zq_in 750 rfl
set_option maxRecDepth 20000 in
theorem zq_751 : Cond.methodLink RX10 254 yX0_isSet ∈ zq_T := zq_in 751 rfl
set_option maxRecDepth 20000 in
theorem zq_752 : Cond.instanceMethod yX0_isSet ∈ zq_T := zq_in 752 rfl
set_option maxRecDepth 20000 in
theorem zq_753 : Cond.selects RX0 yX0_isSet yX0_isSet ∈ zq_T := zq_in 753 rfl
set_option maxRecDepth 20000 in
theorem zq_754 : Cond.methodLink RX10 242 yX10_comingRefused ∈ zq_T := zq_in 754 rfl
set_option maxRecDepth 20000 in
theorem zq_755 : Cond.instanceMethod yX10_comingRefused ∈ zq_T := zq_in 755 rfl
set_option maxRecDepth 20000 in
theorem zq_756 : Cond.selects RX10 yX10_comingRefused yX10_comingRefused ∈ zq_T := zq_in 756 rfl
set_option maxRecDepth 20000 in
theorem zq_757 : Cond.methodLink RX10 245 yX1_explore ∈ zq_T := zq_in 757 rfl
set_option maxRecDepth 20000 in
theorem zq_758 : Cond.instanceMethod yX1_explore ∈ zq_T := zq_in 758 rfl
set_option maxRecDepth 20000 in
theorem zq_759 : Cond.selects RX1 yX1_explore yX1_explore ∈ zq_T := zq_in 759 rfl
set_option maxRecDepth 20000 in
theorem zq_760 : Cond.methodLink RX10 248 yX1_goal ∈ zq_T := zq_in 760 rfl
set_option maxRecDepth 20000 in
theorem zq_761 : Cond.instanceMethod yX1_goal ∈ zq_T := zq_in 761 rfl
set_option maxRecDepth 20000 in
theorem zq_762 : Cond.selects RX1 yX1_goal yX1_goal ∈ zq_T := zq_in 762 rfl
set_option maxRecDepth 20000 in
theorem zq_763 : Cond.methodLink RX10 251 yX1_deedsTo ∈ zq_T := zq_in 763 rfl
set_option maxRecDepth 20000 in
theorem zq_764 : Cond.instanceMethod yX1_deedsTo ∈ zq_T := zq_in 764 rfl
set_option maxRecDepth 20000 in
theorem zq_765 : Cond.selects RX1 yX1_deedsTo yX1_deedsTo ∈ zq_T := zq_in 765 rfl
set_option maxRecDepth 20000 in
theorem zq_766 : Cond.code yX10_soonest cX10_soonest 4 (some .int) ∈ zq_T := zq_in 766 rfl
set_option maxRecDepth 20000 in
theorem zq_767 : Cond.methodLink RX10 257 yX1_deedOnTheWay ∈ zq_T := zq_in 767 rfl
set_option maxRecDepth 20000 in
theorem zq_768 : Cond.instanceMethod yX1_deedOnTheWay ∈ zq_T := zq_in 768 rfl
set_option maxRecDepth 20000 in
theorem zq_769 : Cond.selects RX1 yX1_deedOnTheWay yX1_deedOnTheWay ∈ zq_T := zq_in 769 rfl
set_option maxRecDepth 20000 in
theorem zq_770 : Cond.code yX10_way cX10_way 5 (some .int) ∈ zq_T := zq_in 770 rfl
set_option maxRecDepth 20000 in
theorem zq_771 : Cond.constantLong RX10 260 (-3) ∈ zq_T := zq_in 771 rfl
set_option maxRecDepth 20000 in
theorem zq_772 : Cond.methodLink RX10 262 yX6_wantNothing ∈ zq_T := zq_in 772 rfl
set_option maxRecDepth 20000 in
theorem zq_773 : Cond.instanceMethod yX6_wantNothing ∈ zq_T := zq_in 773 rfl
set_option maxRecDepth 20000 in
theorem zq_774 : Cond.selects RX6 yX6_wantNothing yX6_wantNothing ∈ zq_T := zq_in 774 rfl
set_option maxRecDepth 20000 in
theorem zq_775 : Cond.methodLink RX10 265 yX6_tally ∈ zq_T := zq_in 775 rfl
set_option maxRecDepth 20000 in
theorem zq_776 : Cond.instanceMethod yX6_tally ∈ zq_T := zq_in 776 rfl
set_option maxRecDepth 20000 in
theorem zq_777 : Cond.selects RX6 yX6_tally yX6_tally ∈ zq_T := zq_in 777 rfl
set_option maxRecDepth 20000 in
theorem zq_778 : Cond.methodLink RX10 268 yX6_endingOn ∈ zq_T := zq_in 778 rfl
set_option maxRecDepth 20000 in
theorem zq_779 : Cond.instanceMethod yX6_endingOn ∈ zq_T := zq_in 779 rfl
set_option maxRecDepth 20000 in
theorem zq_780 : Cond.selects RX6 yX6_endingOn yX6_endingOn ∈ zq_T := zq_in 780 rfl
set_option maxRecDepth 20000 in
theorem zq_781 : Cond.code yX10_rows cX10_rows 5 (some .long) ∈ zq_T := zq_in 781 rfl
set_option maxRecDepth 20000 in
theorem zq_782 : Cond.methodLink RX10 272 yX1_topRungWith ∈ zq_T := zq_in 782 rfl
set_option maxRecDepth 20000 in
theorem zq_783 : Cond.instanceMethod yX1_topRungWith ∈ zq_T := zq_in 783 rfl
set_option maxRecDepth 20000 in
theorem zq_784 : Cond.selects RX1 yX1_topRungWith yX1_topRungWith ∈ zq_T := zq_in 784 rfl
set_option maxRecDepth 20000 in
theorem zq_785 : Cond.code yX10_highest cX10_highest 2 (some .int) ∈ zq_T := zq_in 785 rfl
set_option maxRecDepth 20000 in
theorem zq_786 : Cond.methodLink RX10 275 yX1_richestSet ∈ zq_T := zq_in 786 rfl
set_option maxRecDepth 20000 in
theorem zq_787 : Cond.instanceMethod yX1_richestSet ∈ zq_T := zq_in 787 rfl
set_option maxRecDepth 20000 in
theorem zq_788 : Cond.selects RX1 yX1_richestSet yX1_richestSet ∈ zq_T := zq_in 788 rfl
set_option maxRecDepth 20000 in
theorem zq_789 : Cond.methodLink RX10 278 yJ6_bitCount_0f7a4 ∈ zq_T := zq_in 789 rfl
set_option maxRecDepth 20000 in
theorem zq_790 : Cond.code yX10_most cX10_most 4 (some .int) ∈ zq_T := zq_in 790 rfl
set_option maxRecDepth 20000 in
theorem zq_791 : Cond.methodLink RX10 283 yX1_everHadOn ∈ zq_T := zq_in 791 rfl
set_option maxRecDepth 20000 in
theorem zq_792 : Cond.instanceMethod yX1_everHadOn ∈ zq_T := zq_in 792 rfl
set_option maxRecDepth 20000 in
theorem zq_793 : Cond.selects RX1 yX1_everHadOn yX1_everHadOn ∈ zq_T := zq_in 793 rfl
set_option maxRecDepth 20000 in
theorem zq_794 : Cond.code yX10_loses cX10_loses 3 (some .int) ∈ zq_T := zq_in 794 rfl
set_option maxRecDepth 20000 in
theorem zq_795 : Cond.fieldLink RX10 286 "HermitLadder$Coming" "size" "I" ∈ zq_T := zq_in 795 rfl
set_option maxRecDepth 20000 in
theorem zq_796 : Cond.code yX10_stands cX10_stands 1 (some .int) ∈ zq_T := zq_in 796 rfl
set_option maxRecDepth 20000 in
theorem zq_797 : Cond.code yX10_lands cX10_lands 4 (some .int) ∈ zq_T := zq_in 797 rfl
set_option maxRecDepth 20000 in
theorem zq_798 : Cond.methodLink RX10 287 yX0_isThing ∈ zq_T := zq_in 798 rfl
set_option maxRecDepth 20000 in
theorem zq_799 : Cond.methodLink RX10 290 yX0_holds ∈ zq_T := zq_in 799 rfl
set_option maxRecDepth 20000 in
theorem zq_800 : Cond.code yX10_isTenAndThing cX10_isTenAndThing 2 (some .boolean) ∈ zq_T := zq_in 800 rfl
set_option maxRecDepth 20000 in
theorem zq_801 : Cond.methodLink RX10 294 yX10_isTenAndThing ∈ zq_T := zq_in 801 rfl
set_option maxRecDepth 20000 in
theorem zq_802 : Cond.instanceMethod yX10_isTenAndThing ∈ zq_T := zq_in 802 rfl
set_option maxRecDepth 20000 in
theorem zq_803 : Cond.selects RX10 yX10_isTenAndThing yX10_isTenAndThing ∈ zq_T := zq_in 803 rfl
set_option maxRecDepth 20000 in
theorem zq_804 : Cond.methodLink RX10 297 yX7_reckon ∈ zq_T := zq_in 804 rfl
set_option maxRecDepth 20000 in
theorem zq_805 : Cond.instanceMethod yX7_reckon ∈ zq_T := zq_in 805 rfl
set_option maxRecDepth 20000 in
theorem zq_806 : Cond.selects RX7 yX7_reckon yX7_reckon ∈ zq_T := zq_in 806 rfl
set_option maxRecDepth 20000 in
theorem zq_807 : Cond.methodLink RX10 301 yX7_landed ∈ zq_T := zq_in 807 rfl
set_option maxRecDepth 20000 in
theorem zq_808 : Cond.instanceMethod yX7_landed ∈ zq_T := zq_in 808 rfl
set_option maxRecDepth 20000 in
theorem zq_809 : Cond.selects RX7 yX7_landed yX7_landed ∈ zq_T := zq_in 809 rfl
set_option maxRecDepth 20000 in
theorem zq_810 : Cond.methodLink RX10 305 yX7_rungOfThing ∈ zq_T := zq_in 810 rfl
set_option maxRecDepth 20000 in
theorem zq_811 : Cond.instanceMethod yX7_rungOfThing ∈ zq_T := zq_in 811 rfl
set_option maxRecDepth 20000 in
theorem zq_812 : Cond.selects RX7 yX7_rungOfThing yX7_rungOfThing ∈ zq_T := zq_in 812 rfl
set_option maxRecDepth 20000 in
theorem zq_813 : Cond.code yX10_shares cX10_shares 4 (some .int) ∈ zq_T := zq_in 813 rfl
set_option maxRecDepth 20000 in
theorem zq_814 : Cond.methodLink RX10 317 yX3_afterHabit ∈ zq_T := zq_in 814 rfl
set_option maxRecDepth 20000 in
theorem zq_815 : Cond.instanceMethod yX3_afterHabit ∈ zq_T := zq_in 815 rfl
set_option maxRecDepth 20000 in
theorem zq_816 : Cond.selects RX3 yX3_afterHabit yX3_afterHabit ∈ zq_T := zq_in 816 rfl
set_option maxRecDepth 20000 in
theorem zq_817 : Cond.code yX10_timesTillSettled cX10_timesTillSettled 4 (some .int) ∈ zq_T := zq_in 817 rfl
set_option maxRecDepth 20000 in
theorem zq_818 : Cond.constant RX10 308 (99999) ∈ zq_T := zq_in 818 rfl
set_option maxRecDepth 20000 in
theorem zq_819 : Cond.methodLink RX10 312 Lib.Math.min.name ∈ zq_T := zq_in 819 rfl
set_option maxRecDepth 20000 in
theorem zq_820 : Cond.methodLink RX10 309 yX10_timesTillSettled ∈ zq_T := zq_in 820 rfl
set_option maxRecDepth 20000 in
theorem zq_821 : Cond.instanceMethod yX10_timesTillSettled ∈ zq_T := zq_in 821 rfl
set_option maxRecDepth 20000 in
theorem zq_822 : Cond.selects RX10 yX10_timesTillSettled yX10_timesTillSettled ∈ zq_T := zq_in 822 rfl
set_option maxRecDepth 20000 in
theorem zq_823 : Cond.code yX10_lies cX10_lies 5 (some .int) ∈ zq_T := zq_in 823 rfl
set_option maxRecDepth 20000 in
theorem zq_824 : Cond.code yX10_round cX10_round 2 (some .int) ∈ zq_T := zq_in 824 rfl
set_option maxRecDepth 20000 in
theorem zq_825 : Cond.code yX10_when cX10_when 5 (some .int) ∈ zq_T := zq_in 825 rfl
set_option maxRecDepth 20000 in
theorem zq_826 : Cond.code yX10_toldRefused cX10_toldRefused 8 (some .int) ∈ zq_T := zq_in 826 rfl
set_option maxRecDepth 20000 in
theorem zq_827 : Cond.fieldLink RX10 337 "HermitLadder$Tray" "numbers" "[J" ∈ zq_T := zq_in 827 rfl
set_option maxRecDepth 20000 in
theorem zq_828 : Cond.methodLink RX10 329 yX10_toldRefused ∈ zq_T := zq_in 828 rfl
set_option maxRecDepth 20000 in
theorem zq_829 : Cond.instanceMethod yX10_toldRefused ∈ zq_T := zq_in 829 rfl
set_option maxRecDepth 20000 in
theorem zq_830 : Cond.selects RX10 yX10_toldRefused yX10_toldRefused ∈ zq_T := zq_in 830 rfl
set_option maxRecDepth 20000 in
theorem zq_831 : Cond.methodLink RX10 333 yX6_want ∈ zq_T := zq_in 831 rfl
set_option maxRecDepth 20000 in
theorem zq_832 : Cond.instanceMethod yX6_want ∈ zq_T := zq_in 832 rfl
set_option maxRecDepth 20000 in
theorem zq_833 : Cond.selects RX6 yX6_want yX6_want ∈ zq_T := zq_in 833 rfl
set_option maxRecDepth 20000 in
theorem zq_834 : Cond.code yX10_tallySeen cX10_tallySeen 3 (some .int) ∈ zq_T := zq_in 834 rfl
set_option maxRecDepth 20000 in
theorem zq_835 : Cond.methodLink RX10 320 yX10_tallySeen ∈ zq_T := zq_in 835 rfl
set_option maxRecDepth 20000 in
theorem zq_836 : Cond.instanceMethod yX10_tallySeen ∈ zq_T := zq_in 836 rfl
set_option maxRecDepth 20000 in
theorem zq_837 : Cond.selects RX10 yX10_tallySeen yX10_tallySeen ∈ zq_T := zq_in 837 rfl
set_option maxRecDepth 20000 in
theorem zq_838 : Cond.code yX10_seen cX10_seen 3 (some .long) ∈ zq_T := zq_in 838 rfl
set_option maxRecDepth 20000 in
theorem zq_839 : Cond.methodLink RX10 323 yX6_deedOfFirst ∈ zq_T := zq_in 839 rfl
set_option maxRecDepth 20000 in
theorem zq_840 : Cond.instanceMethod yX6_deedOfFirst ∈ zq_T := zq_in 840 rfl
set_option maxRecDepth 20000 in
theorem zq_841 : Cond.selects RX6 yX6_deedOfFirst yX6_deedOfFirst ∈ zq_T := zq_in 841 rfl
set_option maxRecDepth 20000 in
theorem zq_842 : Cond.code yX10_seenBy cX10_seenBy 4 (some .int) ∈ zq_T := zq_in 842 rfl
set_option maxRecDepth 20000 in
theorem zq_843 : Cond.methodLink RX10 326 yX6_commonThings ∈ zq_T := zq_in 843 rfl
set_option maxRecDepth 20000 in
theorem zq_844 : Cond.instanceMethod yX6_commonThings ∈ zq_T := zq_in 844 rfl
set_option maxRecDepth 20000 in
theorem zq_845 : Cond.selects RX6 yX6_commonThings yX6_commonThings ∈ zq_T := zq_in 845 rfl
set_option maxRecDepth 20000 in
theorem zq_846 : Cond.code yX10_surely cX10_surely 3 (some .int) ∈ zq_T := zq_in 846 rfl
set_option maxRecDepth 20000 in
theorem zq_847 : Cond.code yX10_tiresAsTold cX10_tiresAsTold 5 (some .boolean) ∈ zq_T := zq_in 847 rfl
set_option maxRecDepth 20000 in
theorem zq_848 : Cond.methodLink RX10 344 yX10_tiresAsTold ∈ zq_T := zq_in 848 rfl
set_option maxRecDepth 20000 in
theorem zq_849 : Cond.instanceMethod yX10_tiresAsTold ∈ zq_T := zq_in 849 rfl
set_option maxRecDepth 20000 in
theorem zq_850 : Cond.selects RX10 yX10_tiresAsTold yX10_tiresAsTold ∈ zq_T := zq_in 850 rfl
set_option maxRecDepth 20000 in
theorem zq_851 : Cond.code yX10_windsThatTire cX10_windsThatTire 4 (some .int) ∈ zq_T := zq_in 851 rfl
set_option maxRecDepth 20000 in
theorem zq_852 : Cond.methodLink RX10 341 yX10_windsThatTire ∈ zq_T := zq_in 852 rfl
set_option maxRecDepth 20000 in
theorem zq_853 : Cond.instanceMethod yX10_windsThatTire ∈ zq_T := zq_in 853 rfl
set_option maxRecDepth 20000 in
theorem zq_854 : Cond.selects RX10 yX10_windsThatTire yX10_windsThatTire ∈ zq_T := zq_in 854 rfl
set_option maxRecDepth 20000 in
theorem zq_855 : Cond.code yX10_winds cX10_winds 3 (some .int) ∈ zq_T := zq_in 855 rfl
set_option maxRecDepth 20000 in
theorem zq_856 : Cond.methodLink RX10 351 Lib.Math.max.name ∈ zq_T := zq_in 856 rfl
set_option maxRecDepth 20000 in
theorem zq_857 : Cond.code yX10_mostAlike cX10_mostAlike 9 (some .int) ∈ zq_T := zq_in 857 rfl
set_option maxRecDepth 20000 in
theorem zq_858 : Cond.methodLink RX10 348 yX10_mostAlike ∈ zq_T := zq_in 858 rfl
set_option maxRecDepth 20000 in
theorem zq_859 : Cond.instanceMethod yX10_mostAlike ∈ zq_T := zq_in 859 rfl
set_option maxRecDepth 20000 in
theorem zq_860 : Cond.selects RX10 yX10_mostAlike yX10_mostAlike ∈ zq_T := zq_in 860 rfl
set_option maxRecDepth 20000 in
theorem zq_861 : Cond.code yX10_attempt cX10_attempt 8 (some .int) ∈ zq_T := zq_in 861 rfl
set_option maxRecDepth 20000 in
theorem zq_862 : Cond.code yX10_withstands cX10_withstands 2 (some .int) ∈ zq_T := zq_in 862 rfl
set_option maxRecDepth 20000 in
theorem zq_863 : Cond.methodLink RX10 354 yX8_reckon ∈ zq_T := zq_in 863 rfl
set_option maxRecDepth 20000 in
theorem zq_864 : Cond.instanceMethod yX8_reckon ∈ zq_T := zq_in 864 rfl
set_option maxRecDepth 20000 in
theorem zq_865 : Cond.selects RX8 yX8_reckon yX8_reckon ∈ zq_T := zq_in 865 rfl
set_option maxRecDepth 20000 in
theorem zq_866 : Cond.methodLink RX10 357 yX8_numerator ∈ zq_T := zq_in 866 rfl
set_option maxRecDepth 20000 in
theorem zq_867 : Cond.instanceMethod yX8_numerator ∈ zq_T := zq_in 867 rfl
set_option maxRecDepth 20000 in
theorem zq_868 : Cond.selects RX8 yX8_numerator yX8_numerator ∈ zq_T := zq_in 868 rfl
set_option maxRecDepth 20000 in
theorem zq_869 : Cond.methodLink RX10 360 yX8_denominator ∈ zq_T := zq_in 869 rfl
set_option maxRecDepth 20000 in
theorem zq_870 : Cond.instanceMethod yX8_denominator ∈ zq_T := zq_in 870 rfl
set_option maxRecDepth 20000 in
theorem zq_871 : Cond.selects RX8 yX8_denominator yX8_denominator ∈ zq_T := zq_in 871 rfl
set_option maxRecDepth 20000 in
theorem zq_872 : Cond.code yX10_chance cX10_chance 4 (some .int) ∈ zq_T := zq_in 872 rfl
set_option maxRecDepth 20000 in
theorem zq_873 : Cond.fieldLink RX10 363 "HermitLadder$Slips" "firstDeed" "I" ∈ zq_T := zq_in 873 rfl
set_option maxRecDepth 20000 in
theorem zq_874 : Cond.code yX10_best cX10_best 3 (some .int) ∈ zq_T := zq_in 874 rfl
set_option maxRecDepth 20000 in
theorem zq_875 : Cond.code yX10_numbers cX10_numbers 4 (some .int) ∈ zq_T := zq_in 875 rfl
set_option maxRecDepth 20000 in
theorem zq_876 : Cond.methodLink RX10 366 yX9_make ∈ zq_T := zq_in 876 rfl
set_option maxRecDepth 20000 in
theorem zq_877 : Cond.instanceMethod yX9_make ∈ zq_T := zq_in 877 rfl
set_option maxRecDepth 20000 in
theorem zq_878 : Cond.selects RX9 yX9_make yX9_make ∈ zq_T := zq_in 878 rfl
set_option maxRecDepth 20000 in
theorem zq_879 : Cond.code yX10_write cX10_write 6 (some .long) ∈ zq_T := zq_in 879 rfl
set_option maxRecDepth 20000 in
theorem zq_880 : Cond.constantLong RX10 369 (-7) ∈ zq_T := zq_in 880 rfl
set_option maxRecDepth 20000 in
theorem zq_881 : Cond.methodLink RX10 371 yX9_put ∈ zq_T := zq_in 881 rfl
set_option maxRecDepth 20000 in
theorem zq_882 : Cond.instanceMethod yX9_put ∈ zq_T := zq_in 882 rfl
set_option maxRecDepth 20000 in
theorem zq_883 : Cond.selects RX9 yX9_put yX9_put ∈ zq_T := zq_in 883 rfl
set_option maxRecDepth 20000 in
theorem zq_884 : Cond.code yX10_lists cX10_lists 7 (some .int) ∈ zq_T := zq_in 884 rfl
set_option maxRecDepth 20000 in
theorem zq_885 : Cond.code yX10_isImage cX10_isImage 1 (some .boolean) ∈ zq_T := zq_in 885 rfl
set_option maxRecDepth 20000 in
theorem zq_886 : Cond.methodLink RX10 375 yX10_isImage ∈ zq_T := zq_in 886 rfl
set_option maxRecDepth 20000 in
theorem zq_887 : Cond.static yX10_isImage ∈ zq_T := zq_in 887 rfl
set_option maxRecDepth 20000 in
theorem zq_888 : Cond.code yX10_image cX10_image 2 (some .int) ∈ zq_T := zq_in 888 rfl
set_option maxRecDepth 20000 in
theorem zq_889 : Cond.code yX10_restore cX10_restore 2 (some .int) ∈ zq_T := zq_in 889 rfl
set_option maxRecDepth 20000 in
theorem zq_890 : Cond.code yX10_count cX10_count 2 (some .int) ∈ zq_T := zq_in 890 rfl
set_option maxRecDepth 20000 in
theorem zq_891 : Cond.fieldLink RX10 378 "HermitLadder$Cliff" "top" "I" ∈ zq_T := zq_in 891 rfl
set_option maxRecDepth 20000 in
theorem zq_892 : Cond.fieldLink RX10 381 "HermitLadder$Cliff" "things" "I" ∈ zq_T := zq_in 892 rfl
set_option maxRecDepth 20000 in
theorem zq_893 : Cond.code yJ9_max_7cf53 cJ9_max_7cf53 2 (some .int) ∈ zq_T := zq_in 893 rfl
set_option maxRecDepth 20000 in
theorem zq_894 : Cond.code yJ9_max_f86c9 cJ9_max_f86c9 4 (some .long) ∈ zq_T := zq_in 894 rfl
set_option maxRecDepth 20000 in
theorem zq_895 : Cond.code yJ9_min_7cf53 cJ9_min_7cf53 2 (some .int) ∈ zq_T := zq_in 895 rfl
set_option maxRecDepth 20000 in
theorem zq_896 : Cond.code yJ9_min_f86c9 cJ9_min_f86c9 4 (some .long) ∈ zq_T := zq_in 896 rfl
