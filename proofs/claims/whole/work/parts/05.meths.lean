/-! methods and what calls of them need: printed by wip/whole/gen/regions.py -/
def m_W_feed : MTy := (0, prog_1_method_2_code, 6, (some .int), ⟨"CoachWaits", "feed", "(IIIII)I"⟩)
def m_Tok_hasSpace : MTy := (1, prog_10_method_3_code, 2, (some .boolean), ⟨"CoachWaits$Tokens", "hasSpace", "(I)Z"⟩)
def m_Tok_put : MTy := (1, prog_10_method_4_code, 3, none, ⟨"CoachWaits$Tokens", "put", "(I)V"⟩)
def m_Tok_size : MTy := (1, prog_10_method_2_code, 1, (some .int), ⟨"CoachWaits$Tokens", "size", "()I"⟩)
def m_W_road : MTy := (0, prog_1_method_3_code, 2, (some .int), ⟨"CoachWaits", "road", "(I)I"⟩)
def m_Rd_read : MTy := (3, prog_6_method_4_code, 3, none, ⟨"CoachWaits$Reader", "read", "(I)V"⟩)
def m_Road_clear : MTy := (2, prog_8_method_2_code, 1, none, ⟨"CoachWaits$Road", "clear", "()V"⟩)
def m_Tok_open : MTy := (1, prog_10_method_6_code, 2, none, ⟨"CoachWaits$Tokens", "open", "(I)V"⟩)
def m_Math_min_II : MTy := (22, prog_16_method_69_code, 2, (some .int), ⟨"java/lang/Math", "min", "(II)I"⟩)
def m_Math_max_II : MTy := (22, prog_16_method_65_code, 2, (some .int), ⟨"java/lang/Math", "max", "(II)I"⟩)
def m_Tok_step : MTy := (1, prog_10_method_7_code, 2, none, ⟨"CoachWaits$Tokens", "step", "()V"⟩)
def m_Tok_at : MTy := (1, prog_10_method_8_code, 2, (some .int), ⟨"CoachWaits$Tokens", "at", "(I)I"⟩)
def m_Tok_isLetter : MTy := (1, prog_10_method_9_code, 1, (some .boolean), ⟨"CoachWaits$Tokens", "isLetter", "(I)Z"⟩)
def m_Tok_isDigit : MTy := (1, prog_10_method_10_code, 1, (some .boolean), ⟨"CoachWaits$Tokens", "isDigit", "(I)Z"⟩)
def m_Str_indexOf_I : MTy := (20, prog_17_method_79_code, 2, (some .int), ⟨"java/lang/String", "indexOf", "(I)I"⟩)
def m_Str_indexOf_II : MTy := (20, prog_17_method_80_code, 3, (some .int), ⟨"java/lang/String", "indexOf", "(II)I"⟩)
def m_Str_isLatin1 : MTy := (20, prog_17_method_154_code, 1, (some .boolean), ⟨"java/lang/String", "isLatin1", "()Z"⟩)
def m_Str_length : MTy := (20, prog_17_method_54_code, 1, (some .int), ⟨"java/lang/String", "length", "()I"⟩)
def m_Str_coder : MTy := (20, prog_17_method_152_code, 1, (some .byte), ⟨"java/lang/String", "coder", "()B"⟩)
def m_Lat_indexOf : MTy := (21, prog_18_method_22_code, 4, (some .int), ⟨"java/lang/StringLatin1", "indexOf", "([BIII)I"⟩)
def m_Lat_canEncode : MTy := (21, prog_18_method_4_code, 1, (some .boolean), ⟨"java/lang/StringLatin1", "canEncode", "(I)Z"⟩)
def m_Lat_indexOfChar : MTy := (21, prog_18_method_23_code, 6, (some .int), ⟨"java/lang/StringLatin1", "indexOfChar", "([BIII)I"⟩)
def m_Str_checkBoundsBeginEnd : MTy := (20, prog_17_method_158_code, 3, none, ⟨"java/lang/String", "checkBoundsBeginEnd", "(III)V"⟩)
def m_Pre_checkFromToIndex : MTy := (27, prog_22_method_12_code, 4, (some .int), ⟨"jdk/internal/util/Preconditions", "checkFromToIndex", "(IIILjava/util/function/BiFunction;)I"⟩)
def m_Rd_firstLine : MTy := (3, prog_6_method_11_code, 1, none, ⟨"CoachWaits$Reader", "firstLine", "()V"⟩)
def m_Rd_takeWord : MTy := (3, prog_6_method_7_code, 2, none, ⟨"CoachWaits$Reader", "takeWord", "(Ljava/lang/String;)V"⟩)
def m_Rd_isSound : MTy := (3, prog_6_method_5_code, 1, (some .boolean), ⟨"CoachWaits$Reader", "isSound", "()Z"⟩)
def m_Tok_isWord : MTy := (1, prog_10_method_16_code, 3, (some .boolean), ⟨"CoachWaits$Tokens", "isWord", "(Ljava/lang/String;)Z"⟩)
def m_Str_charAt : MTy := (20, prog_17_method_56_code, 2, (some .char), ⟨"java/lang/String", "charAt", "(I)C"⟩)
def m_Lat_charAt : MTy := (21, prog_18_method_2_code, 2, (some .char), ⟨"java/lang/StringLatin1", "charAt", "([BI)C"⟩)
def m_Str_checkIndex : MTy := (20, prog_17_method_155_code, 2, none, ⟨"java/lang/String", "checkIndex", "(II)V"⟩)
def m_Pre_checkIndex : MTy := (27, prog_22_method_11_code, 3, (some .int), ⟨"jdk/internal/util/Preconditions", "checkIndex", "(IILjava/util/function/BiFunction;)I"⟩)
def m_Rd_refuse : MTy := (3, prog_6_method_6_code, 2, none, ⟨"CoachWaits$Reader", "refuse", "(I)V"⟩)
def m_Tok_isBad : MTy := (1, prog_10_method_12_code, 1, (some .boolean), ⟨"CoachWaits$Tokens", "isBad", "()Z"⟩)
def m_Tok_startPlace : MTy := (1, prog_10_method_11_code, 1, (some .int), ⟨"CoachWaits$Tokens", "startPlace", "()I"⟩)
def m_Rd_takeNumber : MTy := (3, prog_6_method_9_code, 4, (some .int), ⟨"CoachWaits$Reader", "takeNumber", "(II)I"⟩)
def m_Tok_isNumber : MTy := (1, prog_10_method_14_code, 1, (some .boolean), ⟨"CoachWaits$Tokens", "isNumber", "()Z"⟩)
def m_Tok_numberValue : MTy := (1, prog_10_method_17_code, 1, (some .int), ⟨"CoachWaits$Tokens", "numberValue", "()I"⟩)
def m_Rd_endLine : MTy := (3, prog_6_method_10_code, 1, none, ⟨"CoachWaits$Reader", "endLine", "()V"⟩)
def m_Rd_takeSign : MTy := (3, prog_6_method_8_code, 2, none, ⟨"CoachWaits$Reader", "takeSign", "(C)V"⟩)
def m_Tok_isSign : MTy := (1, prog_10_method_15_code, 2, (some .boolean), ⟨"CoachWaits$Tokens", "isSign", "(C)Z"⟩)
def m_Tok_isEnd : MTy := (1, prog_10_method_13_code, 1, (some .boolean), ⟨"CoachWaits$Tokens", "isEnd", "()Z"⟩)
def m_Rd_line : MTy := (3, prog_6_method_12_code, 1, none, ⟨"CoachWaits$Reader", "line", "()V"⟩)
def m_Rd_coachLine : MTy := (3, prog_6_method_13_code, 3, none, ⟨"CoachWaits$Reader", "coachLine", "()V"⟩)
def m_Road_addCoach : MTy := (2, prog_8_method_4_code, 3, none, ⟨"CoachWaits$Road", "addCoach", "(II)V"⟩)
def m_Rd_waitLine : MTy := (3, prog_6_method_14_code, 5, none, ⟨"CoachWaits$Reader", "waitLine", "()V"⟩)
def m_Road_addWait : MTy := (2, prog_8_method_5_code, 5, none, ⟨"CoachWaits$Road", "addWait", "(IIII)V"⟩)
def m_Rd_takesLine : MTy := (3, prog_6_method_15_code, 1, none, ⟨"CoachWaits$Reader", "takesLine", "()V"⟩)
def m_Rd_sum : MTy := (3, prog_6_method_21_code, 4, none, ⟨"CoachWaits$Reader", "sum", "(I)V"⟩)
def m_Rd_term : MTy := (3, prog_6_method_23_code, 3, none, ⟨"CoachWaits$Reader", "term", "(I)V"⟩)
def m_Rd_atom : MTy := (3, prog_6_method_24_code, 2, none, ⟨"CoachWaits$Reader", "atom", "(I)V"⟩)
def m_Road_emit : MTy := (2, prog_8_method_6_code, 4, (some .int), ⟨"CoachWaits$Road", "emit", "(II)I"⟩)
def m_Rd_opens : MTy := (3, prog_6_method_25_code, 2, (some .boolean), ⟨"CoachWaits$Reader", "opens", "(I)Z"⟩)
def m_Rd_choice : MTy := (3, prog_6_method_26_code, 4, none, ⟨"CoachWaits$Reader", "choice", "(I)V"⟩)
def m_Rd_truth : MTy := (3, prog_6_method_17_code, 3, none, ⟨"CoachWaits$Reader", "truth", "(I)V"⟩)
def m_Rd_both : MTy := (3, prog_6_method_18_code, 3, none, ⟨"CoachWaits$Reader", "both", "(I)V"⟩)
def m_Rd_unit : MTy := (3, prog_6_method_19_code, 2, none, ⟨"CoachWaits$Reader", "unit", "(I)V"⟩)
def m_Rd_comparison : MTy := (3, prog_6_method_20_code, 3, none, ⟨"CoachWaits$Reader", "comparison", "(I)V"⟩)
def m_Road_aimHere : MTy := (2, prog_8_method_7_code, 2, none, ⟨"CoachWaits$Road", "aimHere", "(I)V"⟩)
def m_Rd_nameSlot : MTy := (3, prog_6_method_28_code, 1, (some .int), ⟨"CoachWaits$Reader", "nameSlot", "()I"⟩)
def m_Rd_takeName : MTy := (3, prog_6_method_27_code, 2, none, ⟨"CoachWaits$Reader", "takeName", "(I)V"⟩)
def m_Rd_isPlusOrMinus : MTy := (3, prog_6_method_22_code, 1, (some .boolean), ⟨"CoachWaits$Reader", "isPlusOrMinus", "()Z"⟩)
def m_Rd_waitsLine : MTy := (3, prog_6_method_16_code, 1, none, ⟨"CoachWaits$Reader", "waitsLine", "()V"⟩)
def m_Tok_empty : MTy := (1, prog_10_method_5_code, 1, none, ⟨"CoachWaits$Tokens", "empty", "()V"⟩)
def m_Rd_faultKind : MTy := (3, prog_6_method_2_code, 1, (some .int), ⟨"CoachWaits$Reader", "faultKind", "()I"⟩)
def m_Road_copy : MTy := (2, prog_8_method_3_code, 2, none, ⟨"CoachWaits$Road", "copy", "(LCoachWaits$Road;)V"⟩)
def m_St_begin : MTy := (4, prog_9_method_2_code, 2, none, ⟨"CoachWaits$Stand", "begin", "(I)V"⟩)
def m_Arr_fill_aII : MTy := (24, prog_21_method_103_code, 4, none, ⟨"java/util/Arrays", "fill", "([II)V"⟩)
def m_W_setOutAnew : MTy := (0, prog_1_method_43_code, 1, none, ⟨"CoachWaits", "setOutAnew", "()V"⟩)
def m_Pa_forget : MTy := (9, prog_5_method_3_code, 1, none, ⟨"CoachWaits$Past", "forget", "()V"⟩)
def m_Go_forget : MTy := (5, prog_3_method_2_code, 4, none, ⟨"CoachWaits$Going", "forget", "()V"⟩)
def m_Road_toOf : MTy := (2, prog_8_method_13_code, 2, (some .int), ⟨"CoachWaits$Road", "toOf", "(I)I"⟩)
def m_Rg_find : MTy := (7, prog_7_method_3_code, 2, none, ⟨"CoachWaits$Rings", "find", "()V"⟩)
def m_Rg_follow : MTy := (7, prog_7_method_4_code, 7, none, ⟨"CoachWaits$Rings", "follow", "(IIII)V"⟩)
def m_Road_fromOf : MTy := (2, prog_8_method_12_code, 2, (some .int), ⟨"CoachWaits$Road", "fromOf", "(I)I"⟩)
def m_Rg_add : MTy := (7, prog_7_method_5_code, 2, none, ⟨"CoachWaits$Rings", "add", "(I)V"⟩)
def m_Int_bitCount : MTy := (23, prog_15_method_49_code, 1, (some .int), ⟨"java/lang/Integer", "bitCount", "(I)I"⟩)
def m_W_fault : MTy := (0, prog_1_method_4_code, 2, (some .int), ⟨"CoachWaits", "fault", "(I)I"⟩)
def m_Rd_faultPlace : MTy := (3, prog_6_method_3_code, 1, (some .int), ⟨"CoachWaits$Reader", "faultPlace", "()I"⟩)
def m_W_coach : MTy := (0, prog_1_method_5_code, 3, (some .int), ⟨"CoachWaits", "coach", "(II)I"⟩)
def m_W_isCoach : MTy := (0, prog_1_method_44_code, 2, (some .boolean), ⟨"CoachWaits", "isCoach", "(I)Z"⟩)
def m_Road_hourOf : MTy := (2, prog_8_method_10_code, 2, (some .int), ⟨"CoachWaits$Road", "hourOf", "(I)I"⟩)
def m_Road_patienceOf : MTy := (2, prog_8_method_11_code, 2, (some .int), ⟨"CoachWaits$Road", "patienceOf", "(I)I"⟩)
def m_St_lastOf : MTy := (4, prog_9_method_4_code, 2, (some .int), ⟨"CoachWaits$Stand", "lastOf", "(I)I"⟩)
def m_St_earlierOf : MTy := (4, prog_9_method_5_code, 2, (some .int), ⟨"CoachWaits$Stand", "earlierOf", "(I)I"⟩)
def m_St_heldOf : MTy := (4, prog_9_method_6_code, 2, (some .int), ⟨"CoachWaits$Stand", "heldOf", "(I)I"⟩)
def m_W_waiting : MTy := (0, prog_1_method_6_code, 3, (some .int), ⟨"CoachWaits", "waiting", "(II)I"⟩)
def m_Road_hasWait : MTy := (2, prog_8_method_9_code, 2, (some .boolean), ⟨"CoachWaits$Road", "hasWait", "(I)Z"⟩)
def m_Road_lagOf : MTy := (2, prog_8_method_15_code, 2, (some .int), ⟨"CoachWaits$Road", "lagOf", "(I)I"⟩)
def m_Go_timeOf : MTy := (5, prog_3_method_3_code, 3, (some .int), ⟨"CoachWaits$Going", "timeOf", "(II)I"⟩)
def m_Go_reckon : MTy := (5, prog_3_method_7_code, 4, none, ⟨"CoachWaits$Going", "reckon", "(I)V"⟩)
def m_Road_takesOf : MTy := (2, prog_8_method_14_code, 2, (some .int), ⟨"CoachWaits$Road", "takesOf", "(I)I"⟩)
def m_Road_hasTakesLaw : MTy := (2, prog_8_method_16_code, 1, (some .boolean), ⟨"CoachWaits$Road", "hasTakesLaw", "()Z"⟩)
def m_Law_setNames : MTy := (6, prog_4_method_2_code, 5, none, ⟨"CoachWaits$Law", "setNames", "(LCoachWaits$Road;III)V"⟩)
def m_Law_tell : MTy := (6, prog_4_method_3_code, 9, (some .int), ⟨"CoachWaits$Law", "tell", "(LCoachWaits$Road;II)I"⟩)
def m_Road_stepAt : MTy := (2, prog_8_method_8_code, 2, (some .int), ⟨"CoachWaits$Road", "stepAt", "(I)I"⟩)
def m_Law_push : MTy := (6, prog_4_method_5_code, 2, none, ⟨"CoachWaits$Law", "push", "(I)V"⟩)
def m_Law_pop : MTy := (6, prog_4_method_6_code, 1, (some .int), ⟨"CoachWaits$Law", "pop", "()I"⟩)
def m_Law_ofTwo : MTy := (6, prog_4_method_4_code, 5, (some .int), ⟨"CoachWaits$Law", "ofTwo", "(III)I"⟩)
def m_Go_timeReckoned : MTy := (5, prog_3_method_4_code, 2, (some .int), ⟨"CoachWaits$Going", "timeReckoned", "(I)I"⟩)
def m_W_by : MTy := (0, prog_1_method_7_code, 3, (some .int), ⟨"CoachWaits", "by", "(II)I"⟩)
def m_W_isRound : MTy := (0, prog_1_method_46_code, 3, (some .boolean), ⟨"CoachWaits", "isRound", "(J)Z"⟩)
def m_W_tryRound : MTy := (0, prog_1_method_47_code, 2, none, ⟨"CoachWaits", "tryRound", "(I)V"⟩)
def m_St_copy : MTy := (4, prog_9_method_3_code, 3, none, ⟨"CoachWaits$Stand", "copy", "(LCoachWaits$Stand;)V"⟩)
def m_Go_turn : MTy := (5, prog_3_method_9_code, 8, (some .boolean), ⟨"CoachWaits$Going", "turn", "(LCoachWaits$Stand;I)Z"⟩)
def m_Go_lateFor : MTy := (5, prog_3_method_10_code, 4, (some .int), ⟨"CoachWaits$Going", "lateFor", "(ILCoachWaits$Stand;)I"⟩)
def m_Go_freshOf : MTy := (5, prog_3_method_11_code, 2, (some .int), ⟨"CoachWaits$Going", "freshOf", "(I)I"⟩)
def m_Go_isKept : MTy := (5, prog_3_method_12_code, 6, (some .boolean), ⟨"CoachWaits$Going", "isKept", "(III)Z"⟩)
def m_Road_hasWaitsLaw : MTy := (2, prog_8_method_17_code, 1, (some .boolean), ⟨"CoachWaits$Road", "hasWaitsLaw", "()Z"⟩)
def m_St_passTo : MTy := (4, prog_9_method_13_code, 4, (some .boolean), ⟨"CoachWaits$Stand", "passTo", "([I)Z"⟩)
def m_W_forWhich : MTy := (0, prog_1_method_8_code, 3, (some .int), ⟨"CoachWaits", "forWhich", "(II)I"⟩)
def m_Go_causeOf : MTy := (5, prog_3_method_5_code, 2, (some .int), ⟨"CoachWaits$Going", "causeOf", "(I)I"⟩)
def m_W_round : MTy := (0, prog_1_method_9_code, 2, (some .int), ⟨"CoachWaits", "round", "(I)I"⟩)
def m_Pa_push : MTy := (9, prog_5_method_4_code, 2, none, ⟨"CoachWaits$Past", "push", "(LCoachWaits$Stand;)V"⟩)
def m_Math_floorMod : MTy := (22, prog_16_method_50_code, 3, (some .int), ⟨"java/lang/Math", "floorMod", "(II)I"⟩)
def m_W_doDeed : MTy := (0, prog_1_method_48_code, 5, (some .boolean), ⟨"CoachWaits", "doDeed", "(LCoachWaits$Stand;J)Z"⟩)
def m_St_holdBy : MTy := (4, prog_9_method_7_code, 3, none, ⟨"CoachWaits$Stand", "holdBy", "(II)V"⟩)
def m_St_lateCount : MTy := (4, prog_9_method_8_code, 1, (some .int), ⟨"CoachWaits$Stand", "lateCount", "()I"⟩)
def m_St_lateBits : MTy := (4, prog_9_method_10_code, 3, (some .int), ⟨"CoachWaits$Stand", "lateBits", "()I"⟩)
def m_W_rounds : MTy := (0, prog_1_method_10_code, 2, (some .int), ⟨"CoachWaits", "rounds", "(I)I"⟩)
def m_Go_go : MTy := (5, prog_3_method_8_code, 4, none, ⟨"CoachWaits$Going", "go", "(LCoachWaits$Stand;I)V"⟩)
def m_W_hold : MTy := (0, prog_1_method_11_code, 4, (some .int), ⟨"CoachWaits", "hold", "(II)I"⟩)
def m_W_mud : MTy := (0, prog_1_method_12_code, 3, (some .int), ⟨"CoachWaits", "mud", "(I)I"⟩)
def m_W_undo : MTy := (0, prog_1_method_13_code, 2, (some .int), ⟨"CoachWaits", "undo", "(I)I"⟩)
def m_Pa_size : MTy := (9, prog_5_method_2_code, 1, (some .int), ⟨"CoachWaits$Past", "size", "()I"⟩)
def m_Pa_back : MTy := (9, prog_5_method_5_code, 3, none, ⟨"CoachWaits$Past", "back", "(ILCoachWaits$Stand;)V"⟩)
def m_W_judge : MTy := (0, prog_1_method_14_code, 6, (some .int), ⟨"CoachWaits", "judge", "(II)I"⟩)
def m_W_trayAt : MTy := (0, prog_1_method_45_code, 2, (some (.object "CoachWaits$Tray")), ⟨"CoachWaits", "trayAt", "(I)LCoachWaits$Tray;"⟩)
def m_Tr_isMissing : MTy := (10, prog_11_method_2_code, 1, (some .boolean), ⟨"CoachWaits$Tray", "isMissing", "()Z"⟩)
def m_W_doAll : MTy := (0, prog_1_method_49_code, 4, (some .int), ⟨"CoachWaits", "doAll", "(LCoachWaits$Stand;LCoachWaits$Tray;)I"⟩)
def m_Tr_size : MTy := (10, prog_11_method_3_code, 1, (some .int), ⟨"CoachWaits$Tray", "size", "()I"⟩)
def m_Tr_at : MTy := (10, prog_11_method_5_code, 2, (some .long), ⟨"CoachWaits$Tray", "at", "(I)J"⟩)
def m_St_lateSum : MTy := (4, prog_9_method_9_code, 3, (some .int), ⟨"CoachWaits$Stand", "lateSum", "()I"⟩)
def m_W_perform : MTy := (0, prog_1_method_15_code, 4, (some .int), ⟨"CoachWaits", "perform", "(I)I"⟩)
def m_W_week : MTy := (0, prog_1_method_16_code, 4, (some .int), ⟨"CoachWaits", "week", "(II)I"⟩)
def m_W_doWeek : MTy := (0, prog_1_method_50_code, 8, (some .int), ⟨"CoachWaits", "doWeek", "(II)I"⟩)
def m_W_drawn : MTy := (0, prog_1_method_51_code, 1, (some .int), ⟨"CoachWaits", "drawn", "(I)I"⟩)
def m_W_weekDeed : MTy := (0, prog_1_method_52_code, 2, (some .int), ⟨"CoachWaits", "weekDeed", "(II)I"⟩)
def m_W_late : MTy := (0, prog_1_method_17_code, 3, (some .int), ⟨"CoachWaits", "late", "(II)I"⟩)
def m_W_lateGoing : MTy := (0, prog_1_method_53_code, 3, (some .int), ⟨"CoachWaits", "lateGoing", "(II)I"⟩)
def m_W_sets : MTy := (0, prog_1_method_18_code, 3, (some .int), ⟨"CoachWaits", "sets", "(II)I"⟩)
def m_W_calm : MTy := (0, prog_1_method_19_code, 2, (some .int), ⟨"CoachWaits", "calm", "()I"⟩)
def m_St_isCalm : MTy := (4, prog_9_method_12_code, 2, (some .boolean), ⟨"CoachWaits$Stand", "isCalm", "()Z"⟩)
def m_W_slowest : MTy := (0, prog_1_method_20_code, 5, (some .int), ⟨"CoachWaits", "slowest", "(I)I"⟩)
def m_Rg_slowestWithout : MTy := (7, prog_7_method_10_code, 4, (some .int), ⟨"CoachWaits$Rings", "slowestWithout", "(I)I"⟩)
def m_Rg_ringAt : MTy := (7, prog_7_method_6_code, 2, (some .int), ⟨"CoachWaits$Rings", "ringAt", "(I)I"⟩)
def m_Rg_isBelow : MTy := (7, prog_7_method_9_code, 3, (some .boolean), ⟨"CoachWaits$Rings", "isBelow", "(II)Z"⟩)
def m_Rg_timesOf : MTy := (7, prog_7_method_7_code, 5, (some .int), ⟨"CoachWaits$Rings", "timesOf", "(I)I"⟩)
def m_Rg_lagsOf : MTy := (7, prog_7_method_8_code, 5, (some .int), ⟨"CoachWaits$Rings", "lagsOf", "(I)I"⟩)
def m_W_lowest : MTy := (0, prog_1_method_62_code, 12, (some .long), ⟨"CoachWaits", "lowest", "(JJI)J"⟩)
def m_W_slow : MTy := (0, prog_1_method_21_code, 1, (some .int), ⟨"CoachWaits", "slow", "()I"⟩)
def m_Rg_slowCoaches : MTy := (7, prog_7_method_11_code, 4, (some .int), ⟨"CoachWaits$Rings", "slowCoaches", "()I"⟩)
def m_Rg_coachesOf : MTy := (7, prog_7_method_12_code, 4, (some .int), ⟨"CoachWaits$Rings", "coachesOf", "(I)I"⟩)
def m_W_rings : MTy := (0, prog_1_method_22_code, 1, (some .int), ⟨"CoachWaits", "rings", "()I"⟩)
def m_Rg_size : MTy := (7, prog_7_method_2_code, 1, (some .int), ⟨"CoachWaits$Rings", "size", "()I"⟩)
def m_W_period : MTy := (0, prog_1_method_23_code, 1, (some .int), ⟨"CoachWaits", "period", "()I"⟩)
def m_Rg_leastPeriod : MTy := (7, prog_7_method_13_code, 3, (some .int), ⟨"CoachWaits$Rings", "leastPeriod", "()I"⟩)
def m_W_hour : MTy := (0, prog_1_method_24_code, 3, (some .int), ⟨"CoachWaits", "hour", "(II)I"⟩)
def m_Rg_keepingHour : MTy := (7, prog_7_method_14_code, 4, (some .int), ⟨"CoachWaits$Rings", "keepingHour", "(II)I"⟩)
def m_Rg_putOff : MTy := (7, prog_7_method_15_code, 7, (some .boolean), ⟨"CoachWaits$Rings", "putOff", "(I)Z"⟩)
def m_W_room : MTy := (0, prog_1_method_25_code, 3, (some .int), ⟨"CoachWaits", "room", "(I)I"⟩)
def m_Rg_isInRing : MTy := (7, prog_7_method_16_code, 3, (some .boolean), ⟨"CoachWaits$Rings", "isInRing", "(I)Z"⟩)
def m_Rg_spaceOf : MTy := (7, prog_7_method_17_code, 4, (some .int), ⟨"CoachWaits$Rings", "spaceOf", "(I)I"⟩)
def m_W_leave : MTy := (0, prog_1_method_26_code, 1, (some .int), ⟨"CoachWaits", "leave", "()I"⟩)
def m_Rg_bestOut : MTy := (7, prog_7_method_18_code, 5, (some .int), ⟨"CoachWaits$Rings", "bestOut", "()I"⟩)
def m_W_leaves : MTy := (0, prog_1_method_27_code, 4, (some .int), ⟨"CoachWaits", "leaves", "(II)I"⟩)
def m_Rg_fewestOut : MTy := (7, prog_7_method_19_code, 5, (some .int), ⟨"CoachWaits$Rings", "fewestOut", "(I)I"⟩)
def m_Rg_breaksAll : MTy := (7, prog_7_method_20_code, 4, (some .boolean), ⟨"CoachWaits$Rings", "breaksAll", "(II)Z"⟩)
def m_W_spread : MTy := (0, prog_1_method_28_code, 9, (some .int), ⟨"CoachWaits", "spread", "(III)I"⟩)
def m_W_planWithHeld : MTy := (0, prog_1_method_54_code, 3, none, ⟨"CoachWaits", "planWithHeld", "(II)V"⟩)
def m_St_isQuiet : MTy := (4, prog_9_method_11_code, 2, (some .boolean), ⟨"CoachWaits$Stand", "isQuiet", "()Z"⟩)
def m_W_leeway : MTy := (0, prog_1_method_29_code, 3, (some .int), ⟨"CoachWaits", "leeway", "(I)I"⟩)
def m_W_harmsNobodyElse : MTy := (0, prog_1_method_55_code, 5, (some .boolean), ⟨"CoachWaits", "harmsNobodyElse", "(II)Z"⟩)
def m_W_soonest : MTy := (0, prog_1_method_30_code, 1, (some .int), ⟨"CoachWaits", "soonest", "()I"⟩)
def m_Br_fewest : MTy := (8, prog_2_method_3_code, 3, (some .int), ⟨"CoachWaits$Branches", "fewest", "(LCoachWaits$Stand;)I"⟩)
def m_Br_isReached : MTy := (8, prog_2_method_7_code, 5, (some .boolean), ⟨"CoachWaits$Branches", "isReached", "(II)Z"⟩)
def m_Br_stepOn : MTy := (8, prog_2_method_6_code, 3, (some .int), ⟨"CoachWaits$Branches", "stepOn", "(II)I"⟩)
def m_Go_causeBits : MTy := (5, prog_3_method_6_code, 3, (some .int), ⟨"CoachWaits$Going", "causeBits", "()I"⟩)
def m_W_way : MTy := (0, prog_1_method_31_code, 3, (some .int), ⟨"CoachWaits", "way", "(I)I"⟩)
def m_Br_deedAt : MTy := (8, prog_2_method_2_code, 2, (some .int), ⟨"CoachWaits$Branches", "deedAt", "(I)I"⟩)
def m_W_rows : MTy := (0, prog_1_method_32_code, 3, (some .int), ⟨"CoachWaits", "rows", "(II)I"⟩)
def m_Br_rowsInTime : MTy := (8, prog_2_method_4_code, 4, (some .int), ⟨"CoachWaits$Branches", "rowsInTime", "(LCoachWaits$Stand;II)I"⟩)
def m_Br_rowsFrom : MTy := (8, prog_2_method_8_code, 8, (some .int), ⟨"CoachWaits$Branches", "rowsFrom", "(III)I"⟩)
def m_W_muds : MTy := (0, prog_1_method_33_code, 5, (some .int), ⟨"CoachWaits", "muds", "(II)I"⟩)
def m_W_refusalOfSeen : MTy := (0, prog_1_method_56_code, 4, (some .int), ⟨"CoachWaits", "refusalOfSeen", "(LCoachWaits$Tray;I)I"⟩)
def m_W_mudsSeen : MTy := (0, prog_1_method_57_code, 5, (some .int), ⟨"CoachWaits", "mudsSeen", "(LCoachWaits$Tray;I)I"⟩)
def m_W_isSeenBy : MTy := (0, prog_1_method_58_code, 5, (some .boolean), ⟨"CoachWaits", "isSeenBy", "(ILCoachWaits$Tray;I)Z"⟩)
def m_W_look : MTy := (0, prog_1_method_34_code, 6, (some .int), ⟨"CoachWaits", "look", "(II)I"⟩)
def m_W_bestToLookAt : MTy := (0, prog_1_method_59_code, 6, (some .int), ⟨"CoachWaits", "bestToLookAt", "(I)I"⟩)
def m_W_mostAlike : MTy := (0, prog_1_method_60_code, 8, (some .int), ⟨"CoachWaits", "mostAlike", "(II)I"⟩)
def m_W_chance : MTy := (0, prog_1_method_35_code, 4, (some .int), ⟨"CoachWaits", "chance", "(III)I"⟩)
def m_Br_lotsDrawn : MTy := (8, prog_2_method_5_code, 5, (some .long), ⟨"CoachWaits$Branches", "lotsDrawn", "(LCoachWaits$Stand;III)J"⟩)
def m_Br_lotsFrom : MTy := (8, prog_2_method_9_code, 10, (some .long), ⟨"CoachWaits$Branches", "lotsFrom", "(IIII)J"⟩)
def m_W_lotsOf : MTy := (0, prog_1_method_61_code, 4, (some .long), ⟨"CoachWaits", "lotsOf", "(I)J"⟩)
def m_W_mean : MTy := (0, prog_1_method_36_code, 5, (some .long), ⟨"CoachWaits", "mean", "(IIII)J"⟩)
def m_W_numbers : MTy := (0, prog_1_method_37_code, 5, (some .int), ⟨"CoachWaits", "numbers", "(III)I"⟩)
def m_Tr_renew : MTy := (10, prog_11_method_4_code, 3, none, ⟨"CoachWaits$Tray", "renew", "(II)V"⟩)
def m_Arr_fill_aJJ : MTy := (24, prog_21_method_101_code, 5, none, ⟨"java/util/Arrays", "fill", "([JJ)V"⟩)
def m_W_write : MTy := (0, prog_1_method_38_code, 6, (some .long), ⟨"CoachWaits", "write", "(IIJ)J"⟩)
def m_Tr_put : MTy := (10, prog_11_method_6_code, 4, none, ⟨"CoachWaits$Tray", "put", "(IJ)V"⟩)
def m_Tr_cut : MTy := (10, prog_11_method_7_code, 3, (some .long), ⟨"CoachWaits$Tray", "cut", "(J)J"⟩)
def m_W_lists : MTy := (0, prog_1_method_39_code, 5, (some .int), ⟨"CoachWaits", "lists", "(II)I"⟩)
def m_W_image : MTy := (0, prog_1_method_40_code, 2, (some .int), ⟨"CoachWaits", "image", "(I)I"⟩)
def m_W_restore : MTy := (0, prog_1_method_41_code, 2, (some .int), ⟨"CoachWaits", "restore", "(I)I"⟩)
def m_W_count : MTy := (0, prog_1_method_42_code, 2, (some .int), ⟨"CoachWaits", "count", "(I)I"⟩)
def m_M_plain : MTy := (11, prog_13_method_4_code, 2, none, ⟨"CoachWaitsModel", "plain", "([I)V"⟩)
def m_M_feed : MTy := (11, prog_13_method_5_code, 8, (some .int), ⟨"CoachWaitsModel", "feed", "(IIIII)I"⟩)
def m_M_road : MTy := (11, prog_13_method_32_code, 3, (some .int), ⟨"CoachWaitsModel", "road", "(I)I"⟩)
def m_M_within : MTy := (11, prog_13_method_2_code, 6, (some .boolean), ⟨"CoachWaitsModel", "within", "(JJJ)Z"⟩)
def m_M_next : MTy := (11, prog_13_method_10_code, 2, none, ⟨"CoachWaitsModel", "next", "()V"⟩)
def m_M_see : MTy := (11, prog_13_method_6_code, 2, (some .int), ⟨"CoachWaitsModel", "see", "(I)I"⟩)
def m_M_isSmall : MTy := (11, prog_13_method_7_code, 1, (some .boolean), ⟨"CoachWaitsModel", "isSmall", "(I)Z"⟩)
def m_M_keyAt : MTy := (11, prog_13_method_9_code, 4, (some .int), ⟨"CoachWaitsModel", "keyAt", "()I"⟩)
def m_M_isDigit : MTy := (11, prog_13_method_8_code, 1, (some .boolean), ⟨"CoachWaitsModel", "isDigit", "(I)Z"⟩)
def m_M_eats : MTy := (11, prog_13_method_13_code, 2, (some .boolean), ⟨"CoachWaitsModel", "eats", "(I)Z"⟩)
def m_M_is : MTy := (11, prog_13_method_12_code, 2, (some .boolean), ⟨"CoachWaitsModel", "is", "(I)Z"⟩)
def m_M_fails : MTy := (11, prog_13_method_11_code, 2, none, ⟨"CoachWaitsModel", "fails", "(I)V"⟩)
def m_M_named : MTy := (11, prog_13_method_26_code, 4, (some .int), ⟨"CoachWaitsModel", "named", "(III)I"⟩)
def m_M_takes : MTy := (11, prog_13_method_14_code, 4, (some .int), ⟨"CoachWaitsModel", "takes", "(II)I"⟩)
def m_M_closes : MTy := (11, prog_13_method_31_code, 1, none, ⟨"CoachWaitsModel", "closes", "()V"⟩)
def m_M_readLine : MTy := (11, prog_13_method_30_code, 1, none, ⟨"CoachWaitsModel", "readLine", "()V"⟩)
def m_M_readCoach : MTy := (11, prog_13_method_27_code, 2, none, ⟨"CoachWaitsModel", "readCoach", "()V"⟩)
def m_M_readWait : MTy := (11, prog_13_method_28_code, 2, none, ⟨"CoachWaitsModel", "readWait", "()V"⟩)
def m_M_readLaw : MTy := (11, prog_13_method_29_code, 3, none, ⟨"CoachWaitsModel", "readLaw", "(I)V"⟩)
def m_M_readSum : MTy := (11, prog_13_method_22_code, 3, none, ⟨"CoachWaitsModel", "readSum", "(I)V"⟩)
def m_M_readTerm : MTy := (11, prog_13_method_21_code, 2, none, ⟨"CoachWaitsModel", "readTerm", "(I)V"⟩)
def m_M_readAtom : MTy := (11, prog_13_method_19_code, 2, none, ⟨"CoachWaitsModel", "readAtom", "(I)V"⟩)
def m_M_codes : MTy := (11, prog_13_method_17_code, 2, none, ⟨"CoachWaitsModel", "codes", "(I)V"⟩)
def m_M_wordOf : MTy := (11, prog_13_method_16_code, 2, (some .int), ⟨"CoachWaitsModel", "wordOf", "(I)I"⟩)
def m_M_goesIn : MTy := (11, prog_13_method_18_code, 2, (some .boolean), ⟨"CoachWaitsModel", "goesIn", "(I)Z"⟩)
def m_M_readIf : MTy := (11, prog_13_method_20_code, 2, none, ⟨"CoachWaitsModel", "readIf", "(I)V"⟩)
def m_M_readTruth : MTy := (11, prog_13_method_25_code, 2, none, ⟨"CoachWaitsModel", "readTruth", "(I)V"⟩)
def m_M_readBoth : MTy := (11, prog_13_method_24_code, 2, none, ⟨"CoachWaitsModel", "readBoth", "(I)V"⟩)
def m_M_readUnit : MTy := (11, prog_13_method_23_code, 3, none, ⟨"CoachWaitsModel", "readUnit", "(I)V"⟩)
def m_M_fault : MTy := (11, prog_13_method_33_code, 2, (some .int), ⟨"CoachWaitsModel", "fault", "(I)I"⟩)
def m_M_coach : MTy := (11, prog_13_method_53_code, 3, (some .int), ⟨"CoachWaitsModel", "coach", "(II)I"⟩)
def m_M_isCoach : MTy := (11, prog_13_method_34_code, 3, (some .boolean), ⟨"CoachWaitsModel", "isCoach", "(J)Z"⟩)
def m_M_waiting : MTy := (11, prog_13_method_54_code, 3, (some .int), ⟨"CoachWaitsModel", "waiting", "(II)I"⟩)
def m_M_isWait : MTy := (11, prog_13_method_35_code, 2, (some .boolean), ⟨"CoachWaitsModel", "isWait", "(I)Z"⟩)
def m_M_fromOf : MTy := (11, prog_13_method_36_code, 2, (some .int), ⟨"CoachWaitsModel", "fromOf", "(I)I"⟩)
def m_M_toOf : MTy := (11, prog_13_method_37_code, 2, (some .int), ⟨"CoachWaitsModel", "toOf", "(I)I"⟩)
def m_M_lagOf : MTy := (11, prog_13_method_38_code, 2, (some .int), ⟨"CoachWaitsModel", "lagOf", "(I)I"⟩)
def m_M_timeOf : MTy := (11, prog_13_method_43_code, 4, (some .int), ⟨"CoachWaitsModel", "timeOf", "(II)I"⟩)
def m_M_reckons : MTy := (11, prog_13_method_42_code, 5, (some .int), ⟨"CoachWaitsModel", "reckons", "(I)I"⟩)
def m_M_between : MTy := (11, prog_13_method_41_code, 5, (some .int), ⟨"CoachWaitsModel", "between", "(III)I"⟩)
def m_M_kept : MTy := (11, prog_13_method_40_code, 3, (some .int), ⟨"CoachWaitsModel", "kept", "(III)I"⟩)
def m_M_by : MTy := (11, prog_13_method_57_code, 4, (some .int), ⟨"CoachWaitsModel", "by", "(II)I"⟩)
def m_M_noRound : MTy := (11, prog_13_method_56_code, 3, (some .int), ⟨"CoachWaitsModel", "noRound", "(II)I"⟩)
def m_M_isRound : MTy := (11, prog_13_method_55_code, 3, (some .boolean), ⟨"CoachWaitsModel", "isRound", "(J)Z"⟩)
def m_M_begins : MTy := (11, prog_13_method_45_code, 3, none, ⟨"CoachWaitsModel", "begins", "(I)V"⟩)
def m_M_laysTimes : MTy := (11, prog_13_method_44_code, 3, none, ⟨"CoachWaitsModel", "laysTimes", "(I)V"⟩)
def m_M_goes : MTy := (11, prog_13_method_48_code, 4, none, ⟨"CoachWaitsModel", "goes", "(II)V"⟩)
def m_M_lateIn : MTy := (11, prog_13_method_47_code, 7, (some .int), ⟨"CoachWaitsModel", "lateIn", "(III)I"⟩)
def m_M_isKept : MTy := (11, prog_13_method_46_code, 3, (some .boolean), ⟨"CoachWaitsModel", "isKept", "(II)Z"⟩)
def m_M_lateAt : MTy := (11, prog_13_method_49_code, 3, (some .int), ⟨"CoachWaitsModel", "lateAt", "(II)I"⟩)
def m_M_forWhich : MTy := (11, prog_13_method_58_code, 5, (some .int), ⟨"CoachWaitsModel", "forWhich", "(II)I"⟩)
def m_M_round : MTy := (11, prog_13_method_65_code, 2, (some .int), ⟨"CoachWaitsModel", "round", "(I)I"⟩)
def m_M_stores : MTy := (11, prog_13_method_59_code, 2, none, ⟨"CoachWaitsModel", "stores", "()V"⟩)
def m_M_goesRound : MTy := (11, prog_13_method_62_code, 3, none, ⟨"CoachWaitsModel", "goesRound", "(I)V"⟩)
def m_M_notes : MTy := (11, prog_13_method_61_code, 2, none, ⟨"CoachWaitsModel", "notes", "()V"⟩)
def m_M_whoNow : MTy := (11, prog_13_method_63_code, 3, (some .int), ⟨"CoachWaitsModel", "whoNow", "()I"⟩)
def m_M_bitsOf : MTy := (11, prog_13_method_39_code, 3, (some .int), ⟨"CoachWaitsModel", "bitsOf", "(I)I"⟩)
def m_M_rounds : MTy := (11, prog_13_method_66_code, 3, (some .int), ⟨"CoachWaitsModel", "rounds", "(I)I"⟩)
def m_M_hold : MTy := (11, prog_13_method_67_code, 3, (some .int), ⟨"CoachWaitsModel", "hold", "(II)I"⟩)
def m_M_mud : MTy := (11, prog_13_method_68_code, 2, (some .int), ⟨"CoachWaitsModel", "mud", "(I)I"⟩)
def m_M_undo : MTy := (11, prog_13_method_69_code, 3, (some .int), ⟨"CoachWaitsModel", "undo", "(I)I"⟩)
def m_M_judge : MTy := (11, prog_13_method_74_code, 7, (some .int), ⟨"CoachWaitsModel", "judge", "(II)I"⟩)
def m_M_noTray : MTy := (11, prog_13_method_73_code, 2, (some .int), ⟨"CoachWaitsModel", "noTray", "(I)I"⟩)
def m_M_tells : MTy := (11, prog_13_method_72_code, 3, (some .int), ⟨"CoachWaitsModel", "tells", "(I)I"⟩)
def m_M_whyNot : MTy := (11, prog_13_method_70_code, 3, (some .int), ⟨"CoachWaitsModel", "whyNot", "(J)I"⟩)
def m_M_does : MTy := (11, prog_13_method_71_code, 2, none, ⟨"CoachWaitsModel", "does", "(I)V"⟩)
def m_M_sumNow : MTy := (11, prog_13_method_64_code, 3, (some .int), ⟨"CoachWaitsModel", "sumNow", "()I"⟩)
def m_M_isAgain : MTy := (11, prog_13_method_60_code, 2, none, ⟨"CoachWaitsModel", "isAgain", "()V"⟩)
def m_M_perform : MTy := (11, prog_13_method_75_code, 4, (some .int), ⟨"CoachWaitsModel", "perform", "(I)I"⟩)
def m_M_week : MTy := (11, prog_13_method_78_code, 6, (some .int), ⟨"CoachWaitsModel", "week", "(II)I"⟩)
def m_M_drawn : MTy := (11, prog_13_method_77_code, 3, (some .int), ⟨"CoachWaitsModel", "drawn", "()I"⟩)
def m_M_draw : MTy := (11, prog_13_method_76_code, 2, (some .int), ⟨"CoachWaitsModel", "draw", "(I)I"⟩)
def m_M_late : MTy := (11, prog_13_method_79_code, 3, (some .int), ⟨"CoachWaitsModel", "late", "(II)I"⟩)
def m_M_goesFor : MTy := (11, prog_13_method_52_code, 3, none, ⟨"CoachWaitsModel", "goesFor", "(I)V"⟩)
def m_M_sets : MTy := (11, prog_13_method_80_code, 3, (some .int), ⟨"CoachWaitsModel", "sets", "(II)I"⟩)
def m_M_calm : MTy := (11, prog_13_method_82_code, 2, (some .int), ⟨"CoachWaitsModel", "calm", "()I"⟩)
def m_M_isCalm : MTy := (11, prog_13_method_81_code, 4, (some .boolean), ⟨"CoachWaitsModel", "isCalm", "(I)Z"⟩)
def m_M_whoIn : MTy := (11, prog_13_method_50_code, 4, (some .int), ⟨"CoachWaitsModel", "whoIn", "(I)I"⟩)
def m_M_slowest : MTy := (11, prog_13_method_87_code, 2, (some .int), ⟨"CoachWaitsModel", "slowest", "(I)I"⟩)
def m_M_laysSlow : MTy := (11, prog_13_method_85_code, 6, none, ⟨"CoachWaitsModel", "laysSlow", "(I)V"⟩)
def m_M_isRing : MTy := (11, prog_13_method_83_code, 7, (some .boolean), ⟨"CoachWaitsModel", "isRing", "(I)Z"⟩)
def m_M_isIn : MTy := (11, prog_13_method_15_code, 3, (some .boolean), ⟨"CoachWaitsModel", "isIn", "(JI)Z"⟩)
def m_M_onBy : MTy := (11, prog_13_method_84_code, 4, (some .int), ⟨"CoachWaitsModel", "onBy", "(II)I"⟩)
def m_M_common : MTy := (11, prog_13_method_86_code, 2, (some .int), ⟨"CoachWaitsModel", "common", "(II)I"⟩)
def m_M_slow : MTy := (11, prog_13_method_88_code, 1, (some .int), ⟨"CoachWaitsModel", "slow", "()I"⟩)
def m_M_rings : MTy := (11, prog_13_method_89_code, 1, (some .int), ⟨"CoachWaitsModel", "rings", "()I"⟩)
def m_M_period : MTy := (11, prog_13_method_90_code, 2, (some .int), ⟨"CoachWaitsModel", "period", "()I"⟩)
def m_M_hour : MTy := (11, prog_13_method_92_code, 3, (some .int), ⟨"CoachWaitsModel", "hour", "(II)I"⟩)
def m_M_laysHours : MTy := (11, prog_13_method_91_code, 7, (some .boolean), ⟨"CoachWaitsModel", "laysHours", "(II)Z"⟩)
def m_M_room : MTy := (11, prog_13_method_93_code, 5, (some .int), ⟨"CoachWaitsModel", "room", "(I)I"⟩)
def m_M_leave : MTy := (11, prog_13_method_94_code, 6, (some .int), ⟨"CoachWaitsModel", "leave", "()I"⟩)
def m_M_leaves : MTy := (11, prog_13_method_95_code, 5, (some .int), ⟨"CoachWaitsModel", "leaves", "(II)I"⟩)
def m_M_spread : MTy := (11, prog_13_method_97_code, 9, (some .int), ⟨"CoachWaitsModel", "spread", "(III)I"⟩)
def m_M_laysSpread : MTy := (11, prog_13_method_96_code, 4, none, ⟨"CoachWaitsModel", "laysSpread", "(II)V"⟩)
def m_M_sumIn : MTy := (11, prog_13_method_51_code, 4, (some .int), ⟨"CoachWaitsModel", "sumIn", "(I)I"⟩)
def m_M_leeway : MTy := (11, prog_13_method_98_code, 5, (some .int), ⟨"CoachWaitsModel", "leeway", "(I)I"⟩)
def m_M_soonest : MTy := (11, prog_13_method_101_code, 1, (some .int), ⟨"CoachWaitsModel", "soonest", "()I"⟩)
def m_M_laysFound : MTy := (11, prog_13_method_100_code, 2, (some .int), ⟨"CoachWaitsModel", "laysFound", "()I"⟩)
def m_M_finds : MTy := (11, prog_13_method_99_code, 5, (some .boolean), ⟨"CoachWaitsModel", "finds", "(II)Z"⟩)
def m_M_way : MTy := (11, prog_13_method_102_code, 2, (some .int), ⟨"CoachWaitsModel", "way", "(I)I"⟩)
def m_M_rows : MTy := (11, prog_13_method_104_code, 3, (some .int), ⟨"CoachWaitsModel", "rows", "(II)I"⟩)
def m_M_rowsFrom : MTy := (11, prog_13_method_103_code, 7, (some .int), ⟨"CoachWaitsModel", "rowsFrom", "(III)I"⟩)
def m_M_muds : MTy := (11, prog_13_method_107_code, 4, (some .int), ⟨"CoachWaitsModel", "muds", "(II)I"⟩)
def m_M_noSeen : MTy := (11, prog_13_method_105_code, 5, (some .int), ⟨"CoachWaitsModel", "noSeen", "(II)I"⟩)
def m_M_mudsOf : MTy := (11, prog_13_method_106_code, 7, (some .int), ⟨"CoachWaitsModel", "mudsOf", "(II)I"⟩)
def m_M_look : MTy := (11, prog_13_method_109_code, 9, (some .int), ⟨"CoachWaitsModel", "look", "(II)I"⟩)
def m_M_mostAlike : MTy := (11, prog_13_method_108_code, 7, (some .int), ⟨"CoachWaitsModel", "mostAlike", "(II)I"⟩)
def m_M_chance : MTy := (11, prog_13_method_115_code, 4, (some .int), ⟨"CoachWaitsModel", "chance", "(III)I"⟩)
def m_M_laysLots : MTy := (11, prog_13_method_111_code, 4, none, ⟨"CoachWaitsModel", "laysLots", "(III)V"⟩)
def m_M_goesLots : MTy := (11, prog_13_method_110_code, 9, none, ⟨"CoachWaitsModel", "goesLots", "(IIIIJ)V"⟩)
def m_M_wholeOf : MTy := (11, prog_13_method_112_code, 4, (some .long), ⟨"CoachWaitsModel", "wholeOf", "(I)J"⟩)
def m_M_part : MTy := (11, prog_13_method_114_code, 5, (some .long), ⟨"CoachWaitsModel", "part", "(JJI)J"⟩)
def m_M_commonOf : MTy := (11, prog_13_method_113_code, 4, (some .long), ⟨"CoachWaitsModel", "commonOf", "(JJ)J"⟩)
def m_M_mean : MTy := (11, prog_13_method_116_code, 5, (some .long), ⟨"CoachWaitsModel", "mean", "(IIII)J"⟩)
def m_M_numbers : MTy := (11, prog_13_method_118_code, 5, (some .int), ⟨"CoachWaitsModel", "numbers", "(III)I"⟩)
def m_M_write : MTy := (11, prog_13_method_119_code, 6, (some .long), ⟨"CoachWaitsModel", "write", "(IIJ)J"⟩)
def m_M_cut : MTy := (11, prog_13_method_117_code, 3, (some .long), ⟨"CoachWaitsModel", "cut", "(JI)J"⟩)
def m_M_lists : MTy := (11, prog_13_method_120_code, 5, (some .int), ⟨"CoachWaitsModel", "lists", "(II)I"⟩)
def m_M_image : MTy := (11, prog_13_method_121_code, 3, (some .int), ⟨"CoachWaitsModel", "image", "(I)I"⟩)
def m_M_restore : MTy := (11, prog_13_method_122_code, 3, (some .int), ⟨"CoachWaitsModel", "restore", "(I)I"⟩)
def m_M_count : MTy := (11, prog_13_method_123_code, 2, (some .int), ⟨"CoachWaitsModel", "count", "(I)I"⟩)
def m_Lw_law : MTy := (12, code, 4, (some .boolean), ⟨"CoachWaitsLaw", "law", "([I)Z"⟩)
theorem cy_Tok_hasSpace : okCY false 1 m_Tok_hasSpace := ⟨tw_t2 148 (by decide +kernel) rfl, tw_t1 2 (by decide +kernel) rfl, ⟨fun h => (by cases h), fun _ => ⟨tw_t2 146 (by decide +kernel) rfl, tw_t2 147 (by decide +kernel) rfl⟩⟩, by decide +kernel⟩
theorem ct_W_105 : okCT 0 105 false 1 m_Tok_hasSpace := ⟨tw_t2 145 (by decide +kernel) rfl, cy_Tok_hasSpace⟩
theorem cy_Tok_put : okCY false 1 m_Tok_put := ⟨tw_t2 152 (by decide +kernel) rfl, tw_t1 2 (by decide +kernel) rfl, ⟨fun h => (by cases h), fun _ => ⟨tw_t2 150 (by decide +kernel) rfl, tw_t2 151 (by decide +kernel) rfl⟩⟩, by decide +kernel⟩
theorem ct_W_109 : okCT 0 109 false 1 m_Tok_put := ⟨tw_t2 149 (by decide +kernel) rfl, cy_Tok_put⟩
theorem cy_Tok_size : okCY false 0 m_Tok_size := ⟨tw_t2 156 (by decide +kernel) rfl, tw_t1 2 (by decide +kernel) rfl, ⟨fun h => (by cases h), fun _ => ⟨tw_t2 154 (by decide +kernel) rfl, tw_t2 155 (by decide +kernel) rfl⟩⟩, by decide +kernel⟩
theorem ct_W_113 : okCT 0 113 false 0 m_Tok_size := ⟨tw_t2 153 (by decide +kernel) rfl, cy_Tok_size⟩
theorem cy_Rd_read : okCY false 1 m_Rd_read := ⟨tw_t2 164 (by decide +kernel) rfl, tw_t1 4 (by decide +kernel) rfl, ⟨fun h => (by cases h), fun _ => ⟨tw_t2 162 (by decide +kernel) rfl, tw_t2 163 (by decide +kernel) rfl⟩⟩, by decide +kernel⟩
theorem ct_W_117 : okCT 0 117 false 1 m_Rd_read := ⟨tw_t2 161 (by decide +kernel) rfl, cy_Rd_read⟩
theorem cy_Tok_empty : okCY false 0 m_Tok_empty := ⟨tw_t3 222 (by decide +kernel) rfl, tw_t1 2 (by decide +kernel) rfl, ⟨fun h => (by cases h), fun _ => ⟨tw_t3 220 (by decide +kernel) rfl, tw_t3 221 (by decide +kernel) rfl⟩⟩, by decide +kernel⟩
theorem ct_W_120 : okCT 0 120 false 0 m_Tok_empty := ⟨tw_t3 219 (by decide +kernel) rfl, cy_Tok_empty⟩
theorem cy_Rd_faultKind : okCY false 0 m_Rd_faultKind := ⟨tw_t3 226 (by decide +kernel) rfl, tw_t1 4 (by decide +kernel) rfl, ⟨fun h => (by cases h), fun _ => ⟨tw_t3 224 (by decide +kernel) rfl, tw_t3 225 (by decide +kernel) rfl⟩⟩, by decide +kernel⟩
theorem ct_W_123 : okCT 0 123 false 0 m_Rd_faultKind := ⟨tw_t3 223 (by decide +kernel) rfl, cy_Rd_faultKind⟩
theorem cy_Road_copy : okCY false 1 m_Road_copy := ⟨tw_t3 230 (by decide +kernel) rfl, tw_t1 3 (by decide +kernel) rfl, ⟨fun h => (by cases h), fun _ => ⟨tw_t3 228 (by decide +kernel) rfl, tw_t3 229 (by decide +kernel) rfl⟩⟩, by decide +kernel⟩
theorem ct_W_126 : okCT 0 126 false 1 m_Road_copy := ⟨tw_t3 227 (by decide +kernel) rfl, cy_Road_copy⟩
theorem cy_St_begin : okCY false 1 m_St_begin := ⟨tw_t3 237 (by decide +kernel) rfl, tw_t1 5 (by decide +kernel) rfl, ⟨fun h => (by cases h), fun _ => ⟨tw_t3 235 (by decide +kernel) rfl, tw_t3 236 (by decide +kernel) rfl⟩⟩, by decide +kernel⟩
theorem ct_W_133 : okCT 0 133 false 1 m_St_begin := ⟨tw_t3 234 (by decide +kernel) rfl, cy_St_begin⟩
theorem cy_W_setOutAnew : okCY false 0 m_W_setOutAnew := ⟨tw_t4 4 (by decide +kernel) rfl, tw_t1 1 (by decide +kernel) rfl, ⟨fun h => (by cases h), fun _ => ⟨tw_t4 3 (by decide +kernel) rfl, tw_p2 9 (q := (⟨"CoachWaits", "setOutAnew", "()V"⟩, 16)) (by decide +kernel)⟩⟩, by decide +kernel⟩
theorem ct_W_136 : okCT 0 136 false 0 m_W_setOutAnew := ⟨tw_t4 1 (by decide +kernel) rfl, cy_W_setOutAnew⟩
theorem cy_Rd_faultPlace : okCY false 0 m_Rd_faultPlace := ⟨tw_t4 48 (by decide +kernel) rfl, tw_t1 4 (by decide +kernel) rfl, ⟨fun h => (by cases h), fun _ => ⟨tw_t4 46 (by decide +kernel) rfl, tw_t4 47 (by decide +kernel) rfl⟩⟩, by decide +kernel⟩
theorem ct_W_142 : okCT 0 142 false 0 m_Rd_faultPlace := ⟨tw_t4 45 (by decide +kernel) rfl, cy_Rd_faultPlace⟩
theorem cy_W_isCoach : okCY false 1 m_W_isCoach := ⟨tw_t4 56 (by decide +kernel) rfl, tw_t1 1 (by decide +kernel) rfl, ⟨fun h => (by cases h), fun _ => ⟨tw_t4 55 (by decide +kernel) rfl, tw_p2 12 (q := (⟨"CoachWaits", "isCoach", "(I)Z"⟩, 16)) (by decide +kernel)⟩⟩, by decide +kernel⟩
theorem ct_W_145 : okCT 0 145 false 1 m_W_isCoach := ⟨tw_t4 53 (by decide +kernel) rfl, cy_W_isCoach⟩
theorem cy_Road_hourOf : okCY false 1 m_Road_hourOf := ⟨tw_t4 60 (by decide +kernel) rfl, tw_t1 3 (by decide +kernel) rfl, ⟨fun h => (by cases h), fun _ => ⟨tw_t4 58 (by decide +kernel) rfl, tw_t4 59 (by decide +kernel) rfl⟩⟩, by decide +kernel⟩
theorem ct_W_148 : okCT 0 148 false 1 m_Road_hourOf := ⟨tw_t4 57 (by decide +kernel) rfl, cy_Road_hourOf⟩
theorem cy_Road_patienceOf : okCY false 1 m_Road_patienceOf := ⟨tw_t4 64 (by decide +kernel) rfl, tw_t1 3 (by decide +kernel) rfl, ⟨fun h => (by cases h), fun _ => ⟨tw_t4 62 (by decide +kernel) rfl, tw_t4 63 (by decide +kernel) rfl⟩⟩, by decide +kernel⟩
theorem ct_W_152 : okCT 0 152 false 1 m_Road_patienceOf := ⟨tw_t4 61 (by decide +kernel) rfl, cy_Road_patienceOf⟩
theorem cy_St_lastOf : okCY false 1 m_St_lastOf := ⟨tw_t4 68 (by decide +kernel) rfl, tw_t1 5 (by decide +kernel) rfl, ⟨fun h => (by cases h), fun _ => ⟨tw_t4 66 (by decide +kernel) rfl, tw_t4 67 (by decide +kernel) rfl⟩⟩, by decide +kernel⟩
theorem ct_W_155 : okCT 0 155 false 1 m_St_lastOf := ⟨tw_t4 65 (by decide +kernel) rfl, cy_St_lastOf⟩
theorem cy_St_earlierOf : okCY false 1 m_St_earlierOf := ⟨tw_t4 72 (by decide +kernel) rfl, tw_t1 5 (by decide +kernel) rfl, ⟨fun h => (by cases h), fun _ => ⟨tw_t4 70 (by decide +kernel) rfl, tw_t4 71 (by decide +kernel) rfl⟩⟩, by decide +kernel⟩
theorem ct_W_158 : okCT 0 158 false 1 m_St_earlierOf := ⟨tw_t4 69 (by decide +kernel) rfl, cy_St_earlierOf⟩
theorem cy_St_heldOf : okCY false 1 m_St_heldOf := ⟨tw_t4 76 (by decide +kernel) rfl, tw_t1 5 (by decide +kernel) rfl, ⟨fun h => (by cases h), fun _ => ⟨tw_t4 74 (by decide +kernel) rfl, tw_t4 75 (by decide +kernel) rfl⟩⟩, by decide +kernel⟩
theorem ct_W_161 : okCT 0 161 false 1 m_St_heldOf := ⟨tw_t4 73 (by decide +kernel) rfl, cy_St_heldOf⟩
theorem cy_Road_hasWait : okCY false 1 m_Road_hasWait := ⟨tw_t4 84 (by decide +kernel) rfl, tw_t1 3 (by decide +kernel) rfl, ⟨fun h => (by cases h), fun _ => ⟨tw_t4 82 (by decide +kernel) rfl, tw_t4 83 (by decide +kernel) rfl⟩⟩, by decide +kernel⟩
theorem ct_W_164 : okCT 0 164 false 1 m_Road_hasWait := ⟨tw_t4 81 (by decide +kernel) rfl, cy_Road_hasWait⟩
theorem cy_Road_fromOf : okCY false 1 m_Road_fromOf := ⟨tw_t4 29 (by decide +kernel) rfl, tw_t1 3 (by decide +kernel) rfl, ⟨fun h => (by cases h), fun _ => ⟨tw_t4 27 (by decide +kernel) rfl, tw_t4 28 (by decide +kernel) rfl⟩⟩, by decide +kernel⟩
theorem ct_W_167 : okCT 0 167 false 1 m_Road_fromOf := ⟨tw_t4 85 (by decide +kernel) rfl, cy_Road_fromOf⟩
theorem cy_Road_toOf : okCY false 1 m_Road_toOf := ⟨tw_t4 17 (by decide +kernel) rfl, tw_t1 3 (by decide +kernel) rfl, ⟨fun h => (by cases h), fun _ => ⟨tw_t4 15 (by decide +kernel) rfl, tw_t4 16 (by decide +kernel) rfl⟩⟩, by decide +kernel⟩
theorem ct_W_170 : okCT 0 170 false 1 m_Road_toOf := ⟨tw_t4 86 (by decide +kernel) rfl, cy_Road_toOf⟩
theorem cy_Road_lagOf : okCY false 1 m_Road_lagOf := ⟨tw_t4 90 (by decide +kernel) rfl, tw_t1 3 (by decide +kernel) rfl, ⟨fun h => (by cases h), fun _ => ⟨tw_t4 88 (by decide +kernel) rfl, tw_t4 89 (by decide +kernel) rfl⟩⟩, by decide +kernel⟩
theorem ct_W_173 : okCT 0 173 false 1 m_Road_lagOf := ⟨tw_t4 87 (by decide +kernel) rfl, cy_Road_lagOf⟩
theorem cy_Go_timeOf : okCY false 2 m_Go_timeOf := ⟨tw_t4 94 (by decide +kernel) rfl, tw_t1 6 (by decide +kernel) rfl, ⟨fun h => (by cases h), fun _ => ⟨tw_t4 92 (by decide +kernel) rfl, tw_t4 93 (by decide +kernel) rfl⟩⟩, by decide +kernel⟩
theorem ct_W_179 : okCT 0 179 false 2 m_Go_timeOf := ⟨tw_t4 91 (by decide +kernel) rfl, cy_Go_timeOf⟩
theorem cy_W_isRound : okCY false 1 m_W_isRound := ⟨tw_t4 154 (by decide +kernel) rfl, tw_t1 1 (by decide +kernel) rfl, ⟨fun h => (by cases h), fun _ => ⟨tw_t4 153 (by decide +kernel) rfl, tw_p2 15 (q := (⟨"CoachWaits", "isRound", "(J)Z"⟩, 16)) (by decide +kernel)⟩⟩, by decide +kernel⟩
theorem ct_W_183 : okCT 0 183 false 1 m_W_isRound := ⟨tw_t4 151 (by decide +kernel) rfl, cy_W_isRound⟩
theorem cy_W_tryRound : okCY false 1 m_W_tryRound := ⟨tw_t4 158 (by decide +kernel) rfl, tw_t1 1 (by decide +kernel) rfl, ⟨fun h => (by cases h), fun _ => ⟨tw_t4 157 (by decide +kernel) rfl, tw_p3 0 (q := (⟨"CoachWaits", "tryRound", "(I)V"⟩, 16)) (by decide +kernel)⟩⟩, by decide +kernel⟩
theorem ct_W_187 : okCT 0 187 false 1 m_W_tryRound := ⟨tw_t4 155 (by decide +kernel) rfl, cy_W_tryRound⟩
theorem cy_Go_causeOf : okCY false 1 m_Go_causeOf := ⟨tw_t4 198 (by decide +kernel) rfl, tw_t1 6 (by decide +kernel) rfl, ⟨fun h => (by cases h), fun _ => ⟨tw_t4 196 (by decide +kernel) rfl, tw_t4 197 (by decide +kernel) rfl⟩⟩, by decide +kernel⟩
theorem ct_W_190 : okCT 0 190 false 1 m_Go_causeOf := ⟨tw_t4 195 (by decide +kernel) rfl, cy_Go_causeOf⟩
theorem cy_Pa_push : okCY false 1 m_Pa_push := ⟨tw_t4 206 (by decide +kernel) rfl, tw_t1 10 (by decide +kernel) rfl, ⟨fun h => (by cases h), fun _ => ⟨tw_t4 204 (by decide +kernel) rfl, tw_t4 205 (by decide +kernel) rfl⟩⟩, by decide +kernel⟩
theorem ct_W_193 : okCT 0 193 false 1 m_Pa_push := ⟨tw_t4 203 (by decide +kernel) rfl, cy_Pa_push⟩
theorem cy_W_doDeed : okCY false 2 m_W_doDeed := ⟨tw_t4 214 (by decide +kernel) rfl, tw_t1 1 (by decide +kernel) rfl, ⟨fun h => (by cases h), fun _ => ⟨tw_t4 213 (by decide +kernel) rfl, tw_p3 4 (q := (⟨"CoachWaits", "doDeed", "(LCoachWaits$Stand;J)Z"⟩, 16)) (by decide +kernel)⟩⟩, by decide +kernel⟩
theorem ct_W_197 : okCT 0 197 false 2 m_W_doDeed := ⟨tw_t4 211 (by decide +kernel) rfl, cy_W_doDeed⟩
theorem cy_St_lateCount : okCY false 0 m_St_lateCount := ⟨tw_t4 226 (by decide +kernel) rfl, tw_t1 5 (by decide +kernel) rfl, ⟨fun h => (by cases h), fun _ => ⟨tw_t4 224 (by decide +kernel) rfl, tw_t4 225 (by decide +kernel) rfl⟩⟩, by decide +kernel⟩
theorem ct_W_201 : okCT 0 201 false 0 m_St_lateCount := ⟨tw_t4 223 (by decide +kernel) rfl, cy_St_lateCount⟩
theorem cy_Go_go : okCY false 2 m_Go_go := ⟨tw_t4 239 (by decide +kernel) rfl, tw_t1 6 (by decide +kernel) rfl, ⟨fun h => (by cases h), fun _ => ⟨tw_t4 237 (by decide +kernel) rfl, tw_t4 238 (by decide +kernel) rfl⟩⟩, by decide +kernel⟩
theorem ct_W_204 : okCT 0 204 false 2 m_Go_go := ⟨tw_t4 236 (by decide +kernel) rfl, cy_Go_go⟩
theorem cy_St_holdBy : okCY false 2 m_St_holdBy := ⟨tw_t4 222 (by decide +kernel) rfl, tw_t1 5 (by decide +kernel) rfl, ⟨fun h => (by cases h), fun _ => ⟨tw_t4 220 (by decide +kernel) rfl, tw_t4 221 (by decide +kernel) rfl⟩⟩, by decide +kernel⟩
theorem ct_W_208 : okCT 0 208 false 2 m_St_holdBy := ⟨tw_t4 219 (by decide +kernel) rfl, cy_St_holdBy⟩
theorem cy_Pa_size : okCY false 0 m_Pa_size := ⟨tw_t5 16 (by decide +kernel) rfl, tw_t1 10 (by decide +kernel) rfl, ⟨fun h => (by cases h), fun _ => ⟨tw_t5 14 (by decide +kernel) rfl, tw_t5 15 (by decide +kernel) rfl⟩⟩, by decide +kernel⟩
theorem ct_W_212 : okCT 0 212 false 0 m_Pa_size := ⟨tw_t5 13 (by decide +kernel) rfl, cy_Pa_size⟩
theorem cy_Pa_back : okCY false 2 m_Pa_back := ⟨tw_t5 20 (by decide +kernel) rfl, tw_t1 10 (by decide +kernel) rfl, ⟨fun h => (by cases h), fun _ => ⟨tw_t5 18 (by decide +kernel) rfl, tw_t5 19 (by decide +kernel) rfl⟩⟩, by decide +kernel⟩
theorem ct_W_213 : okCT 0 213 false 2 m_Pa_back := ⟨tw_t5 17 (by decide +kernel) rfl, cy_Pa_back⟩
theorem cy_W_trayAt : okCY false 1 m_W_trayAt := ⟨tw_t5 28 (by decide +kernel) rfl, tw_t1 1 (by decide +kernel) rfl, ⟨fun h => (by cases h), fun _ => ⟨tw_t5 27 (by decide +kernel) rfl, tw_p3 5 (q := (⟨"CoachWaits", "trayAt", "(I)LCoachWaits$Tray;"⟩, 16)) (by decide +kernel)⟩⟩, by decide +kernel⟩
theorem ct_W_217 : okCT 0 217 false 1 m_W_trayAt := ⟨tw_t5 25 (by decide +kernel) rfl, cy_W_trayAt⟩
theorem cy_Tr_isMissing : okCY false 0 m_Tr_isMissing := ⟨tw_t5 32 (by decide +kernel) rfl, tw_t1 11 (by decide +kernel) rfl, ⟨fun h => (by cases h), fun _ => ⟨tw_t5 30 (by decide +kernel) rfl, tw_t5 31 (by decide +kernel) rfl⟩⟩, by decide +kernel⟩
theorem ct_W_221 : okCT 0 221 false 0 m_Tr_isMissing := ⟨tw_t5 29 (by decide +kernel) rfl, cy_Tr_isMissing⟩
theorem cy_St_copy : okCY false 1 m_St_copy := ⟨tw_t4 162 (by decide +kernel) rfl, tw_t1 5 (by decide +kernel) rfl, ⟨fun h => (by cases h), fun _ => ⟨tw_t4 160 (by decide +kernel) rfl, tw_t4 161 (by decide +kernel) rfl⟩⟩, by decide +kernel⟩
theorem ct_W_225 : okCT 0 225 false 1 m_St_copy := ⟨tw_t4 159 (by decide +kernel) rfl, cy_St_copy⟩
theorem cy_W_doAll : okCY false 2 m_W_doAll := ⟨tw_t5 36 (by decide +kernel) rfl, tw_t1 1 (by decide +kernel) rfl, ⟨fun h => (by cases h), fun _ => ⟨tw_t5 35 (by decide +kernel) rfl, tw_p3 6 (q := (⟨"CoachWaits", "doAll", "(LCoachWaits$Stand;LCoachWaits$Tray;)I"⟩, 16)) (by decide +kernel)⟩⟩, by decide +kernel⟩
theorem ct_W_227 : okCT 0 227 false 2 m_W_doAll := ⟨tw_t5 33 (by decide +kernel) rfl, cy_W_doAll⟩
theorem cy_Tr_size : okCY false 0 m_Tr_size := ⟨tw_t5 40 (by decide +kernel) rfl, tw_t1 11 (by decide +kernel) rfl, ⟨fun h => (by cases h), fun _ => ⟨tw_t5 38 (by decide +kernel) rfl, tw_t5 39 (by decide +kernel) rfl⟩⟩, by decide +kernel⟩
theorem ct_W_231 : okCT 0 231 false 0 m_Tr_size := ⟨tw_t5 37 (by decide +kernel) rfl, cy_Tr_size⟩
theorem cy_St_lateSum : okCY false 0 m_St_lateSum := ⟨tw_t5 48 (by decide +kernel) rfl, tw_t1 5 (by decide +kernel) rfl, ⟨fun h => (by cases h), fun _ => ⟨tw_t5 46 (by decide +kernel) rfl, tw_t5 47 (by decide +kernel) rfl⟩⟩, by decide +kernel⟩
theorem ct_W_232 : okCT 0 232 false 0 m_St_lateSum := ⟨tw_t5 45 (by decide +kernel) rfl, cy_St_lateSum⟩
theorem cy_St_lateBits : okCY false 0 m_St_lateBits := ⟨tw_t4 230 (by decide +kernel) rfl, tw_t1 5 (by decide +kernel) rfl, ⟨fun h => (by cases h), fun _ => ⟨tw_t4 228 (by decide +kernel) rfl, tw_t4 229 (by decide +kernel) rfl⟩⟩, by decide +kernel⟩
theorem ct_W_235 : okCT 0 235 false 0 m_St_lateBits := ⟨tw_t5 49 (by decide +kernel) rfl, cy_St_lateBits⟩
theorem cy_W_doWeek : okCY false 2 m_W_doWeek := ⟨tw_t5 61 (by decide +kernel) rfl, tw_t1 1 (by decide +kernel) rfl, ⟨fun h => (by cases h), fun _ => ⟨tw_t5 60 (by decide +kernel) rfl, tw_p3 7 (q := (⟨"CoachWaits", "doWeek", "(II)I"⟩, 16)) (by decide +kernel)⟩⟩, by decide +kernel⟩
theorem ct_W_238 : okCT 0 238 false 2 m_W_doWeek := ⟨tw_t5 58 (by decide +kernel) rfl, cy_W_doWeek⟩
theorem cy_W_lateGoing : okCY false 2 m_W_lateGoing := ⟨tw_t5 76 (by decide +kernel) rfl, tw_t1 1 (by decide +kernel) rfl, ⟨fun h => (by cases h), fun _ => ⟨tw_t5 75 (by decide +kernel) rfl, tw_p3 8 (q := (⟨"CoachWaits", "lateGoing", "(II)I"⟩, 16)) (by decide +kernel)⟩⟩, by decide +kernel⟩
theorem ct_W_241 : okCT 0 241 false 2 m_W_lateGoing := ⟨tw_t5 73 (by decide +kernel) rfl, cy_W_lateGoing⟩
theorem cy_St_isCalm : okCY false 0 m_St_isCalm := ⟨tw_t5 88 (by decide +kernel) rfl, tw_t1 5 (by decide +kernel) rfl, ⟨fun h => (by cases h), fun _ => ⟨tw_t5 86 (by decide +kernel) rfl, tw_t5 87 (by decide +kernel) rfl⟩⟩, by decide +kernel⟩
theorem ct_W_250 : okCT 0 250 false 0 m_St_isCalm := ⟨tw_t5 85 (by decide +kernel) rfl, cy_St_isCalm⟩
theorem cy_Go_turn : okCY false 2 m_Go_turn := ⟨tw_t4 166 (by decide +kernel) rfl, tw_t1 6 (by decide +kernel) rfl, ⟨fun h => (by cases h), fun _ => ⟨tw_t4 164 (by decide +kernel) rfl, tw_t4 165 (by decide +kernel) rfl⟩⟩, by decide +kernel⟩
theorem ct_W_253 : okCT 0 253 false 2 m_Go_turn := ⟨tw_t4 163 (by decide +kernel) rfl, cy_Go_turn⟩
theorem cy_Rg_slowestWithout : okCY false 1 m_Rg_slowestWithout := ⟨tw_t5 96 (by decide +kernel) rfl, tw_t1 8 (by decide +kernel) rfl, ⟨fun h => (by cases h), fun _ => ⟨tw_t5 94 (by decide +kernel) rfl, tw_t5 95 (by decide +kernel) rfl⟩⟩, by decide +kernel⟩
theorem ct_W_257 : okCT 0 257 false 1 m_Rg_slowestWithout := ⟨tw_t5 93 (by decide +kernel) rfl, cy_Rg_slowestWithout⟩
theorem cy_Rg_timesOf : okCY false 1 m_Rg_timesOf := ⟨tw_t5 108 (by decide +kernel) rfl, tw_t1 8 (by decide +kernel) rfl, ⟨fun h => (by cases h), fun _ => ⟨tw_t5 106 (by decide +kernel) rfl, tw_t5 107 (by decide +kernel) rfl⟩⟩, by decide +kernel⟩
theorem ct_W_260 : okCT 0 260 false 1 m_Rg_timesOf := ⟨tw_t5 116 (by decide +kernel) rfl, cy_Rg_timesOf⟩
theorem cy_Rg_lagsOf : okCY false 1 m_Rg_lagsOf := ⟨tw_t5 114 (by decide +kernel) rfl, tw_t1 8 (by decide +kernel) rfl, ⟨fun h => (by cases h), fun _ => ⟨tw_t5 112 (by decide +kernel) rfl, tw_t5 113 (by decide +kernel) rfl⟩⟩, by decide +kernel⟩
theorem ct_W_263 : okCT 0 263 false 1 m_Rg_lagsOf := ⟨tw_t5 117 (by decide +kernel) rfl, cy_Rg_lagsOf⟩
theorem cy_W_lowest : okCY true 3 m_W_lowest := ⟨tw_t5 120 (by decide +kernel) rfl, tw_t1 1 (by decide +kernel) rfl, ⟨fun _ => tw_t5 119 (by decide +kernel) rfl, fun h => by cases h⟩, by decide +kernel⟩
theorem ct_W_266 : okCT 0 266 true 3 m_W_lowest := ⟨tw_t5 118 (by decide +kernel) rfl, cy_W_lowest⟩
theorem cy_Rg_slowCoaches : okCY false 0 m_Rg_slowCoaches := ⟨tw_t5 128 (by decide +kernel) rfl, tw_t1 8 (by decide +kernel) rfl, ⟨fun h => (by cases h), fun _ => ⟨tw_t5 126 (by decide +kernel) rfl, tw_t5 127 (by decide +kernel) rfl⟩⟩, by decide +kernel⟩
theorem ct_W_270 : okCT 0 270 false 0 m_Rg_slowCoaches := ⟨tw_t5 125 (by decide +kernel) rfl, cy_Rg_slowCoaches⟩
theorem cy_Rg_size : okCY false 0 m_Rg_size := ⟨tw_t5 141 (by decide +kernel) rfl, tw_t1 8 (by decide +kernel) rfl, ⟨fun h => (by cases h), fun _ => ⟨tw_t5 139 (by decide +kernel) rfl, tw_t5 140 (by decide +kernel) rfl⟩⟩, by decide +kernel⟩
theorem ct_W_273 : okCT 0 273 false 0 m_Rg_size := ⟨tw_t5 138 (by decide +kernel) rfl, cy_Rg_size⟩
theorem cy_Rg_leastPeriod : okCY false 0 m_Rg_leastPeriod := ⟨tw_t5 149 (by decide +kernel) rfl, tw_t1 8 (by decide +kernel) rfl, ⟨fun h => (by cases h), fun _ => ⟨tw_t5 147 (by decide +kernel) rfl, tw_t5 148 (by decide +kernel) rfl⟩⟩, by decide +kernel⟩
theorem ct_W_274 : okCT 0 274 false 0 m_Rg_leastPeriod := ⟨tw_t5 146 (by decide +kernel) rfl, cy_Rg_leastPeriod⟩
theorem cy_Rg_keepingHour : okCY false 2 m_Rg_keepingHour := ⟨tw_t5 158 (by decide +kernel) rfl, tw_t1 8 (by decide +kernel) rfl, ⟨fun h => (by cases h), fun _ => ⟨tw_t5 156 (by decide +kernel) rfl, tw_t5 157 (by decide +kernel) rfl⟩⟩, by decide +kernel⟩
theorem ct_W_277 : okCT 0 277 false 2 m_Rg_keepingHour := ⟨tw_t5 155 (by decide +kernel) rfl, cy_Rg_keepingHour⟩
theorem cy_Rg_isInRing : okCY false 1 m_Rg_isInRing := ⟨tw_t5 172 (by decide +kernel) rfl, tw_t1 8 (by decide +kernel) rfl, ⟨fun h => (by cases h), fun _ => ⟨tw_t5 170 (by decide +kernel) rfl, tw_t5 171 (by decide +kernel) rfl⟩⟩, by decide +kernel⟩
theorem ct_W_280 : okCT 0 280 false 1 m_Rg_isInRing := ⟨tw_t5 169 (by decide +kernel) rfl, cy_Rg_isInRing⟩
theorem cy_Rg_spaceOf : okCY false 1 m_Rg_spaceOf := ⟨tw_t5 176 (by decide +kernel) rfl, tw_t1 8 (by decide +kernel) rfl, ⟨fun h => (by cases h), fun _ => ⟨tw_t5 174 (by decide +kernel) rfl, tw_t5 175 (by decide +kernel) rfl⟩⟩, by decide +kernel⟩
theorem ct_W_283 : okCT 0 283 false 1 m_Rg_spaceOf := ⟨tw_t5 173 (by decide +kernel) rfl, cy_Rg_spaceOf⟩
theorem cy_Rg_bestOut : okCY false 0 m_Rg_bestOut := ⟨tw_t5 187 (by decide +kernel) rfl, tw_t1 8 (by decide +kernel) rfl, ⟨fun h => (by cases h), fun _ => ⟨tw_t5 185 (by decide +kernel) rfl, tw_t5 186 (by decide +kernel) rfl⟩⟩, by decide +kernel⟩
theorem ct_W_287 : okCT 0 287 false 0 m_Rg_bestOut := ⟨tw_t5 184 (by decide +kernel) rfl, cy_Rg_bestOut⟩
theorem cy_Rg_fewestOut : okCY false 1 m_Rg_fewestOut := ⟨tw_t5 195 (by decide +kernel) rfl, tw_t1 8 (by decide +kernel) rfl, ⟨fun h => (by cases h), fun _ => ⟨tw_t5 193 (by decide +kernel) rfl, tw_t5 194 (by decide +kernel) rfl⟩⟩, by decide +kernel⟩
theorem ct_W_290 : okCT 0 290 false 1 m_Rg_fewestOut := ⟨tw_t5 192 (by decide +kernel) rfl, cy_Rg_fewestOut⟩
theorem cy_Int_bitCount : okCY true 1 m_Int_bitCount := ⟨tw_t4 37 (by decide +kernel) rfl, tw_t1 21 (by decide +kernel) rfl, ⟨fun _ => tw_t4 36 (by decide +kernel) rfl, fun h => by cases h⟩, by decide +kernel⟩
theorem ct_W_293 : okCT 0 293 true 1 m_Int_bitCount := ⟨tw_t5 200 (by decide +kernel) rfl, cy_Int_bitCount⟩
theorem cy_W_planWithHeld : okCY false 2 m_W_planWithHeld := ⟨tw_t5 208 (by decide +kernel) rfl, tw_t1 1 (by decide +kernel) rfl, ⟨fun h => (by cases h), fun _ => ⟨tw_t5 207 (by decide +kernel) rfl, tw_p3 14 (q := (⟨"CoachWaits", "planWithHeld", "(II)V"⟩, 16)) (by decide +kernel)⟩⟩, by decide +kernel⟩
theorem ct_W_298 : okCT 0 298 false 2 m_W_planWithHeld := ⟨tw_t5 205 (by decide +kernel) rfl, cy_W_planWithHeld⟩
theorem cy_St_isQuiet : okCY false 0 m_St_isQuiet := ⟨tw_t5 212 (by decide +kernel) rfl, tw_t1 5 (by decide +kernel) rfl, ⟨fun h => (by cases h), fun _ => ⟨tw_t5 210 (by decide +kernel) rfl, tw_t5 211 (by decide +kernel) rfl⟩⟩, by decide +kernel⟩
theorem ct_W_301 : okCT 0 301 false 0 m_St_isQuiet := ⟨tw_t5 209 (by decide +kernel) rfl, cy_St_isQuiet⟩
theorem cy_W_harmsNobodyElse : okCY false 2 m_W_harmsNobodyElse := ⟨tw_t5 220 (by decide +kernel) rfl, tw_t1 1 (by decide +kernel) rfl, ⟨fun h => (by cases h), fun _ => ⟨tw_t5 219 (by decide +kernel) rfl, tw_p3 15 (q := (⟨"CoachWaits", "harmsNobodyElse", "(II)Z"⟩, 16)) (by decide +kernel)⟩⟩, by decide +kernel⟩
theorem ct_W_304 : okCT 0 304 false 2 m_W_harmsNobodyElse := ⟨tw_t5 217 (by decide +kernel) rfl, cy_W_harmsNobodyElse⟩
theorem cy_Br_fewest : okCY false 1 m_Br_fewest := ⟨tw_t5 228 (by decide +kernel) rfl, tw_t1 9 (by decide +kernel) rfl, ⟨fun h => (by cases h), fun _ => ⟨tw_t5 226 (by decide +kernel) rfl, tw_t5 227 (by decide +kernel) rfl⟩⟩, by decide +kernel⟩
theorem ct_W_308 : okCT 0 308 false 1 m_Br_fewest := ⟨tw_t5 225 (by decide +kernel) rfl, cy_Br_fewest⟩
theorem cy_Br_deedAt : okCY false 1 m_Br_deedAt := ⟨tw_t6 12 (by decide +kernel) rfl, tw_t1 9 (by decide +kernel) rfl, ⟨fun h => (by cases h), fun _ => ⟨tw_t6 10 (by decide +kernel) rfl, tw_t6 11 (by decide +kernel) rfl⟩⟩, by decide +kernel⟩
theorem ct_W_312 : okCT 0 312 false 1 m_Br_deedAt := ⟨tw_t6 9 (by decide +kernel) rfl, cy_Br_deedAt⟩
theorem cy_Br_rowsInTime : okCY false 3 m_Br_rowsInTime := ⟨tw_t6 20 (by decide +kernel) rfl, tw_t1 9 (by decide +kernel) rfl, ⟨fun h => (by cases h), fun _ => ⟨tw_t6 18 (by decide +kernel) rfl, tw_t6 19 (by decide +kernel) rfl⟩⟩, by decide +kernel⟩
theorem ct_W_315 : okCT 0 315 false 3 m_Br_rowsInTime := ⟨tw_t6 17 (by decide +kernel) rfl, cy_Br_rowsInTime⟩
theorem cy_W_refusalOfSeen : okCY false 2 m_W_refusalOfSeen := ⟨tw_t6 34 (by decide +kernel) rfl, tw_t1 1 (by decide +kernel) rfl, ⟨fun h => (by cases h), fun _ => ⟨tw_t6 33 (by decide +kernel) rfl, tw_p4 3 (q := (⟨"CoachWaits", "refusalOfSeen", "(LCoachWaits$Tray;I)I"⟩, 16)) (by decide +kernel)⟩⟩, by decide +kernel⟩
theorem ct_W_319 : okCT 0 319 false 2 m_W_refusalOfSeen := ⟨tw_t6 31 (by decide +kernel) rfl, cy_W_refusalOfSeen⟩
theorem cy_W_mudsSeen : okCY false 2 m_W_mudsSeen := ⟨tw_t6 38 (by decide +kernel) rfl, tw_t1 1 (by decide +kernel) rfl, ⟨fun h => (by cases h), fun _ => ⟨tw_t6 37 (by decide +kernel) rfl, tw_p4 4 (q := (⟨"CoachWaits", "mudsSeen", "(LCoachWaits$Tray;I)I"⟩, 16)) (by decide +kernel)⟩⟩, by decide +kernel⟩
theorem ct_W_323 : okCT 0 323 false 2 m_W_mudsSeen := ⟨tw_t6 35 (by decide +kernel) rfl, cy_W_mudsSeen⟩
theorem cy_W_bestToLookAt : okCY false 1 m_W_bestToLookAt := ⟨tw_t6 50 (by decide +kernel) rfl, tw_t1 1 (by decide +kernel) rfl, ⟨fun h => (by cases h), fun _ => ⟨tw_t6 49 (by decide +kernel) rfl, tw_p4 6 (q := (⟨"CoachWaits", "bestToLookAt", "(I)I"⟩, 16)) (by decide +kernel)⟩⟩, by decide +kernel⟩
theorem ct_W_326 : okCT 0 326 false 1 m_W_bestToLookAt := ⟨tw_t6 47 (by decide +kernel) rfl, cy_W_bestToLookAt⟩
theorem cy_Br_lotsDrawn : okCY false 4 m_Br_lotsDrawn := ⟨tw_t6 63 (by decide +kernel) rfl, tw_t1 9 (by decide +kernel) rfl, ⟨fun h => (by cases h), fun _ => ⟨tw_t6 61 (by decide +kernel) rfl, tw_t6 62 (by decide +kernel) rfl⟩⟩, by decide +kernel⟩
theorem ct_W_329 : okCT 0 329 false 4 m_Br_lotsDrawn := ⟨tw_t6 60 (by decide +kernel) rfl, cy_Br_lotsDrawn⟩
theorem cy_W_lotsOf : okCY true 1 m_W_lotsOf := ⟨tw_t6 72 (by decide +kernel) rfl, tw_t1 1 (by decide +kernel) rfl, ⟨fun _ => tw_t6 71 (by decide +kernel) rfl, fun h => by cases h⟩, by decide +kernel⟩
theorem ct_W_333 : okCT 0 333 true 1 m_W_lotsOf := ⟨tw_t6 70 (by decide +kernel) rfl, cy_W_lotsOf⟩
theorem cy_Tr_renew : okCY false 2 m_Tr_renew := ⟨tw_t6 87 (by decide +kernel) rfl, tw_t1 11 (by decide +kernel) rfl, ⟨fun h => (by cases h), fun _ => ⟨tw_t6 85 (by decide +kernel) rfl, tw_t6 86 (by decide +kernel) rfl⟩⟩, by decide +kernel⟩
theorem ct_W_341 : okCT 0 341 false 2 m_Tr_renew := ⟨tw_t6 84 (by decide +kernel) rfl, cy_Tr_renew⟩
theorem cy_Tr_put : okCY false 2 m_Tr_put := ⟨tw_t6 100 (by decide +kernel) rfl, tw_t1 11 (by decide +kernel) rfl, ⟨fun h => (by cases h), fun _ => ⟨tw_t6 98 (by decide +kernel) rfl, tw_t6 99 (by decide +kernel) rfl⟩⟩, by decide +kernel⟩
theorem ct_W_348 : okCT 0 348 false 2 m_Tr_put := ⟨tw_t6 97 (by decide +kernel) rfl, cy_Tr_put⟩
theorem cy_Tr_at : okCY false 1 m_Tr_at := ⟨tw_t5 44 (by decide +kernel) rfl, tw_t1 11 (by decide +kernel) rfl, ⟨fun h => (by cases h), fun _ => ⟨tw_t5 42 (by decide +kernel) rfl, tw_t5 43 (by decide +kernel) rfl⟩⟩, by decide +kernel⟩
theorem ct_W_351 : okCT 0 351 false 1 m_Tr_at := ⟨tw_t5 41 (by decide +kernel) rfl, cy_Tr_at⟩
theorem cy_Pa_forget : okCY false 0 m_Pa_forget := ⟨tw_t4 8 (by decide +kernel) rfl, tw_t1 10 (by decide +kernel) rfl, ⟨fun h => (by cases h), fun _ => ⟨tw_t4 6 (by decide +kernel) rfl, tw_t4 7 (by decide +kernel) rfl⟩⟩, by decide +kernel⟩
theorem ct_W_360 : okCT 0 360 false 0 m_Pa_forget := ⟨tw_t4 5 (by decide +kernel) rfl, cy_Pa_forget⟩
theorem cy_Go_forget : okCY false 0 m_Go_forget := ⟨tw_t4 12 (by decide +kernel) rfl, tw_t1 6 (by decide +kernel) rfl, ⟨fun h => (by cases h), fun _ => ⟨tw_t4 10 (by decide +kernel) rfl, tw_t4 11 (by decide +kernel) rfl⟩⟩, by decide +kernel⟩
theorem ct_W_363 : okCT 0 363 false 0 m_Go_forget := ⟨tw_t4 9 (by decide +kernel) rfl, cy_Go_forget⟩
theorem cy_Rg_find : okCY false 0 m_Rg_find := ⟨tw_t4 21 (by decide +kernel) rfl, tw_t1 8 (by decide +kernel) rfl, ⟨fun h => (by cases h), fun _ => ⟨tw_t4 19 (by decide +kernel) rfl, tw_t4 20 (by decide +kernel) rfl⟩⟩, by decide +kernel⟩
theorem ct_W_364 : okCT 0 364 false 0 m_Rg_find := ⟨tw_t4 18 (by decide +kernel) rfl, cy_Rg_find⟩
theorem cy_W_drawn : okCY true 1 m_W_drawn := ⟨tw_t5 64 (by decide +kernel) rfl, tw_t1 1 (by decide +kernel) rfl, ⟨fun _ => tw_t5 63 (by decide +kernel) rfl, fun h => by cases h⟩, by decide +kernel⟩
theorem ct_W_375 : okCT 0 375 true 1 m_W_drawn := ⟨tw_t5 62 (by decide +kernel) rfl, cy_W_drawn⟩
theorem cy_W_weekDeed : okCY true 2 m_W_weekDeed := ⟨tw_t5 68 (by decide +kernel) rfl, tw_t1 1 (by decide +kernel) rfl, ⟨fun _ => tw_t5 67 (by decide +kernel) rfl, fun h => by cases h⟩, by decide +kernel⟩
theorem ct_W_378 : okCT 0 378 true 2 m_W_weekDeed := ⟨tw_t5 66 (by decide +kernel) rfl, cy_W_weekDeed⟩
theorem cy_W_isSeenBy : okCY false 3 m_W_isSeenBy := ⟨tw_t6 42 (by decide +kernel) rfl, tw_t1 1 (by decide +kernel) rfl, ⟨fun h => (by cases h), fun _ => ⟨tw_t6 41 (by decide +kernel) rfl, tw_p4 5 (q := (⟨"CoachWaits", "isSeenBy", "(ILCoachWaits$Tray;I)Z"⟩, 16)) (by decide +kernel)⟩⟩, by decide +kernel⟩
theorem ct_W_382 : okCT 0 382 false 3 m_W_isSeenBy := ⟨tw_t6 39 (by decide +kernel) rfl, cy_W_isSeenBy⟩
theorem cy_W_mostAlike : okCY false 2 m_W_mostAlike := ⟨tw_t6 54 (by decide +kernel) rfl, tw_t1 1 (by decide +kernel) rfl, ⟨fun h => (by cases h), fun _ => ⟨tw_t6 53 (by decide +kernel) rfl, tw_p4 7 (q := (⟨"CoachWaits", "mostAlike", "(II)I"⟩, 16)) (by decide +kernel)⟩⟩, by decide +kernel⟩
theorem ct_W_386 : okCT 0 386 false 2 m_W_mostAlike := ⟨tw_t6 51 (by decide +kernel) rfl, cy_W_mostAlike⟩
theorem cy_Math_max_II : okCY true 2 m_Math_max_II := ⟨tw_t2 178 (by decide +kernel) rfl, tw_t1 13 (by decide +kernel) rfl, ⟨fun _ => tw_t2 177 (by decide +kernel) rfl, fun h => by cases h⟩, by decide +kernel⟩
theorem ct_W_389 : okCT 0 389 true 2 m_Math_max_II := ⟨tw_t6 55 (by decide +kernel) rfl, cy_Math_max_II⟩
theorem ct_Br_30 : okCT 8 30 false 1 m_St_copy := ⟨tw_t5 229 (by decide +kernel) rfl, cy_St_copy⟩
theorem cy_Br_isReached : okCY false 2 m_Br_isReached := ⟨tw_t5 233 (by decide +kernel) rfl, tw_t1 9 (by decide +kernel) rfl, ⟨fun h => (by cases h), fun _ => ⟨tw_t5 232 (by decide +kernel) rfl, tw_p4 0 (q := (⟨"CoachWaits$Branches", "isReached", "(II)Z"⟩, 4)) (by decide +kernel)⟩⟩, by decide +kernel⟩
theorem ct_Br_34 : okCT 8 34 false 2 m_Br_isReached := ⟨tw_t5 230 (by decide +kernel) rfl, cy_Br_isReached⟩
theorem cy_Br_rowsFrom : okCY false 3 m_Br_rowsFrom := ⟨tw_t6 24 (by decide +kernel) rfl, tw_t1 9 (by decide +kernel) rfl, ⟨fun h => (by cases h), fun _ => ⟨tw_t6 23 (by decide +kernel) rfl, tw_p4 2 (q := (⟨"CoachWaits$Branches", "rowsFrom", "(III)I"⟩, 4)) (by decide +kernel)⟩⟩, by decide +kernel⟩
theorem ct_Br_38 : okCT 8 38 false 3 m_Br_rowsFrom := ⟨tw_t6 21 (by decide +kernel) rfl, cy_Br_rowsFrom⟩
theorem cy_Br_lotsFrom : okCY false 4 m_Br_lotsFrom := ⟨tw_t6 67 (by decide +kernel) rfl, tw_t1 9 (by decide +kernel) rfl, ⟨fun h => (by cases h), fun _ => ⟨tw_t6 66 (by decide +kernel) rfl, tw_p4 8 (q := (⟨"CoachWaits$Branches", "lotsFrom", "(IIII)J"⟩, 4)) (by decide +kernel)⟩⟩, by decide +kernel⟩
theorem ct_Br_42 : okCT 8 42 false 4 m_Br_lotsFrom := ⟨tw_t6 64 (by decide +kernel) rfl, cy_Br_lotsFrom⟩
theorem ct_Br_46 : okCT 8 46 false 2 m_Go_turn := ⟨tw_t6 0 (by decide +kernel) rfl, cy_Go_turn⟩
theorem cy_Go_causeBits : okCY false 0 m_Go_causeBits := ⟨tw_t6 4 (by decide +kernel) rfl, tw_t1 6 (by decide +kernel) rfl, ⟨fun h => (by cases h), fun _ => ⟨tw_t6 2 (by decide +kernel) rfl, tw_t6 3 (by decide +kernel) rfl⟩⟩, by decide +kernel⟩
theorem ct_Br_52 : okCT 8 52 false 0 m_Go_causeBits := ⟨tw_t6 1 (by decide +kernel) rfl, cy_Go_causeBits⟩
theorem ct_Br_56 : okCT 8 56 false 0 m_St_isCalm := ⟨tw_t5 234 (by decide +kernel) rfl, cy_St_isCalm⟩
theorem ct_Br_60 : okCT 8 60 false 0 m_St_isQuiet := ⟨tw_t5 235 (by decide +kernel) rfl, cy_St_isQuiet⟩
theorem cy_Br_stepOn : okCY false 2 m_Br_stepOn := ⟨tw_t5 239 (by decide +kernel) rfl, tw_t1 9 (by decide +kernel) rfl, ⟨fun h => (by cases h), fun _ => ⟨tw_t5 238 (by decide +kernel) rfl, tw_p4 1 (q := (⟨"CoachWaits$Branches", "stepOn", "(II)I"⟩, 4)) (by decide +kernel)⟩⟩, by decide +kernel⟩
theorem ct_Br_63 : okCT 8 63 false 2 m_Br_stepOn := ⟨tw_t5 236 (by decide +kernel) rfl, cy_Br_stepOn⟩
theorem ct_Br_73 : okCT 8 73 false 1 m_St_lastOf := ⟨tw_t6 25 (by decide +kernel) rfl, cy_St_lastOf⟩
theorem ct_Br_77 : okCT 8 77 true 1 m_Int_bitCount := ⟨tw_t6 26 (by decide +kernel) rfl, cy_Int_bitCount⟩
theorem ct_Br_85 : okCT 8 85 false 1 m_St_heldOf := ⟨tw_t6 68 (by decide +kernel) rfl, cy_St_heldOf⟩
theorem ct_Br_88 : okCT 8 88 false 2 m_St_holdBy := ⟨tw_t6 69 (by decide +kernel) rfl, cy_St_holdBy⟩
theorem cy_Arr_fill_aII : okCY true 2 m_Arr_fill_aII := ⟨tw_t4 0 (by decide +kernel) rfl, tw_t1 20 (by decide +kernel) rfl, ⟨fun _ => tw_t3 239 (by decide +kernel) rfl, fun h => by cases h⟩, by decide +kernel⟩
theorem ct_Go_45 : okCT 5 45 true 2 m_Arr_fill_aII := ⟨tw_t4 13 (by decide +kernel) rfl, cy_Arr_fill_aII⟩
theorem ct_Go_59 : okCT 5 59 false 1 m_Road_toOf := ⟨tw_t4 14 (by decide +kernel) rfl, cy_Road_toOf⟩
theorem cy_Go_reckon : okCY false 1 m_Go_reckon := ⟨tw_t4 98 (by decide +kernel) rfl, tw_t1 6 (by decide +kernel) rfl, ⟨fun h => (by cases h), fun _ => ⟨tw_t4 96 (by decide +kernel) rfl, tw_t4 97 (by decide +kernel) rfl⟩⟩, by decide +kernel⟩
theorem ct_Go_63 : okCT 5 63 false 1 m_Go_reckon := ⟨tw_t4 95 (by decide +kernel) rfl, cy_Go_reckon⟩
theorem cy_Go_timeReckoned : okCY false 1 m_Go_timeReckoned := ⟨tw_t4 146 (by decide +kernel) rfl, tw_t1 6 (by decide +kernel) rfl, ⟨fun h => (by cases h), fun _ => ⟨tw_t4 144 (by decide +kernel) rfl, tw_t4 145 (by decide +kernel) rfl⟩⟩, by decide +kernel⟩
theorem ct_Go_67 : okCT 5 67 false 1 m_Go_timeReckoned := ⟨tw_t4 143 (by decide +kernel) rfl, cy_Go_timeReckoned⟩
theorem cy_Road_takesOf : okCY false 1 m_Road_takesOf := ⟨tw_t4 102 (by decide +kernel) rfl, tw_t1 3 (by decide +kernel) rfl, ⟨fun h => (by cases h), fun _ => ⟨tw_t4 100 (by decide +kernel) rfl, tw_t4 101 (by decide +kernel) rfl⟩⟩, by decide +kernel⟩
theorem ct_Go_70 : okCT 5 70 false 1 m_Road_takesOf := ⟨tw_t4 99 (by decide +kernel) rfl, cy_Road_takesOf⟩
theorem cy_Road_hasTakesLaw : okCY false 0 m_Road_hasTakesLaw := ⟨tw_t4 106 (by decide +kernel) rfl, tw_t1 3 (by decide +kernel) rfl, ⟨fun h => (by cases h), fun _ => ⟨tw_t4 104 (by decide +kernel) rfl, tw_t4 105 (by decide +kernel) rfl⟩⟩, by decide +kernel⟩
theorem ct_Go_73 : okCT 5 73 false 0 m_Road_hasTakesLaw := ⟨tw_t4 103 (by decide +kernel) rfl, cy_Road_hasTakesLaw⟩
theorem cy_Law_setNames : okCY false 4 m_Law_setNames := ⟨tw_t4 110 (by decide +kernel) rfl, tw_t1 7 (by decide +kernel) rfl, ⟨fun h => (by cases h), fun _ => ⟨tw_t4 108 (by decide +kernel) rfl, tw_t4 109 (by decide +kernel) rfl⟩⟩, by decide +kernel⟩
theorem ct_Go_77 : okCT 5 77 false 4 m_Law_setNames := ⟨tw_t4 107 (by decide +kernel) rfl, cy_Law_setNames⟩
theorem cy_Law_tell : okCY false 3 m_Law_tell := ⟨tw_t4 117 (by decide +kernel) rfl, tw_t1 7 (by decide +kernel) rfl, ⟨fun h => (by cases h), fun _ => ⟨tw_t4 115 (by decide +kernel) rfl, tw_t4 116 (by decide +kernel) rfl⟩⟩, by decide +kernel⟩
theorem ct_Go_87 : okCT 5 87 false 3 m_Law_tell := ⟨tw_t4 114 (by decide +kernel) rfl, cy_Law_tell⟩
theorem cy_Math_min_II : okCY true 2 m_Math_min_II := ⟨tw_t2 175 (by decide +kernel) rfl, tw_t1 13 (by decide +kernel) rfl, ⟨fun _ => tw_t2 174 (by decide +kernel) rfl, fun h => by cases h⟩, by decide +kernel⟩
theorem ct_Go_91 : okCT 5 91 true 2 m_Math_min_II := ⟨tw_t4 138 (by decide +kernel) rfl, cy_Math_min_II⟩
theorem ct_Go_97 : okCT 5 97 true 2 m_Math_max_II := ⟨tw_t4 139 (by decide +kernel) rfl, cy_Math_max_II⟩
theorem ct_Go_100 : okCT 5 100 false 1 m_Road_fromOf := ⟨tw_t4 140 (by decide +kernel) rfl, cy_Road_fromOf⟩
theorem ct_Go_103 : okCT 5 103 false 1 m_Road_hourOf := ⟨tw_t4 141 (by decide +kernel) rfl, cy_Road_hourOf⟩
theorem ct_Go_106 : okCT 5 106 false 1 m_Road_lagOf := ⟨tw_t4 142 (by decide +kernel) rfl, cy_Road_lagOf⟩
theorem ct_Go_112 : okCT 5 112 false 2 m_Go_turn := ⟨tw_t5 0 (by decide +kernel) rfl, cy_Go_turn⟩
theorem cy_Go_lateFor : okCY false 2 m_Go_lateFor := ⟨tw_t4 170 (by decide +kernel) rfl, tw_t1 6 (by decide +kernel) rfl, ⟨fun h => (by cases h), fun _ => ⟨tw_t4 169 (by decide +kernel) rfl, tw_p3 1 (q := (⟨"CoachWaits$Going", "lateFor", "(ILCoachWaits$Stand;)I"⟩, 9)) (by decide +kernel)⟩⟩, by decide +kernel⟩
theorem ct_Go_124 : okCT 5 124 false 2 m_Go_lateFor := ⟨tw_t4 167 (by decide +kernel) rfl, cy_Go_lateFor⟩
theorem cy_Go_isKept : okCY false 3 m_Go_isKept := ⟨tw_t4 180 (by decide +kernel) rfl, tw_t1 6 (by decide +kernel) rfl, ⟨fun h => (by cases h), fun _ => ⟨tw_t4 179 (by decide +kernel) rfl, tw_p3 3 (q := (⟨"CoachWaits$Going", "isKept", "(III)Z"⟩, 9)) (by decide +kernel)⟩⟩, by decide +kernel⟩
theorem ct_Go_128 : okCT 5 128 false 3 m_Go_isKept := ⟨tw_t4 177 (by decide +kernel) rfl, cy_Go_isKept⟩
theorem ct_Go_133 : okCT 5 133 false 1 m_St_heldOf := ⟨tw_t4 186 (by decide +kernel) rfl, cy_St_heldOf⟩
theorem cy_St_passTo : okCY false 1 m_St_passTo := ⟨tw_t4 190 (by decide +kernel) rfl, tw_t1 5 (by decide +kernel) rfl, ⟨fun h => (by cases h), fun _ => ⟨tw_t4 188 (by decide +kernel) rfl, tw_t4 189 (by decide +kernel) rfl⟩⟩, by decide +kernel⟩
theorem ct_Go_136 : okCT 5 136 false 1 m_St_passTo := ⟨tw_t4 187 (by decide +kernel) rfl, cy_St_passTo⟩
theorem cy_Go_freshOf : okCY false 1 m_Go_freshOf := ⟨tw_t4 174 (by decide +kernel) rfl, tw_t1 6 (by decide +kernel) rfl, ⟨fun h => (by cases h), fun _ => ⟨tw_t4 173 (by decide +kernel) rfl, tw_p3 2 (q := (⟨"CoachWaits$Going", "freshOf", "(I)I"⟩, 9)) (by decide +kernel)⟩⟩, by decide +kernel⟩
theorem ct_Go_140 : okCT 5 140 false 1 m_Go_freshOf := ⟨tw_t4 171 (by decide +kernel) rfl, cy_Go_freshOf⟩
theorem ct_Go_143 : okCT 5 143 false 1 m_St_lastOf := ⟨tw_t4 175 (by decide +kernel) rfl, cy_St_lastOf⟩
theorem ct_Go_146 : okCT 5 146 false 1 m_St_earlierOf := ⟨tw_t4 176 (by decide +kernel) rfl, cy_St_earlierOf⟩
theorem cy_Road_hasWaitsLaw : okCY false 0 m_Road_hasWaitsLaw := ⟨tw_t4 184 (by decide +kernel) rfl, tw_t1 3 (by decide +kernel) rfl, ⟨fun h => (by cases h), fun _ => ⟨tw_t4 182 (by decide +kernel) rfl, tw_t4 183 (by decide +kernel) rfl⟩⟩, by decide +kernel⟩
theorem ct_Go_149 : okCT 5 149 false 0 m_Road_hasWaitsLaw := ⟨tw_t4 181 (by decide +kernel) rfl, cy_Road_hasWaitsLaw⟩
theorem ct_Law_18 : okCT 6 18 false 1 m_Road_fromOf := ⟨tw_t4 111 (by decide +kernel) rfl, cy_Road_fromOf⟩
theorem ct_Law_24 : okCT 6 24 false 1 m_Road_toOf := ⟨tw_t4 112 (by decide +kernel) rfl, cy_Road_toOf⟩
theorem ct_Law_27 : okCT 6 27 false 1 m_Road_patienceOf := ⟨tw_t4 113 (by decide +kernel) rfl, cy_Road_patienceOf⟩
theorem cy_Road_stepAt : okCY false 1 m_Road_stepAt := ⟨tw_t4 121 (by decide +kernel) rfl, tw_t1 3 (by decide +kernel) rfl, ⟨fun h => (by cases h), fun _ => ⟨tw_t4 119 (by decide +kernel) rfl, tw_t4 120 (by decide +kernel) rfl⟩⟩, by decide +kernel⟩
theorem ct_Law_34 : okCT 6 34 false 1 m_Road_stepAt := ⟨tw_t4 118 (by decide +kernel) rfl, cy_Road_stepAt⟩
theorem cy_Law_push : okCY false 1 m_Law_push := ⟨tw_t4 125 (by decide +kernel) rfl, tw_t1 7 (by decide +kernel) rfl, ⟨fun h => (by cases h), fun _ => ⟨tw_t4 124 (by decide +kernel) rfl, tw_p2 13 (q := (⟨"CoachWaits$Law", "push", "(I)V"⟩, 3)) (by decide +kernel)⟩⟩, by decide +kernel⟩
theorem ct_Law_37 : okCT 6 37 false 1 m_Law_push := ⟨tw_t4 122 (by decide +kernel) rfl, cy_Law_push⟩
theorem cy_Law_pop : okCY false 0 m_Law_pop := ⟨tw_t4 129 (by decide +kernel) rfl, tw_t1 7 (by decide +kernel) rfl, ⟨fun h => (by cases h), fun _ => ⟨tw_t4 128 (by decide +kernel) rfl, tw_p2 14 (q := (⟨"CoachWaits$Law", "pop", "()I"⟩, 3)) (by decide +kernel)⟩⟩, by decide +kernel⟩
theorem ct_Law_41 : okCT 6 41 false 0 m_Law_pop := ⟨tw_t4 126 (by decide +kernel) rfl, cy_Law_pop⟩
theorem ct_Law_45 : okCT 6 45 true 2 m_Math_max_II := ⟨tw_t4 130 (by decide +kernel) rfl, cy_Math_max_II⟩
theorem cy_Law_ofTwo : okCY true 3 m_Law_ofTwo := ⟨tw_t4 133 (by decide +kernel) rfl, tw_t1 7 (by decide +kernel) rfl, ⟨fun _ => tw_t4 132 (by decide +kernel) rfl, fun h => by cases h⟩, by decide +kernel⟩
theorem ct_Law_51 : okCT 6 51 true 3 m_Law_ofTwo := ⟨tw_t4 131 (by decide +kernel) rfl, cy_Law_ofTwo⟩
theorem cy_Math_floorMod : okCY true 2 m_Math_floorMod := ⟨tw_t4 209 (by decide +kernel) rfl, tw_t1 13 (by decide +kernel) rfl, ⟨fun _ => tw_t4 208 (by decide +kernel) rfl, fun h => by cases h⟩, by decide +kernel⟩
theorem ct_Pa_25 : okCT 9 25 true 2 m_Math_floorMod := ⟨tw_t4 207 (by decide +kernel) rfl, cy_Math_floorMod⟩
theorem ct_Pa_31 : okCT 9 31 false 1 m_St_copy := ⟨tw_t4 210 (by decide +kernel) rfl, cy_St_copy⟩
theorem cy_Road_clear : okCY false 0 m_Road_clear := ⟨tw_t2 168 (by decide +kernel) rfl, tw_t1 3 (by decide +kernel) rfl, ⟨fun h => (by cases h), fun _ => ⟨tw_t2 166 (by decide +kernel) rfl, tw_t2 167 (by decide +kernel) rfl⟩⟩, by decide +kernel⟩
theorem ct_Rd_26 : okCT 3 26 false 0 m_Road_clear := ⟨tw_t2 165 (by decide +kernel) rfl, cy_Road_clear⟩
theorem cy_Tok_open : okCY false 1 m_Tok_open := ⟨tw_t2 172 (by decide +kernel) rfl, tw_t1 2 (by decide +kernel) rfl, ⟨fun h => (by cases h), fun _ => ⟨tw_t2 170 (by decide +kernel) rfl, tw_t2 171 (by decide +kernel) rfl⟩⟩, by decide +kernel⟩
theorem ct_Rd_31 : okCT 3 31 false 1 m_Tok_open := ⟨tw_t2 169 (by decide +kernel) rfl, cy_Tok_open⟩
theorem cy_Rd_firstLine : okCY false 0 m_Rd_firstLine := ⟨tw_t3 39 (by decide +kernel) rfl, tw_t1 4 (by decide +kernel) rfl, ⟨fun h => (by cases h), fun _ => ⟨tw_t3 38 (by decide +kernel) rfl, tw_p1 1 (q := (⟨"CoachWaits$Reader", "firstLine", "()V"⟩, 5)) (by decide +kernel)⟩⟩, by decide +kernel⟩
theorem ct_Rd_37 : okCT 3 37 false 0 m_Rd_firstLine := ⟨tw_t3 36 (by decide +kernel) rfl, cy_Rd_firstLine⟩
theorem cy_Rd_isSound : okCY false 0 m_Rd_isSound := ⟨tw_t3 48 (by decide +kernel) rfl, tw_t1 4 (by decide +kernel) rfl, ⟨fun h => (by cases h), fun _ => ⟨tw_t3 47 (by decide +kernel) rfl, tw_p1 3 (q := (⟨"CoachWaits$Reader", "isSound", "()Z"⟩, 5)) (by decide +kernel)⟩⟩, by decide +kernel⟩
theorem ct_Rd_40 : okCT 3 40 false 0 m_Rd_isSound := ⟨tw_t3 45 (by decide +kernel) rfl, cy_Rd_isSound⟩
theorem cy_Tok_isEnd : okCY false 0 m_Tok_isEnd := ⟨tw_t3 116 (by decide +kernel) rfl, tw_t1 2 (by decide +kernel) rfl, ⟨fun h => (by cases h), fun _ => ⟨tw_t3 114 (by decide +kernel) rfl, tw_t3 115 (by decide +kernel) rfl⟩⟩, by decide +kernel⟩
theorem ct_Rd_44 : okCT 3 44 false 0 m_Tok_isEnd := ⟨tw_t3 113 (by decide +kernel) rfl, cy_Tok_isEnd⟩
theorem cy_Rd_line : okCY false 0 m_Rd_line := ⟨tw_t3 120 (by decide +kernel) rfl, tw_t1 4 (by decide +kernel) rfl, ⟨fun h => (by cases h), fun _ => ⟨tw_t3 119 (by decide +kernel) rfl, tw_p1 8 (q := (⟨"CoachWaits$Reader", "line", "()V"⟩, 5)) (by decide +kernel)⟩⟩, by decide +kernel⟩
theorem ct_Rd_47 : okCT 3 47 false 0 m_Rd_line := ⟨tw_t3 117 (by decide +kernel) rfl, cy_Rd_line⟩
theorem cy_Rd_endLine : okCY false 0 m_Rd_endLine := ⟨tw_t3 104 (by decide +kernel) rfl, tw_t1 4 (by decide +kernel) rfl, ⟨fun h => (by cases h), fun _ => ⟨tw_t3 103 (by decide +kernel) rfl, tw_p1 6 (q := (⟨"CoachWaits$Reader", "endLine", "()V"⟩, 5)) (by decide +kernel)⟩⟩, by decide +kernel⟩
theorem ct_Rd_50 : okCT 3 50 false 0 m_Rd_endLine := ⟨tw_t3 101 (by decide +kernel) rfl, cy_Rd_endLine⟩
theorem cy_Tok_isBad : okCY false 0 m_Tok_isBad := ⟨tw_t3 82 (by decide +kernel) rfl, tw_t1 2 (by decide +kernel) rfl, ⟨fun h => (by cases h), fun _ => ⟨tw_t3 80 (by decide +kernel) rfl, tw_t3 81 (by decide +kernel) rfl⟩⟩, by decide +kernel⟩
theorem ct_Rd_53 : okCT 3 53 false 0 m_Tok_isBad := ⟨tw_t3 79 (by decide +kernel) rfl, cy_Tok_isBad⟩
theorem cy_Tok_startPlace : okCY false 0 m_Tok_startPlace := ⟨tw_t3 86 (by decide +kernel) rfl, tw_t1 2 (by decide +kernel) rfl, ⟨fun h => (by cases h), fun _ => ⟨tw_t3 84 (by decide +kernel) rfl, tw_t3 85 (by decide +kernel) rfl⟩⟩, by decide +kernel⟩
theorem ct_Rd_56 : okCT 3 56 false 0 m_Tok_startPlace := ⟨tw_t3 83 (by decide +kernel) rfl, cy_Tok_startPlace⟩
theorem cy_Tok_isWord : okCY false 1 m_Tok_isWord := ⟨tw_t3 52 (by decide +kernel) rfl, tw_t1 2 (by decide +kernel) rfl, ⟨fun h => (by cases h), fun _ => ⟨tw_t3 50 (by decide +kernel) rfl, tw_t3 51 (by decide +kernel) rfl⟩⟩, by decide +kernel⟩
theorem ct_Rd_60 : okCT 3 60 false 1 m_Tok_isWord := ⟨tw_t3 49 (by decide +kernel) rfl, cy_Tok_isWord⟩
theorem cy_Tok_step : okCY false 0 m_Tok_step := ⟨tw_t2 182 (by decide +kernel) rfl, tw_t1 2 (by decide +kernel) rfl, ⟨fun h => (by cases h), fun _ => ⟨tw_t2 180 (by decide +kernel) rfl, tw_t2 181 (by decide +kernel) rfl⟩⟩, by decide +kernel⟩
theorem ct_Rd_64 : okCT 3 64 false 0 m_Tok_step := ⟨tw_t3 74 (by decide +kernel) rfl, cy_Tok_step⟩
theorem cy_Rd_refuse : okCY false 1 m_Rd_refuse := ⟨tw_t3 78 (by decide +kernel) rfl, tw_t1 4 (by decide +kernel) rfl, ⟨fun h => (by cases h), fun _ => ⟨tw_t3 77 (by decide +kernel) rfl, tw_p1 4 (q := (⟨"CoachWaits$Reader", "refuse", "(I)V"⟩, 5)) (by decide +kernel)⟩⟩, by decide +kernel⟩
theorem ct_Rd_67 : okCT 3 67 false 1 m_Rd_refuse := ⟨tw_t3 75 (by decide +kernel) rfl, cy_Rd_refuse⟩
theorem cy_Tok_isSign : okCY false 1 m_Tok_isSign := ⟨tw_t3 112 (by decide +kernel) rfl, tw_t1 2 (by decide +kernel) rfl, ⟨fun h => (by cases h), fun _ => ⟨tw_t3 110 (by decide +kernel) rfl, tw_t3 111 (by decide +kernel) rfl⟩⟩, by decide +kernel⟩
theorem ct_Rd_70 : okCT 3 70 false 1 m_Tok_isSign := ⟨tw_t3 109 (by decide +kernel) rfl, cy_Tok_isSign⟩
theorem cy_Tok_isNumber : okCY false 0 m_Tok_isNumber := ⟨tw_t3 95 (by decide +kernel) rfl, tw_t1 2 (by decide +kernel) rfl, ⟨fun h => (by cases h), fun _ => ⟨tw_t3 93 (by decide +kernel) rfl, tw_t3 94 (by decide +kernel) rfl⟩⟩, by decide +kernel⟩
theorem ct_Rd_74 : okCT 3 74 false 0 m_Tok_isNumber := ⟨tw_t3 92 (by decide +kernel) rfl, cy_Tok_isNumber⟩
theorem cy_Tok_numberValue : okCY false 0 m_Tok_numberValue := ⟨tw_t3 99 (by decide +kernel) rfl, tw_t1 2 (by decide +kernel) rfl, ⟨fun h => (by cases h), fun _ => ⟨tw_t3 97 (by decide +kernel) rfl, tw_t3 98 (by decide +kernel) rfl⟩⟩, by decide +kernel⟩
theorem ct_Rd_77 : okCT 3 77 false 0 m_Tok_numberValue := ⟨tw_t3 96 (by decide +kernel) rfl, cy_Tok_numberValue⟩
theorem cy_Rd_takeSign : okCY false 1 m_Rd_takeSign := ⟨tw_t3 108 (by decide +kernel) rfl, tw_t1 4 (by decide +kernel) rfl, ⟨fun h => (by cases h), fun _ => ⟨tw_t3 107 (by decide +kernel) rfl, tw_p1 7 (q := (⟨"CoachWaits$Reader", "takeSign", "(C)V"⟩, 5)) (by decide +kernel)⟩⟩, by decide +kernel⟩
theorem ct_Rd_80 : okCT 3 80 false 1 m_Rd_takeSign := ⟨tw_t3 105 (by decide +kernel) rfl, cy_Rd_takeSign⟩
theorem cy_Rd_takeWord : okCY false 1 m_Rd_takeWord := ⟨tw_t3 44 (by decide +kernel) rfl, tw_t1 4 (by decide +kernel) rfl, ⟨fun h => (by cases h), fun _ => ⟨tw_t3 43 (by decide +kernel) rfl, tw_p1 2 (q := (⟨"CoachWaits$Reader", "takeWord", "(Ljava/lang/String;)V"⟩, 5)) (by decide +kernel)⟩⟩, by decide +kernel⟩
theorem ct_Rd_89 : okCT 3 89 false 1 m_Rd_takeWord := ⟨tw_t3 41 (by decide +kernel) rfl, cy_Rd_takeWord⟩
theorem cy_Rd_takeNumber : okCY false 2 m_Rd_takeNumber := ⟨tw_t3 91 (by decide +kernel) rfl, tw_t1 4 (by decide +kernel) rfl, ⟨fun h => (by cases h), fun _ => ⟨tw_t3 90 (by decide +kernel) rfl, tw_p1 5 (q := (⟨"CoachWaits$Reader", "takeNumber", "(II)I"⟩, 5)) (by decide +kernel)⟩⟩, by decide +kernel⟩
theorem ct_Rd_95 : okCT 3 95 false 2 m_Rd_takeNumber := ⟨tw_t3 88 (by decide +kernel) rfl, cy_Rd_takeNumber⟩
theorem cy_Rd_coachLine : okCY false 0 m_Rd_coachLine := ⟨tw_t3 125 (by decide +kernel) rfl, tw_t1 4 (by decide +kernel) rfl, ⟨fun h => (by cases h), fun _ => ⟨tw_t3 124 (by decide +kernel) rfl, tw_p1 9 (q := (⟨"CoachWaits$Reader", "coachLine", "()V"⟩, 5)) (by decide +kernel)⟩⟩, by decide +kernel⟩
theorem ct_Rd_108 : okCT 3 108 false 0 m_Rd_coachLine := ⟨tw_t3 122 (by decide +kernel) rfl, cy_Rd_coachLine⟩
theorem cy_Rd_waitLine : okCY false 0 m_Rd_waitLine := ⟨tw_t3 136 (by decide +kernel) rfl, tw_t1 4 (by decide +kernel) rfl, ⟨fun h => (by cases h), fun _ => ⟨tw_t3 135 (by decide +kernel) rfl, tw_p1 10 (q := (⟨"CoachWaits$Reader", "waitLine", "()V"⟩, 5)) (by decide +kernel)⟩⟩, by decide +kernel⟩
theorem ct_Rd_113 : okCT 3 113 false 0 m_Rd_waitLine := ⟨tw_t3 133 (by decide +kernel) rfl, cy_Rd_waitLine⟩
theorem cy_Rd_takesLine : okCY false 0 m_Rd_takesLine := ⟨tw_t3 146 (by decide +kernel) rfl, tw_t1 4 (by decide +kernel) rfl, ⟨fun h => (by cases h), fun _ => ⟨tw_t3 145 (by decide +kernel) rfl, tw_p1 11 (q := (⟨"CoachWaits$Reader", "takesLine", "()V"⟩, 5)) (by decide +kernel)⟩⟩, by decide +kernel⟩
theorem ct_Rd_118 : okCT 3 118 false 0 m_Rd_takesLine := ⟨tw_t3 143 (by decide +kernel) rfl, cy_Rd_takesLine⟩
theorem cy_Rd_waitsLine : okCY false 0 m_Rd_waitsLine := ⟨tw_t3 218 (by decide +kernel) rfl, tw_t1 4 (by decide +kernel) rfl, ⟨fun h => (by cases h), fun _ => ⟨tw_t3 217 (by decide +kernel) rfl, tw_p2 8 (q := (⟨"CoachWaits$Reader", "waitsLine", "()V"⟩, 5)) (by decide +kernel)⟩⟩, by decide +kernel⟩
theorem ct_Rd_123 : okCT 3 123 false 0 m_Rd_waitsLine := ⟨tw_t3 215 (by decide +kernel) rfl, cy_Rd_waitsLine⟩
theorem cy_Road_addCoach : okCY false 2 m_Road_addCoach := ⟨tw_t3 131 (by decide +kernel) rfl, tw_t1 3 (by decide +kernel) rfl, ⟨fun h => (by cases h), fun _ => ⟨tw_t3 129 (by decide +kernel) rfl, tw_t3 130 (by decide +kernel) rfl⟩⟩, by decide +kernel⟩
theorem ct_Rd_133 : okCT 3 133 false 2 m_Road_addCoach := ⟨tw_t3 128 (by decide +kernel) rfl, cy_Road_addCoach⟩
theorem cy_Road_addWait : okCY false 4 m_Road_addWait := ⟨tw_t3 142 (by decide +kernel) rfl, tw_t1 3 (by decide +kernel) rfl, ⟨fun h => (by cases h), fun _ => ⟨tw_t3 140 (by decide +kernel) rfl, tw_t3 141 (by decide +kernel) rfl⟩⟩, by decide +kernel⟩
theorem ct_Rd_141 : okCT 3 141 false 4 m_Road_addWait := ⟨tw_t3 139 (by decide +kernel) rfl, cy_Road_addWait⟩
theorem cy_Rd_sum : okCY false 1 m_Rd_sum := ⟨tw_t3 150 (by decide +kernel) rfl, tw_t1 4 (by decide +kernel) rfl, ⟨fun h => (by cases h), fun _ => ⟨tw_t3 149 (by decide +kernel) rfl, tw_p1 12 (q := (⟨"CoachWaits$Reader", "sum", "(I)V"⟩, 5)) (by decide +kernel)⟩⟩, by decide +kernel⟩
theorem ct_Rd_155 : okCT 3 155 false 1 m_Rd_sum := ⟨tw_t3 147 (by decide +kernel) rfl, cy_Rd_sum⟩
theorem cy_Rd_truth : okCY false 1 m_Rd_truth := ⟨tw_t3 175 (by decide +kernel) rfl, tw_t1 4 (by decide +kernel) rfl, ⟨fun h => (by cases h), fun _ => ⟨tw_t3 174 (by decide +kernel) rfl, tw_p2 1 (q := (⟨"CoachWaits$Reader", "truth", "(I)V"⟩, 5)) (by decide +kernel)⟩⟩, by decide +kernel⟩
theorem ct_Rd_164 : okCT 3 164 false 1 m_Rd_truth := ⟨tw_t3 172 (by decide +kernel) rfl, cy_Rd_truth⟩
theorem cy_Rd_both : okCY false 1 m_Rd_both := ⟨tw_t3 179 (by decide +kernel) rfl, tw_t1 4 (by decide +kernel) rfl, ⟨fun h => (by cases h), fun _ => ⟨tw_t3 178 (by decide +kernel) rfl, tw_p2 2 (q := (⟨"CoachWaits$Reader", "both", "(I)V"⟩, 5)) (by decide +kernel)⟩⟩, by decide +kernel⟩
theorem ct_Rd_170 : okCT 3 170 false 1 m_Rd_both := ⟨tw_t3 176 (by decide +kernel) rfl, cy_Rd_both⟩
theorem cy_Road_emit : okCY false 2 m_Road_emit := ⟨tw_t3 162 (by decide +kernel) rfl, tw_t1 3 (by decide +kernel) rfl, ⟨fun h => (by cases h), fun _ => ⟨tw_t3 160 (by decide +kernel) rfl, tw_t3 161 (by decide +kernel) rfl⟩⟩, by decide +kernel⟩
theorem ct_Rd_177 : okCT 3 177 false 2 m_Road_emit := ⟨tw_t3 159 (by decide +kernel) rfl, cy_Road_emit⟩
theorem cy_Rd_unit : okCY false 1 m_Rd_unit := ⟨tw_t3 183 (by decide +kernel) rfl, tw_t1 4 (by decide +kernel) rfl, ⟨fun h => (by cases h), fun _ => ⟨tw_t3 182 (by decide +kernel) rfl, tw_p2 3 (q := (⟨"CoachWaits$Reader", "unit", "(I)V"⟩, 5)) (by decide +kernel)⟩⟩, by decide +kernel⟩
theorem ct_Rd_180 : okCT 3 180 false 1 m_Rd_unit := ⟨tw_t3 180 (by decide +kernel) rfl, cy_Rd_unit⟩
theorem cy_Rd_opens : okCY false 1 m_Rd_opens := ⟨tw_t3 166 (by decide +kernel) rfl, tw_t1 4 (by decide +kernel) rfl, ⟨fun h => (by cases h), fun _ => ⟨tw_t3 165 (by decide +kernel) rfl, tw_p1 15 (q := (⟨"CoachWaits$Reader", "opens", "(I)Z"⟩, 5)) (by decide +kernel)⟩⟩, by decide +kernel⟩
theorem ct_Rd_187 : okCT 3 187 false 1 m_Rd_opens := ⟨tw_t3 163 (by decide +kernel) rfl, cy_Rd_opens⟩
theorem cy_Rd_comparison : okCY false 1 m_Rd_comparison := ⟨tw_t3 188 (by decide +kernel) rfl, tw_t1 4 (by decide +kernel) rfl, ⟨fun h => (by cases h), fun _ => ⟨tw_t3 187 (by decide +kernel) rfl, tw_p2 4 (q := (⟨"CoachWaits$Reader", "comparison", "(I)V"⟩, 5)) (by decide +kernel)⟩⟩, by decide +kernel⟩
theorem ct_Rd_191 : okCT 3 191 false 1 m_Rd_comparison := ⟨tw_t3 185 (by decide +kernel) rfl, cy_Rd_comparison⟩
theorem cy_Rd_term : okCY false 1 m_Rd_term := ⟨tw_t3 154 (by decide +kernel) rfl, tw_t1 4 (by decide +kernel) rfl, ⟨fun h => (by cases h), fun _ => ⟨tw_t3 153 (by decide +kernel) rfl, tw_p1 13 (q := (⟨"CoachWaits$Reader", "term", "(I)V"⟩, 5)) (by decide +kernel)⟩⟩, by decide +kernel⟩
theorem ct_Rd_194 : okCT 3 194 false 1 m_Rd_term := ⟨tw_t3 151 (by decide +kernel) rfl, cy_Rd_term⟩
theorem cy_Rd_isPlusOrMinus : okCY false 0 m_Rd_isPlusOrMinus := ⟨tw_t3 213 (by decide +kernel) rfl, tw_t1 4 (by decide +kernel) rfl, ⟨fun h => (by cases h), fun _ => ⟨tw_t3 212 (by decide +kernel) rfl, tw_p2 7 (q := (⟨"CoachWaits$Reader", "isPlusOrMinus", "()Z"⟩, 5)) (by decide +kernel)⟩⟩, by decide +kernel⟩
theorem ct_Rd_197 : okCT 3 197 false 0 m_Rd_isPlusOrMinus := ⟨tw_t3 210 (by decide +kernel) rfl, cy_Rd_isPlusOrMinus⟩
theorem cy_Rd_atom : okCY false 1 m_Rd_atom := ⟨tw_t3 158 (by decide +kernel) rfl, tw_t1 4 (by decide +kernel) rfl, ⟨fun h => (by cases h), fun _ => ⟨tw_t3 157 (by decide +kernel) rfl, tw_p1 14 (q := (⟨"CoachWaits$Reader", "atom", "(I)V"⟩, 5)) (by decide +kernel)⟩⟩, by decide +kernel⟩
theorem ct_Rd_200 : okCT 3 200 false 1 m_Rd_atom := ⟨tw_t3 155 (by decide +kernel) rfl, cy_Rd_atom⟩
theorem cy_Rd_choice : okCY false 1 m_Rd_choice := ⟨tw_t3 171 (by decide +kernel) rfl, tw_t1 4 (by decide +kernel) rfl, ⟨fun h => (by cases h), fun _ => ⟨tw_t3 170 (by decide +kernel) rfl, tw_p2 0 (q := (⟨"CoachWaits$Reader", "choice", "(I)V"⟩, 5)) (by decide +kernel)⟩⟩, by decide +kernel⟩
theorem ct_Rd_205 : okCT 3 205 false 1 m_Rd_choice := ⟨tw_t3 168 (by decide +kernel) rfl, cy_Rd_choice⟩
theorem cy_Rd_nameSlot : okCY false 0 m_Rd_nameSlot := ⟨tw_t3 201 (by decide +kernel) rfl, tw_t1 4 (by decide +kernel) rfl, ⟨fun h => (by cases h), fun _ => ⟨tw_t3 200 (by decide +kernel) rfl, tw_p2 5 (q := (⟨"CoachWaits$Reader", "nameSlot", "()I"⟩, 5)) (by decide +kernel)⟩⟩, by decide +kernel⟩
theorem ct_Rd_208 : okCT 3 208 false 0 m_Rd_nameSlot := ⟨tw_t3 198 (by decide +kernel) rfl, cy_Rd_nameSlot⟩
theorem cy_Rd_takeName : okCY false 1 m_Rd_takeName := ⟨tw_t3 209 (by decide +kernel) rfl, tw_t1 4 (by decide +kernel) rfl, ⟨fun h => (by cases h), fun _ => ⟨tw_t3 208 (by decide +kernel) rfl, tw_p2 6 (q := (⟨"CoachWaits$Reader", "takeName", "(I)V"⟩, 5)) (by decide +kernel)⟩⟩, by decide +kernel⟩
theorem ct_Rd_211 : okCT 3 211 false 1 m_Rd_takeName := ⟨tw_t3 206 (by decide +kernel) rfl, cy_Rd_takeName⟩
theorem cy_Road_aimHere : okCY false 1 m_Road_aimHere := ⟨tw_t3 196 (by decide +kernel) rfl, tw_t1 3 (by decide +kernel) rfl, ⟨fun h => (by cases h), fun _ => ⟨tw_t3 194 (by decide +kernel) rfl, tw_t3 195 (by decide +kernel) rfl⟩⟩, by decide +kernel⟩
theorem ct_Rd_218 : okCT 3 218 false 1 m_Road_aimHere := ⟨tw_t3 193 (by decide +kernel) rfl, cy_Road_aimHere⟩
theorem cy_Rg_follow : okCY false 4 m_Rg_follow := ⟨tw_t4 25 (by decide +kernel) rfl, tw_t1 8 (by decide +kernel) rfl, ⟨fun h => (by cases h), fun _ => ⟨tw_t4 24 (by decide +kernel) rfl, tw_p2 10 (q := (⟨"CoachWaits$Rings", "follow", "(IIII)V"⟩, 7)) (by decide +kernel)⟩⟩, by decide +kernel⟩
theorem ct_Rg_42 : okCT 7 42 false 4 m_Rg_follow := ⟨tw_t4 22 (by decide +kernel) rfl, cy_Rg_follow⟩
theorem ct_Rg_49 : okCT 7 49 false 1 m_Road_fromOf := ⟨tw_t4 26 (by decide +kernel) rfl, cy_Road_fromOf⟩
theorem ct_Rg_53 : okCT 7 53 false 1 m_Road_toOf := ⟨tw_t4 30 (by decide +kernel) rfl, cy_Road_toOf⟩
theorem cy_Rg_add : okCY false 1 m_Rg_add := ⟨tw_t4 34 (by decide +kernel) rfl, tw_t1 8 (by decide +kernel) rfl, ⟨fun h => (by cases h), fun _ => ⟨tw_t4 33 (by decide +kernel) rfl, tw_p2 11 (q := (⟨"CoachWaits$Rings", "add", "(I)V"⟩, 7)) (by decide +kernel)⟩⟩, by decide +kernel⟩
theorem ct_Rg_56 : okCT 7 56 false 1 m_Rg_add := ⟨tw_t4 31 (by decide +kernel) rfl, cy_Rg_add⟩
theorem ct_Rg_60 : okCT 7 60 true 1 m_Int_bitCount := ⟨tw_t4 35 (by decide +kernel) rfl, cy_Int_bitCount⟩
theorem cy_Rg_ringAt : okCY false 1 m_Rg_ringAt := ⟨tw_t5 100 (by decide +kernel) rfl, tw_t1 8 (by decide +kernel) rfl, ⟨fun h => (by cases h), fun _ => ⟨tw_t5 99 (by decide +kernel) rfl, tw_p3 9 (q := (⟨"CoachWaits$Rings", "ringAt", "(I)I"⟩, 7)) (by decide +kernel)⟩⟩, by decide +kernel⟩
theorem ct_Rg_65 : okCT 7 65 false 1 m_Rg_ringAt := ⟨tw_t5 97 (by decide +kernel) rfl, cy_Rg_ringAt⟩
theorem ct_Rg_73 : okCT 7 73 false 1 m_Go_reckon := ⟨tw_t5 109 (by decide +kernel) rfl, cy_Go_reckon⟩
theorem ct_Rg_78 : okCT 7 78 false 1 m_Go_timeReckoned := ⟨tw_t5 110 (by decide +kernel) rfl, cy_Go_timeReckoned⟩
theorem ct_Rg_81 : okCT 7 81 false 1 m_Road_lagOf := ⟨tw_t5 115 (by decide +kernel) rfl, cy_Road_lagOf⟩
theorem ct_Rg_84 : okCT 7 84 false 1 m_Rg_timesOf := ⟨tw_t5 105 (by decide +kernel) rfl, cy_Rg_timesOf⟩
theorem ct_Rg_87 : okCT 7 87 false 1 m_Rg_lagsOf := ⟨tw_t5 111 (by decide +kernel) rfl, cy_Rg_lagsOf⟩
theorem cy_Rg_isBelow : okCY false 2 m_Rg_isBelow := ⟨tw_t5 104 (by decide +kernel) rfl, tw_t1 8 (by decide +kernel) rfl, ⟨fun h => (by cases h), fun _ => ⟨tw_t5 103 (by decide +kernel) rfl, tw_p3 10 (q := (⟨"CoachWaits$Rings", "isBelow", "(II)Z"⟩, 7)) (by decide +kernel)⟩⟩, by decide +kernel⟩
theorem ct_Rg_90 : okCT 7 90 false 2 m_Rg_isBelow := ⟨tw_t5 101 (by decide +kernel) rfl, cy_Rg_isBelow⟩
theorem ct_Rg_94 : okCT 7 94 false 1 m_Rg_slowestWithout := ⟨tw_t5 129 (by decide +kernel) rfl, cy_Rg_slowestWithout⟩
theorem cy_Rg_coachesOf : okCY false 1 m_Rg_coachesOf := ⟨tw_t5 133 (by decide +kernel) rfl, tw_t1 8 (by decide +kernel) rfl, ⟨fun h => (by cases h), fun _ => ⟨tw_t5 132 (by decide +kernel) rfl, tw_p3 11 (q := (⟨"CoachWaits$Rings", "coachesOf", "(I)I"⟩, 7)) (by decide +kernel)⟩⟩, by decide +kernel⟩
theorem ct_Rg_97 : okCT 7 97 false 1 m_Rg_coachesOf := ⟨tw_t5 130 (by decide +kernel) rfl, cy_Rg_coachesOf⟩
theorem ct_Rg_100 : okCT 7 100 true 2 m_Math_max_II := ⟨tw_t5 150 (by decide +kernel) rfl, cy_Math_max_II⟩
theorem ct_Rg_106 : okCT 7 106 true 2 m_Arr_fill_aII := ⟨tw_t5 159 (by decide +kernel) rfl, cy_Arr_fill_aII⟩
theorem cy_Rg_putOff : okCY false 1 m_Rg_putOff := ⟨tw_t5 163 (by decide +kernel) rfl, tw_t1 8 (by decide +kernel) rfl, ⟨fun h => (by cases h), fun _ => ⟨tw_t5 162 (by decide +kernel) rfl, tw_p3 12 (q := (⟨"CoachWaits$Rings", "putOff", "(I)Z"⟩, 7)) (by decide +kernel)⟩⟩, by decide +kernel⟩
theorem ct_Rg_112 : okCT 7 112 false 1 m_Rg_putOff := ⟨tw_t5 160 (by decide +kernel) rfl, cy_Rg_putOff⟩
theorem ct_Rg_116 : okCT 7 116 false 2 m_Go_timeOf := ⟨tw_t5 164 (by decide +kernel) rfl, cy_Go_timeOf⟩
theorem ct_Rg_123 : okCT 7 123 true 2 m_Math_min_II := ⟨tw_t5 178 (by decide +kernel) rfl, cy_Math_min_II⟩
theorem cy_Rg_breaksAll : okCY false 2 m_Rg_breaksAll := ⟨tw_t5 199 (by decide +kernel) rfl, tw_t1 8 (by decide +kernel) rfl, ⟨fun h => (by cases h), fun _ => ⟨tw_t5 198 (by decide +kernel) rfl, tw_p3 13 (q := (⟨"CoachWaits$Rings", "breaksAll", "(II)Z"⟩, 7)) (by decide +kernel)⟩⟩, by decide +kernel⟩
theorem ct_Rg_126 : okCT 7 126 false 2 m_Rg_breaksAll := ⟨tw_t5 196 (by decide +kernel) rfl, cy_Rg_breaksAll⟩
theorem ct_St_21 : okCT 4 21 true 2 m_Arr_fill_aII := ⟨tw_t3 238 (by decide +kernel) rfl, cy_Arr_fill_aII⟩
theorem ct_St_34 : okCT 4 34 false 0 m_St_lateBits := ⟨tw_t4 227 (by decide +kernel) rfl, cy_St_lateBits⟩
theorem ct_St_38 : okCT 4 38 true 1 m_Int_bitCount := ⟨tw_t4 231 (by decide +kernel) rfl, cy_Int_bitCount⟩
theorem ct_Tok_19 : okCT 1 19 true 2 m_Math_min_II := ⟨tw_t2 173 (by decide +kernel) rfl, cy_Math_min_II⟩
theorem ct_Tok_25 : okCT 1 25 true 2 m_Math_max_II := ⟨tw_t2 176 (by decide +kernel) rfl, cy_Math_max_II⟩
theorem ct_Tok_34 : okCT 1 34 false 0 m_Tok_step := ⟨tw_t2 179 (by decide +kernel) rfl, cy_Tok_step⟩
theorem cy_Tok_at : okCY false 1 m_Tok_at := ⟨tw_t2 186 (by decide +kernel) rfl, tw_t1 2 (by decide +kernel) rfl, ⟨fun h => (by cases h), fun _ => ⟨tw_t2 185 (by decide +kernel) rfl, tw_p1 0 (q := (⟨"CoachWaits$Tokens", "at", "(I)I"⟩, 7)) (by decide +kernel)⟩⟩, by decide +kernel⟩
theorem ct_Tok_37 : okCT 1 37 false 1 m_Tok_at := ⟨tw_t2 183 (by decide +kernel) rfl, cy_Tok_at⟩
theorem cy_Tok_isLetter : okCY true 1 m_Tok_isLetter := ⟨tw_t2 189 (by decide +kernel) rfl, tw_t1 2 (by decide +kernel) rfl, ⟨fun _ => tw_t2 188 (by decide +kernel) rfl, fun h => by cases h⟩, by decide +kernel⟩
theorem ct_Tok_47 : okCT 1 47 true 1 m_Tok_isLetter := ⟨tw_t2 187 (by decide +kernel) rfl, cy_Tok_isLetter⟩
theorem cy_Tok_isDigit : okCY true 1 m_Tok_isDigit := ⟨tw_t2 192 (by decide +kernel) rfl, tw_t1 2 (by decide +kernel) rfl, ⟨fun _ => tw_t2 191 (by decide +kernel) rfl, fun h => by cases h⟩, by decide +kernel⟩
theorem ct_Tok_51 : okCT 1 51 true 1 m_Tok_isDigit := ⟨tw_t2 190 (by decide +kernel) rfl, cy_Tok_isDigit⟩
theorem cy_Str_indexOf_I : okCY false 1 m_Str_indexOf_I := ⟨tw_t2 197 (by decide +kernel) rfl, tw_t1 14 (by decide +kernel) rfl, ⟨fun h => (by cases h), fun _ => ⟨tw_t2 195 (by decide +kernel) rfl, tw_t2 196 (by decide +kernel) rfl⟩⟩, by decide +kernel⟩
theorem ct_Tok_59 : okCT 1 59 false 1 m_Str_indexOf_I := ⟨tw_t2 194 (by decide +kernel) rfl, cy_Str_indexOf_I⟩
theorem cy_Str_length : okCY false 0 m_Str_length := ⟨tw_t2 211 (by decide +kernel) rfl, tw_t1 14 (by decide +kernel) rfl, ⟨fun h => (by cases h), fun _ => ⟨tw_t2 209 (by decide +kernel) rfl, tw_t2 210 (by decide +kernel) rfl⟩⟩, by decide +kernel⟩
theorem ct_Tok_64 : okCT 1 64 false 0 m_Str_length := ⟨tw_t3 53 (by decide +kernel) rfl, cy_Str_length⟩
theorem cy_Str_charAt : okCY false 1 m_Str_charAt := ⟨tw_t3 57 (by decide +kernel) rfl, tw_t1 14 (by decide +kernel) rfl, ⟨fun h => (by cases h), fun _ => ⟨tw_t3 55 (by decide +kernel) rfl, tw_t3 56 (by decide +kernel) rfl⟩⟩, by decide +kernel⟩
theorem ct_Tok_68 : okCT 1 68 false 1 m_Str_charAt := ⟨tw_t3 54 (by decide +kernel) rfl, cy_Str_charAt⟩
theorem cy_Arr_fill_aJJ : okCY true 2 m_Arr_fill_aJJ := ⟨tw_t6 90 (by decide +kernel) rfl, tw_t1 20 (by decide +kernel) rfl, ⟨fun _ => tw_t6 89 (by decide +kernel) rfl, fun h => by cases h⟩, by decide +kernel⟩
theorem ct_Tr_19 : okCT 10 19 true 2 m_Arr_fill_aJJ := ⟨tw_t6 88 (by decide +kernel) rfl, cy_Arr_fill_aJJ⟩
theorem cy_Tr_cut : okCY false 1 m_Tr_cut := ⟨tw_t6 104 (by decide +kernel) rfl, tw_t1 11 (by decide +kernel) rfl, ⟨fun h => (by cases h), fun _ => ⟨tw_t6 103 (by decide +kernel) rfl, tw_p4 9 (q := (⟨"CoachWaits$Tray", "cut", "(J)J"⟩, 3)) (by decide +kernel)⟩⟩, by decide +kernel⟩
theorem ct_Tr_28 : okCT 10 28 false 1 m_Tr_cut := ⟨tw_t6 101 (by decide +kernel) rfl, cy_Tr_cut⟩
theorem cy_W_feed : okCY false 5 m_W_feed := ⟨tw_t2 144 (by decide +kernel) rfl, tw_t1 1 (by decide +kernel) rfl, ⟨fun h => (by cases h), fun _ => ⟨tw_t2 142 (by decide +kernel) rfl, tw_t2 143 (by decide +kernel) rfl⟩⟩, by decide +kernel⟩
theorem ct_Lw_13 : okCT 12 13 false 5 m_W_feed := ⟨tw_t2 141 (by decide +kernel) rfl, cy_W_feed⟩
theorem cy_M_feed : okCY false 5 m_M_feed := ⟨tw_t7 14 (by decide +kernel) rfl, tw_t1 12 (by decide +kernel) rfl, ⟨fun h => (by cases h), fun _ => ⟨tw_t7 12 (by decide +kernel) rfl, tw_t7 13 (by decide +kernel) rfl⟩⟩, by decide +kernel⟩
theorem ct_Lw_17 : okCT 12 17 false 5 m_M_feed := ⟨tw_t7 11 (by decide +kernel) rfl, cy_M_feed⟩
theorem cy_W_road : okCY false 1 m_W_road := ⟨tw_t2 160 (by decide +kernel) rfl, tw_t1 1 (by decide +kernel) rfl, ⟨fun h => (by cases h), fun _ => ⟨tw_t2 158 (by decide +kernel) rfl, tw_t2 159 (by decide +kernel) rfl⟩⟩, by decide +kernel⟩
theorem ct_Lw_18 : okCT 12 18 false 1 m_W_road := ⟨tw_t2 157 (by decide +kernel) rfl, cy_W_road⟩
theorem cy_M_road : okCY false 1 m_M_road := ⟨tw_t7 18 (by decide +kernel) rfl, tw_t1 12 (by decide +kernel) rfl, ⟨fun h => (by cases h), fun _ => ⟨tw_t7 16 (by decide +kernel) rfl, tw_t7 17 (by decide +kernel) rfl⟩⟩, by decide +kernel⟩
theorem ct_Lw_22 : okCT 12 22 false 1 m_M_road := ⟨tw_t7 15 (by decide +kernel) rfl, cy_M_road⟩
theorem cy_W_fault : okCY false 1 m_W_fault := ⟨tw_t4 44 (by decide +kernel) rfl, tw_t1 1 (by decide +kernel) rfl, ⟨fun h => (by cases h), fun _ => ⟨tw_t4 42 (by decide +kernel) rfl, tw_t4 43 (by decide +kernel) rfl⟩⟩, by decide +kernel⟩
theorem ct_Lw_23 : okCT 12 23 false 1 m_W_fault := ⟨tw_t4 41 (by decide +kernel) rfl, cy_W_fault⟩
theorem cy_M_fault : okCY false 1 m_M_fault := ⟨tw_t7 127 (by decide +kernel) rfl, tw_t1 12 (by decide +kernel) rfl, ⟨fun h => (by cases h), fun _ => ⟨tw_t7 125 (by decide +kernel) rfl, tw_t7 126 (by decide +kernel) rfl⟩⟩, by decide +kernel⟩
theorem ct_Lw_26 : okCT 12 26 false 1 m_M_fault := ⟨tw_t7 124 (by decide +kernel) rfl, cy_M_fault⟩
theorem cy_W_coach : okCY false 2 m_W_coach := ⟨tw_t4 52 (by decide +kernel) rfl, tw_t1 1 (by decide +kernel) rfl, ⟨fun h => (by cases h), fun _ => ⟨tw_t4 50 (by decide +kernel) rfl, tw_t4 51 (by decide +kernel) rfl⟩⟩, by decide +kernel⟩
theorem ct_Lw_27 : okCT 12 27 false 2 m_W_coach := ⟨tw_t4 49 (by decide +kernel) rfl, cy_W_coach⟩
theorem cy_M_coach : okCY false 2 m_M_coach := ⟨tw_t7 131 (by decide +kernel) rfl, tw_t1 12 (by decide +kernel) rfl, ⟨fun h => (by cases h), fun _ => ⟨tw_t7 129 (by decide +kernel) rfl, tw_t7 130 (by decide +kernel) rfl⟩⟩, by decide +kernel⟩
theorem ct_Lw_31 : okCT 12 31 false 2 m_M_coach := ⟨tw_t7 128 (by decide +kernel) rfl, cy_M_coach⟩
theorem cy_W_waiting : okCY false 2 m_W_waiting := ⟨tw_t4 80 (by decide +kernel) rfl, tw_t1 1 (by decide +kernel) rfl, ⟨fun h => (by cases h), fun _ => ⟨tw_t4 78 (by decide +kernel) rfl, tw_t4 79 (by decide +kernel) rfl⟩⟩, by decide +kernel⟩
theorem ct_Lw_32 : okCT 12 32 false 2 m_W_waiting := ⟨tw_t4 77 (by decide +kernel) rfl, cy_W_waiting⟩
theorem cy_M_waiting : okCY false 2 m_M_waiting := ⟨tw_t7 139 (by decide +kernel) rfl, tw_t1 12 (by decide +kernel) rfl, ⟨fun h => (by cases h), fun _ => ⟨tw_t7 137 (by decide +kernel) rfl, tw_t7 138 (by decide +kernel) rfl⟩⟩, by decide +kernel⟩
theorem ct_Lw_35 : okCT 12 35 false 2 m_M_waiting := ⟨tw_t7 136 (by decide +kernel) rfl, cy_M_waiting⟩
theorem cy_W_by : okCY false 2 m_W_by := ⟨tw_t4 150 (by decide +kernel) rfl, tw_t1 1 (by decide +kernel) rfl, ⟨fun h => (by cases h), fun _ => ⟨tw_t4 148 (by decide +kernel) rfl, tw_t4 149 (by decide +kernel) rfl⟩⟩, by decide +kernel⟩
theorem ct_Lw_36 : okCT 12 36 false 2 m_W_by := ⟨tw_t4 147 (by decide +kernel) rfl, cy_W_by⟩
theorem cy_M_by : okCY false 2 m_M_by := ⟨tw_t7 175 (by decide +kernel) rfl, tw_t1 12 (by decide +kernel) rfl, ⟨fun h => (by cases h), fun _ => ⟨tw_t7 173 (by decide +kernel) rfl, tw_t7 174 (by decide +kernel) rfl⟩⟩, by decide +kernel⟩
theorem ct_Lw_39 : okCT 12 39 false 2 m_M_by := ⟨tw_t7 172 (by decide +kernel) rfl, cy_M_by⟩
theorem cy_W_forWhich : okCY false 2 m_W_forWhich := ⟨tw_t4 194 (by decide +kernel) rfl, tw_t1 1 (by decide +kernel) rfl, ⟨fun h => (by cases h), fun _ => ⟨tw_t4 192 (by decide +kernel) rfl, tw_t4 193 (by decide +kernel) rfl⟩⟩, by decide +kernel⟩
theorem ct_Lw_40 : okCT 12 40 false 2 m_W_forWhich := ⟨tw_t4 191 (by decide +kernel) rfl, cy_W_forWhich⟩
theorem cy_M_forWhich : okCY false 2 m_M_forWhich := ⟨tw_t7 212 (by decide +kernel) rfl, tw_t1 12 (by decide +kernel) rfl, ⟨fun h => (by cases h), fun _ => ⟨tw_t7 210 (by decide +kernel) rfl, tw_t7 211 (by decide +kernel) rfl⟩⟩, by decide +kernel⟩
theorem ct_Lw_43 : okCT 12 43 false 2 m_M_forWhich := ⟨tw_t7 209 (by decide +kernel) rfl, cy_M_forWhich⟩
theorem cy_W_round : okCY false 1 m_W_round := ⟨tw_t4 202 (by decide +kernel) rfl, tw_t1 1 (by decide +kernel) rfl, ⟨fun h => (by cases h), fun _ => ⟨tw_t4 200 (by decide +kernel) rfl, tw_t4 201 (by decide +kernel) rfl⟩⟩, by decide +kernel⟩
theorem ct_Lw_44 : okCT 12 44 false 1 m_W_round := ⟨tw_t4 199 (by decide +kernel) rfl, cy_W_round⟩
theorem cy_M_round : okCY false 1 m_M_round := ⟨tw_t7 216 (by decide +kernel) rfl, tw_t1 12 (by decide +kernel) rfl, ⟨fun h => (by cases h), fun _ => ⟨tw_t7 214 (by decide +kernel) rfl, tw_t7 215 (by decide +kernel) rfl⟩⟩, by decide +kernel⟩
theorem ct_Lw_47 : okCT 12 47 false 1 m_M_round := ⟨tw_t7 213 (by decide +kernel) rfl, cy_M_round⟩
theorem cy_W_rounds : okCY false 1 m_W_rounds := ⟨tw_t4 235 (by decide +kernel) rfl, tw_t1 1 (by decide +kernel) rfl, ⟨fun h => (by cases h), fun _ => ⟨tw_t4 233 (by decide +kernel) rfl, tw_t4 234 (by decide +kernel) rfl⟩⟩, by decide +kernel⟩
theorem ct_Lw_48 : okCT 12 48 false 1 m_W_rounds := ⟨tw_t4 232 (by decide +kernel) rfl, cy_W_rounds⟩
theorem cy_M_rounds : okCY false 1 m_M_rounds := ⟨tw_t7 239 (by decide +kernel) rfl, tw_t1 12 (by decide +kernel) rfl, ⟨fun h => (by cases h), fun _ => ⟨tw_t7 237 (by decide +kernel) rfl, tw_t7 238 (by decide +kernel) rfl⟩⟩, by decide +kernel⟩
theorem ct_Lw_51 : okCT 12 51 false 1 m_M_rounds := ⟨tw_t7 236 (by decide +kernel) rfl, cy_M_rounds⟩
theorem cy_W_hold : okCY false 2 m_W_hold := ⟨tw_t5 4 (by decide +kernel) rfl, tw_t1 1 (by decide +kernel) rfl, ⟨fun h => (by cases h), fun _ => ⟨tw_t5 2 (by decide +kernel) rfl, tw_t5 3 (by decide +kernel) rfl⟩⟩, by decide +kernel⟩
theorem ct_Lw_52 : okCT 12 52 false 2 m_W_hold := ⟨tw_t5 1 (by decide +kernel) rfl, cy_W_hold⟩
theorem cy_M_hold : okCY false 2 m_M_hold := ⟨tw_t8 4 (by decide +kernel) rfl, tw_t1 12 (by decide +kernel) rfl, ⟨fun h => (by cases h), fun _ => ⟨tw_t8 2 (by decide +kernel) rfl, tw_t8 3 (by decide +kernel) rfl⟩⟩, by decide +kernel⟩
theorem ct_Lw_55 : okCT 12 55 false 2 m_M_hold := ⟨tw_t8 1 (by decide +kernel) rfl, cy_M_hold⟩
theorem cy_W_mud : okCY false 1 m_W_mud := ⟨tw_t5 8 (by decide +kernel) rfl, tw_t1 1 (by decide +kernel) rfl, ⟨fun h => (by cases h), fun _ => ⟨tw_t5 6 (by decide +kernel) rfl, tw_t5 7 (by decide +kernel) rfl⟩⟩, by decide +kernel⟩
theorem ct_Lw_56 : okCT 12 56 false 1 m_W_mud := ⟨tw_t5 5 (by decide +kernel) rfl, cy_W_mud⟩
theorem cy_M_mud : okCY false 1 m_M_mud := ⟨tw_t8 9 (by decide +kernel) rfl, tw_t1 12 (by decide +kernel) rfl, ⟨fun h => (by cases h), fun _ => ⟨tw_t8 7 (by decide +kernel) rfl, tw_t8 8 (by decide +kernel) rfl⟩⟩, by decide +kernel⟩
theorem ct_Lw_59 : okCT 12 59 false 1 m_M_mud := ⟨tw_t8 6 (by decide +kernel) rfl, cy_M_mud⟩
theorem cy_W_undo : okCY false 1 m_W_undo := ⟨tw_t5 12 (by decide +kernel) rfl, tw_t1 1 (by decide +kernel) rfl, ⟨fun h => (by cases h), fun _ => ⟨tw_t5 10 (by decide +kernel) rfl, tw_t5 11 (by decide +kernel) rfl⟩⟩, by decide +kernel⟩
theorem ct_Lw_60 : okCT 12 60 false 1 m_W_undo := ⟨tw_t5 9 (by decide +kernel) rfl, cy_W_undo⟩
theorem cy_M_undo : okCY false 1 m_M_undo := ⟨tw_t8 13 (by decide +kernel) rfl, tw_t1 12 (by decide +kernel) rfl, ⟨fun h => (by cases h), fun _ => ⟨tw_t8 11 (by decide +kernel) rfl, tw_t8 12 (by decide +kernel) rfl⟩⟩, by decide +kernel⟩
theorem ct_Lw_63 : okCT 12 63 false 1 m_M_undo := ⟨tw_t8 10 (by decide +kernel) rfl, cy_M_undo⟩
theorem cy_W_judge : okCY false 2 m_W_judge := ⟨tw_t5 24 (by decide +kernel) rfl, tw_t1 1 (by decide +kernel) rfl, ⟨fun h => (by cases h), fun _ => ⟨tw_t5 22 (by decide +kernel) rfl, tw_t5 23 (by decide +kernel) rfl⟩⟩, by decide +kernel⟩
theorem ct_Lw_64 : okCT 12 64 false 2 m_W_judge := ⟨tw_t5 21 (by decide +kernel) rfl, cy_W_judge⟩
theorem cy_M_judge : okCY false 2 m_M_judge := ⟨tw_t8 18 (by decide +kernel) rfl, tw_t1 12 (by decide +kernel) rfl, ⟨fun h => (by cases h), fun _ => ⟨tw_t8 16 (by decide +kernel) rfl, tw_t8 17 (by decide +kernel) rfl⟩⟩, by decide +kernel⟩
theorem ct_Lw_67 : okCT 12 67 false 2 m_M_judge := ⟨tw_t8 15 (by decide +kernel) rfl, cy_M_judge⟩
theorem cy_W_perform : okCY false 1 m_W_perform := ⟨tw_t5 53 (by decide +kernel) rfl, tw_t1 1 (by decide +kernel) rfl, ⟨fun h => (by cases h), fun _ => ⟨tw_t5 51 (by decide +kernel) rfl, tw_t5 52 (by decide +kernel) rfl⟩⟩, by decide +kernel⟩
theorem ct_Lw_68 : okCT 12 68 false 1 m_W_perform := ⟨tw_t5 50 (by decide +kernel) rfl, cy_W_perform⟩
theorem cy_M_perform : okCY false 1 m_M_perform := ⟨tw_t8 51 (by decide +kernel) rfl, tw_t1 12 (by decide +kernel) rfl, ⟨fun h => (by cases h), fun _ => ⟨tw_t8 49 (by decide +kernel) rfl, tw_t8 50 (by decide +kernel) rfl⟩⟩, by decide +kernel⟩
theorem ct_Lw_71 : okCT 12 71 false 1 m_M_perform := ⟨tw_t8 48 (by decide +kernel) rfl, cy_M_perform⟩
theorem cy_W_week : okCY false 2 m_W_week := ⟨tw_t5 57 (by decide +kernel) rfl, tw_t1 1 (by decide +kernel) rfl, ⟨fun h => (by cases h), fun _ => ⟨tw_t5 55 (by decide +kernel) rfl, tw_t5 56 (by decide +kernel) rfl⟩⟩, by decide +kernel⟩
theorem ct_Lw_72 : okCT 12 72 false 2 m_W_week := ⟨tw_t5 54 (by decide +kernel) rfl, cy_W_week⟩
theorem cy_M_week : okCY false 2 m_M_week := ⟨tw_t8 55 (by decide +kernel) rfl, tw_t1 12 (by decide +kernel) rfl, ⟨fun h => (by cases h), fun _ => ⟨tw_t8 53 (by decide +kernel) rfl, tw_t8 54 (by decide +kernel) rfl⟩⟩, by decide +kernel⟩
theorem ct_Lw_75 : okCT 12 75 false 2 m_M_week := ⟨tw_t8 52 (by decide +kernel) rfl, cy_M_week⟩
theorem cy_W_late : okCY false 2 m_W_late := ⟨tw_t5 72 (by decide +kernel) rfl, tw_t1 1 (by decide +kernel) rfl, ⟨fun h => (by cases h), fun _ => ⟨tw_t5 70 (by decide +kernel) rfl, tw_t5 71 (by decide +kernel) rfl⟩⟩, by decide +kernel⟩
theorem ct_Lw_76 : okCT 12 76 false 2 m_W_late := ⟨tw_t5 69 (by decide +kernel) rfl, cy_W_late⟩
theorem cy_M_late : okCY false 2 m_M_late := ⟨tw_t8 69 (by decide +kernel) rfl, tw_t1 12 (by decide +kernel) rfl, ⟨fun h => (by cases h), fun _ => ⟨tw_t8 67 (by decide +kernel) rfl, tw_t8 68 (by decide +kernel) rfl⟩⟩, by decide +kernel⟩
theorem ct_Lw_79 : okCT 12 79 false 2 m_M_late := ⟨tw_t8 66 (by decide +kernel) rfl, cy_M_late⟩
theorem cy_W_sets : okCY false 2 m_W_sets := ⟨tw_t5 80 (by decide +kernel) rfl, tw_t1 1 (by decide +kernel) rfl, ⟨fun h => (by cases h), fun _ => ⟨tw_t5 78 (by decide +kernel) rfl, tw_t5 79 (by decide +kernel) rfl⟩⟩, by decide +kernel⟩
theorem ct_Lw_80 : okCT 12 80 false 2 m_W_sets := ⟨tw_t5 77 (by decide +kernel) rfl, cy_W_sets⟩
theorem cy_M_sets : okCY false 2 m_M_sets := ⟨tw_t8 78 (by decide +kernel) rfl, tw_t1 12 (by decide +kernel) rfl, ⟨fun h => (by cases h), fun _ => ⟨tw_t8 76 (by decide +kernel) rfl, tw_t8 77 (by decide +kernel) rfl⟩⟩, by decide +kernel⟩
theorem ct_Lw_83 : okCT 12 83 false 2 m_M_sets := ⟨tw_t8 75 (by decide +kernel) rfl, cy_M_sets⟩
theorem cy_W_calm : okCY false 0 m_W_calm := ⟨tw_t5 84 (by decide +kernel) rfl, tw_t1 1 (by decide +kernel) rfl, ⟨fun h => (by cases h), fun _ => ⟨tw_t5 82 (by decide +kernel) rfl, tw_t5 83 (by decide +kernel) rfl⟩⟩, by decide +kernel⟩
theorem ct_Lw_84 : okCT 12 84 false 0 m_W_calm := ⟨tw_t5 81 (by decide +kernel) rfl, cy_W_calm⟩
theorem cy_M_calm : okCY false 0 m_M_calm := ⟨tw_t8 82 (by decide +kernel) rfl, tw_t1 12 (by decide +kernel) rfl, ⟨fun h => (by cases h), fun _ => ⟨tw_t8 80 (by decide +kernel) rfl, tw_t8 81 (by decide +kernel) rfl⟩⟩, by decide +kernel⟩
theorem ct_Lw_88 : okCT 12 88 false 0 m_M_calm := ⟨tw_t8 79 (by decide +kernel) rfl, cy_M_calm⟩
theorem cy_W_slowest : okCY false 1 m_W_slowest := ⟨tw_t5 92 (by decide +kernel) rfl, tw_t1 1 (by decide +kernel) rfl, ⟨fun h => (by cases h), fun _ => ⟨tw_t5 90 (by decide +kernel) rfl, tw_t5 91 (by decide +kernel) rfl⟩⟩, by decide +kernel⟩
theorem ct_Lw_89 : okCT 12 89 false 1 m_W_slowest := ⟨tw_t5 89 (by decide +kernel) rfl, cy_W_slowest⟩
theorem cy_M_slowest : okCY false 1 m_M_slowest := ⟨tw_t8 94 (by decide +kernel) rfl, tw_t1 12 (by decide +kernel) rfl, ⟨fun h => (by cases h), fun _ => ⟨tw_t8 92 (by decide +kernel) rfl, tw_t8 93 (by decide +kernel) rfl⟩⟩, by decide +kernel⟩
theorem ct_Lw_92 : okCT 12 92 false 1 m_M_slowest := ⟨tw_t8 91 (by decide +kernel) rfl, cy_M_slowest⟩
theorem cy_W_slow : okCY false 0 m_W_slow := ⟨tw_t5 124 (by decide +kernel) rfl, tw_t1 1 (by decide +kernel) rfl, ⟨fun h => (by cases h), fun _ => ⟨tw_t5 122 (by decide +kernel) rfl, tw_t5 123 (by decide +kernel) rfl⟩⟩, by decide +kernel⟩
theorem ct_Lw_93 : okCT 12 93 false 0 m_W_slow := ⟨tw_t5 121 (by decide +kernel) rfl, cy_W_slow⟩
theorem cy_M_slow : okCY false 0 m_M_slow := ⟨tw_t8 116 (by decide +kernel) rfl, tw_t1 12 (by decide +kernel) rfl, ⟨fun h => (by cases h), fun _ => ⟨tw_t8 114 (by decide +kernel) rfl, tw_t8 115 (by decide +kernel) rfl⟩⟩, by decide +kernel⟩
theorem ct_Lw_96 : okCT 12 96 false 0 m_M_slow := ⟨tw_t8 113 (by decide +kernel) rfl, cy_M_slow⟩
theorem cy_W_rings : okCY false 0 m_W_rings := ⟨tw_t5 137 (by decide +kernel) rfl, tw_t1 1 (by decide +kernel) rfl, ⟨fun h => (by cases h), fun _ => ⟨tw_t5 135 (by decide +kernel) rfl, tw_t5 136 (by decide +kernel) rfl⟩⟩, by decide +kernel⟩
theorem ct_Lw_97 : okCT 12 97 false 0 m_W_rings := ⟨tw_t5 134 (by decide +kernel) rfl, cy_W_rings⟩
theorem cy_M_rings : okCY false 0 m_M_rings := ⟨tw_t8 120 (by decide +kernel) rfl, tw_t1 12 (by decide +kernel) rfl, ⟨fun h => (by cases h), fun _ => ⟨tw_t8 118 (by decide +kernel) rfl, tw_t8 119 (by decide +kernel) rfl⟩⟩, by decide +kernel⟩
theorem ct_Lw_100 : okCT 12 100 false 0 m_M_rings := ⟨tw_t8 117 (by decide +kernel) rfl, cy_M_rings⟩
theorem cy_W_period : okCY false 0 m_W_period := ⟨tw_t5 145 (by decide +kernel) rfl, tw_t1 1 (by decide +kernel) rfl, ⟨fun h => (by cases h), fun _ => ⟨tw_t5 143 (by decide +kernel) rfl, tw_t5 144 (by decide +kernel) rfl⟩⟩, by decide +kernel⟩
theorem ct_Lw_101 : okCT 12 101 false 0 m_W_period := ⟨tw_t5 142 (by decide +kernel) rfl, cy_W_period⟩
theorem cy_M_period : okCY false 0 m_M_period := ⟨tw_t8 124 (by decide +kernel) rfl, tw_t1 12 (by decide +kernel) rfl, ⟨fun h => (by cases h), fun _ => ⟨tw_t8 122 (by decide +kernel) rfl, tw_t8 123 (by decide +kernel) rfl⟩⟩, by decide +kernel⟩
theorem ct_Lw_104 : okCT 12 104 false 0 m_M_period := ⟨tw_t8 121 (by decide +kernel) rfl, cy_M_period⟩
theorem cy_W_hour : okCY false 2 m_W_hour := ⟨tw_t5 154 (by decide +kernel) rfl, tw_t1 1 (by decide +kernel) rfl, ⟨fun h => (by cases h), fun _ => ⟨tw_t5 152 (by decide +kernel) rfl, tw_t5 153 (by decide +kernel) rfl⟩⟩, by decide +kernel⟩
theorem ct_Lw_105 : okCT 12 105 false 2 m_W_hour := ⟨tw_t5 151 (by decide +kernel) rfl, cy_W_hour⟩
theorem cy_M_hour : okCY false 2 m_M_hour := ⟨tw_t8 128 (by decide +kernel) rfl, tw_t1 12 (by decide +kernel) rfl, ⟨fun h => (by cases h), fun _ => ⟨tw_t8 126 (by decide +kernel) rfl, tw_t8 127 (by decide +kernel) rfl⟩⟩, by decide +kernel⟩
theorem ct_Lw_108 : okCT 12 108 false 2 m_M_hour := ⟨tw_t8 125 (by decide +kernel) rfl, cy_M_hour⟩
theorem cy_W_room : okCY false 1 m_W_room := ⟨tw_t5 168 (by decide +kernel) rfl, tw_t1 1 (by decide +kernel) rfl, ⟨fun h => (by cases h), fun _ => ⟨tw_t5 166 (by decide +kernel) rfl, tw_t5 167 (by decide +kernel) rfl⟩⟩, by decide +kernel⟩
theorem ct_Lw_109 : okCT 12 109 false 1 m_W_room := ⟨tw_t5 165 (by decide +kernel) rfl, cy_W_room⟩
theorem cy_M_room : okCY false 1 m_M_room := ⟨tw_t8 136 (by decide +kernel) rfl, tw_t1 12 (by decide +kernel) rfl, ⟨fun h => (by cases h), fun _ => ⟨tw_t8 134 (by decide +kernel) rfl, tw_t8 135 (by decide +kernel) rfl⟩⟩, by decide +kernel⟩
theorem ct_Lw_112 : okCT 12 112 false 1 m_M_room := ⟨tw_t8 133 (by decide +kernel) rfl, cy_M_room⟩
theorem cy_W_leave : okCY false 0 m_W_leave := ⟨tw_t5 183 (by decide +kernel) rfl, tw_t1 1 (by decide +kernel) rfl, ⟨fun h => (by cases h), fun _ => ⟨tw_t5 181 (by decide +kernel) rfl, tw_t5 182 (by decide +kernel) rfl⟩⟩, by decide +kernel⟩
theorem ct_Lw_113 : okCT 12 113 false 0 m_W_leave := ⟨tw_t5 180 (by decide +kernel) rfl, cy_W_leave⟩
theorem cy_M_leave : okCY false 0 m_M_leave := ⟨tw_t8 142 (by decide +kernel) rfl, tw_t1 12 (by decide +kernel) rfl, ⟨fun h => (by cases h), fun _ => ⟨tw_t8 140 (by decide +kernel) rfl, tw_t8 141 (by decide +kernel) rfl⟩⟩, by decide +kernel⟩
theorem ct_Lw_116 : okCT 12 116 false 0 m_M_leave := ⟨tw_t8 139 (by decide +kernel) rfl, cy_M_leave⟩
theorem cy_W_leaves : okCY false 2 m_W_leaves := ⟨tw_t5 191 (by decide +kernel) rfl, tw_t1 1 (by decide +kernel) rfl, ⟨fun h => (by cases h), fun _ => ⟨tw_t5 189 (by decide +kernel) rfl, tw_t5 190 (by decide +kernel) rfl⟩⟩, by decide +kernel⟩
theorem ct_Lw_117 : okCT 12 117 false 2 m_W_leaves := ⟨tw_t5 188 (by decide +kernel) rfl, cy_W_leaves⟩
theorem cy_M_leaves : okCY false 2 m_M_leaves := ⟨tw_t8 146 (by decide +kernel) rfl, tw_t1 12 (by decide +kernel) rfl, ⟨fun h => (by cases h), fun _ => ⟨tw_t8 144 (by decide +kernel) rfl, tw_t8 145 (by decide +kernel) rfl⟩⟩, by decide +kernel⟩
theorem ct_Lw_120 : okCT 12 120 false 2 m_M_leaves := ⟨tw_t8 143 (by decide +kernel) rfl, cy_M_leaves⟩
theorem cy_W_spread : okCY false 3 m_W_spread := ⟨tw_t5 204 (by decide +kernel) rfl, tw_t1 1 (by decide +kernel) rfl, ⟨fun h => (by cases h), fun _ => ⟨tw_t5 202 (by decide +kernel) rfl, tw_t5 203 (by decide +kernel) rfl⟩⟩, by decide +kernel⟩
theorem ct_Lw_121 : okCT 12 121 false 3 m_W_spread := ⟨tw_t5 201 (by decide +kernel) rfl, cy_W_spread⟩
theorem cy_M_spread : okCY false 3 m_M_spread := ⟨tw_t8 150 (by decide +kernel) rfl, tw_t1 12 (by decide +kernel) rfl, ⟨fun h => (by cases h), fun _ => ⟨tw_t8 148 (by decide +kernel) rfl, tw_t8 149 (by decide +kernel) rfl⟩⟩, by decide +kernel⟩
theorem ct_Lw_125 : okCT 12 125 false 3 m_M_spread := ⟨tw_t8 147 (by decide +kernel) rfl, cy_M_spread⟩
theorem cy_W_leeway : okCY false 1 m_W_leeway := ⟨tw_t5 216 (by decide +kernel) rfl, tw_t1 1 (by decide +kernel) rfl, ⟨fun h => (by cases h), fun _ => ⟨tw_t5 214 (by decide +kernel) rfl, tw_t5 215 (by decide +kernel) rfl⟩⟩, by decide +kernel⟩
theorem ct_Lw_126 : okCT 12 126 false 1 m_W_leeway := ⟨tw_t5 213 (by decide +kernel) rfl, cy_W_leeway⟩
theorem cy_M_leeway : okCY false 1 m_M_leeway := ⟨tw_t8 162 (by decide +kernel) rfl, tw_t1 12 (by decide +kernel) rfl, ⟨fun h => (by cases h), fun _ => ⟨tw_t8 160 (by decide +kernel) rfl, tw_t8 161 (by decide +kernel) rfl⟩⟩, by decide +kernel⟩
theorem ct_Lw_129 : okCT 12 129 false 1 m_M_leeway := ⟨tw_t8 159 (by decide +kernel) rfl, cy_M_leeway⟩
theorem cy_W_soonest : okCY false 0 m_W_soonest := ⟨tw_t5 224 (by decide +kernel) rfl, tw_t1 1 (by decide +kernel) rfl, ⟨fun h => (by cases h), fun _ => ⟨tw_t5 222 (by decide +kernel) rfl, tw_t5 223 (by decide +kernel) rfl⟩⟩, by decide +kernel⟩
theorem ct_Lw_130 : okCT 12 130 false 0 m_W_soonest := ⟨tw_t5 221 (by decide +kernel) rfl, cy_W_soonest⟩
theorem cy_M_soonest : okCY false 0 m_M_soonest := ⟨tw_t8 166 (by decide +kernel) rfl, tw_t1 12 (by decide +kernel) rfl, ⟨fun h => (by cases h), fun _ => ⟨tw_t8 164 (by decide +kernel) rfl, tw_t8 165 (by decide +kernel) rfl⟩⟩, by decide +kernel⟩
theorem ct_Lw_133 : okCT 12 133 false 0 m_M_soonest := ⟨tw_t8 163 (by decide +kernel) rfl, cy_M_soonest⟩
theorem cy_W_way : okCY false 1 m_W_way := ⟨tw_t6 8 (by decide +kernel) rfl, tw_t1 1 (by decide +kernel) rfl, ⟨fun h => (by cases h), fun _ => ⟨tw_t6 6 (by decide +kernel) rfl, tw_t6 7 (by decide +kernel) rfl⟩⟩, by decide +kernel⟩
theorem ct_Lw_134 : okCT 12 134 false 1 m_W_way := ⟨tw_t6 5 (by decide +kernel) rfl, cy_W_way⟩
theorem cy_M_way : okCY false 1 m_M_way := ⟨tw_t8 178 (by decide +kernel) rfl, tw_t1 12 (by decide +kernel) rfl, ⟨fun h => (by cases h), fun _ => ⟨tw_t8 176 (by decide +kernel) rfl, tw_t8 177 (by decide +kernel) rfl⟩⟩, by decide +kernel⟩
theorem ct_Lw_137 : okCT 12 137 false 1 m_M_way := ⟨tw_t8 175 (by decide +kernel) rfl, cy_M_way⟩
theorem cy_W_rows : okCY false 2 m_W_rows := ⟨tw_t6 16 (by decide +kernel) rfl, tw_t1 1 (by decide +kernel) rfl, ⟨fun h => (by cases h), fun _ => ⟨tw_t6 14 (by decide +kernel) rfl, tw_t6 15 (by decide +kernel) rfl⟩⟩, by decide +kernel⟩
theorem ct_Lw_138 : okCT 12 138 false 2 m_W_rows := ⟨tw_t6 13 (by decide +kernel) rfl, cy_W_rows⟩
theorem cy_M_rows : okCY false 2 m_M_rows := ⟨tw_t8 182 (by decide +kernel) rfl, tw_t1 12 (by decide +kernel) rfl, ⟨fun h => (by cases h), fun _ => ⟨tw_t8 180 (by decide +kernel) rfl, tw_t8 181 (by decide +kernel) rfl⟩⟩, by decide +kernel⟩
theorem ct_Lw_141 : okCT 12 141 false 2 m_M_rows := ⟨tw_t8 179 (by decide +kernel) rfl, cy_M_rows⟩
theorem cy_W_muds : okCY false 2 m_W_muds := ⟨tw_t6 30 (by decide +kernel) rfl, tw_t1 1 (by decide +kernel) rfl, ⟨fun h => (by cases h), fun _ => ⟨tw_t6 28 (by decide +kernel) rfl, tw_t6 29 (by decide +kernel) rfl⟩⟩, by decide +kernel⟩
theorem ct_Lw_142 : okCT 12 142 false 2 m_W_muds := ⟨tw_t6 27 (by decide +kernel) rfl, cy_W_muds⟩
theorem cy_M_muds : okCY false 2 m_M_muds := ⟨tw_t8 191 (by decide +kernel) rfl, tw_t1 12 (by decide +kernel) rfl, ⟨fun h => (by cases h), fun _ => ⟨tw_t8 189 (by decide +kernel) rfl, tw_t8 190 (by decide +kernel) rfl⟩⟩, by decide +kernel⟩
theorem ct_Lw_145 : okCT 12 145 false 2 m_M_muds := ⟨tw_t8 188 (by decide +kernel) rfl, cy_M_muds⟩
theorem cy_W_look : okCY false 2 m_W_look := ⟨tw_t6 46 (by decide +kernel) rfl, tw_t1 1 (by decide +kernel) rfl, ⟨fun h => (by cases h), fun _ => ⟨tw_t6 44 (by decide +kernel) rfl, tw_t6 45 (by decide +kernel) rfl⟩⟩, by decide +kernel⟩
theorem ct_Lw_146 : okCT 12 146 false 2 m_W_look := ⟨tw_t6 43 (by decide +kernel) rfl, cy_W_look⟩
theorem cy_M_look : okCY false 2 m_M_look := ⟨tw_t8 204 (by decide +kernel) rfl, tw_t1 12 (by decide +kernel) rfl, ⟨fun h => (by cases h), fun _ => ⟨tw_t8 202 (by decide +kernel) rfl, tw_t8 203 (by decide +kernel) rfl⟩⟩, by decide +kernel⟩
theorem ct_Lw_149 : okCT 12 149 false 2 m_M_look := ⟨tw_t8 201 (by decide +kernel) rfl, cy_M_look⟩
theorem cy_W_chance : okCY false 3 m_W_chance := ⟨tw_t6 59 (by decide +kernel) rfl, tw_t1 1 (by decide +kernel) rfl, ⟨fun h => (by cases h), fun _ => ⟨tw_t6 57 (by decide +kernel) rfl, tw_t6 58 (by decide +kernel) rfl⟩⟩, by decide +kernel⟩
theorem ct_Lw_150 : okCT 12 150 false 3 m_W_chance := ⟨tw_t6 56 (by decide +kernel) rfl, cy_W_chance⟩
theorem cy_M_chance : okCY false 3 m_M_chance := ⟨tw_t8 212 (by decide +kernel) rfl, tw_t1 12 (by decide +kernel) rfl, ⟨fun h => (by cases h), fun _ => ⟨tw_t8 210 (by decide +kernel) rfl, tw_t8 211 (by decide +kernel) rfl⟩⟩, by decide +kernel⟩
theorem ct_Lw_153 : okCT 12 153 false 3 m_M_chance := ⟨tw_t8 209 (by decide +kernel) rfl, cy_M_chance⟩
theorem cy_W_mean : okCY false 4 m_W_mean := ⟨tw_t6 77 (by decide +kernel) rfl, tw_t1 1 (by decide +kernel) rfl, ⟨fun h => (by cases h), fun _ => ⟨tw_t6 75 (by decide +kernel) rfl, tw_t6 76 (by decide +kernel) rfl⟩⟩, by decide +kernel⟩
theorem ct_Lw_154 : okCT 12 154 false 4 m_W_mean := ⟨tw_t6 74 (by decide +kernel) rfl, cy_W_mean⟩
theorem cy_M_mean : okCY false 4 m_M_mean := ⟨tw_t8 233 (by decide +kernel) rfl, tw_t1 12 (by decide +kernel) rfl, ⟨fun h => (by cases h), fun _ => ⟨tw_t8 231 (by decide +kernel) rfl, tw_t8 232 (by decide +kernel) rfl⟩⟩, by decide +kernel⟩
theorem ct_Lw_158 : okCT 12 158 false 4 m_M_mean := ⟨tw_t8 230 (by decide +kernel) rfl, cy_M_mean⟩
theorem cy_W_numbers : okCY false 3 m_W_numbers := ⟨tw_t6 83 (by decide +kernel) rfl, tw_t1 1 (by decide +kernel) rfl, ⟨fun h => (by cases h), fun _ => ⟨tw_t6 81 (by decide +kernel) rfl, tw_t6 82 (by decide +kernel) rfl⟩⟩, by decide +kernel⟩
theorem ct_Lw_159 : okCT 12 159 false 3 m_W_numbers := ⟨tw_t6 80 (by decide +kernel) rfl, cy_W_numbers⟩
theorem cy_M_numbers : okCY false 3 m_M_numbers := ⟨tw_t8 239 (by decide +kernel) rfl, tw_t1 12 (by decide +kernel) rfl, ⟨fun h => (by cases h), fun _ => ⟨tw_t8 237 (by decide +kernel) rfl, tw_t8 238 (by decide +kernel) rfl⟩⟩, by decide +kernel⟩
theorem ct_Lw_162 : okCT 12 162 false 3 m_M_numbers := ⟨tw_t8 236 (by decide +kernel) rfl, cy_M_numbers⟩
theorem cy_W_write : okCY false 3 m_W_write := ⟨tw_t6 94 (by decide +kernel) rfl, tw_t1 1 (by decide +kernel) rfl, ⟨fun h => (by cases h), fun _ => ⟨tw_t6 92 (by decide +kernel) rfl, tw_t6 93 (by decide +kernel) rfl⟩⟩, by decide +kernel⟩
theorem ct_Lw_165 : okCT 12 165 false 3 m_W_write := ⟨tw_t6 91 (by decide +kernel) rfl, cy_W_write⟩
theorem cy_M_write : okCY false 3 m_M_write := ⟨tw_t9 3 (by decide +kernel) rfl, tw_t1 12 (by decide +kernel) rfl, ⟨fun h => (by cases h), fun _ => ⟨tw_t9 1 (by decide +kernel) rfl, tw_t9 2 (by decide +kernel) rfl⟩⟩, by decide +kernel⟩
theorem ct_Lw_169 : okCT 12 169 false 3 m_M_write := ⟨tw_t9 0 (by decide +kernel) rfl, cy_M_write⟩
theorem cy_W_lists : okCY false 2 m_W_lists := ⟨tw_t6 108 (by decide +kernel) rfl, tw_t1 1 (by decide +kernel) rfl, ⟨fun h => (by cases h), fun _ => ⟨tw_t6 106 (by decide +kernel) rfl, tw_t6 107 (by decide +kernel) rfl⟩⟩, by decide +kernel⟩
theorem ct_Lw_170 : okCT 12 170 false 2 m_W_lists := ⟨tw_t6 105 (by decide +kernel) rfl, cy_W_lists⟩
theorem cy_M_lists : okCY false 2 m_M_lists := ⟨tw_t9 11 (by decide +kernel) rfl, tw_t1 12 (by decide +kernel) rfl, ⟨fun h => (by cases h), fun _ => ⟨tw_t9 9 (by decide +kernel) rfl, tw_t9 10 (by decide +kernel) rfl⟩⟩, by decide +kernel⟩
theorem ct_Lw_173 : okCT 12 173 false 2 m_M_lists := ⟨tw_t9 8 (by decide +kernel) rfl, cy_M_lists⟩
theorem cy_W_image : okCY false 1 m_W_image := ⟨tw_t6 112 (by decide +kernel) rfl, tw_t1 1 (by decide +kernel) rfl, ⟨fun h => (by cases h), fun _ => ⟨tw_t6 110 (by decide +kernel) rfl, tw_t6 111 (by decide +kernel) rfl⟩⟩, by decide +kernel⟩
theorem ct_Lw_174 : okCT 12 174 false 1 m_W_image := ⟨tw_t6 109 (by decide +kernel) rfl, cy_W_image⟩
theorem cy_M_image : okCY false 1 m_M_image := ⟨tw_t9 15 (by decide +kernel) rfl, tw_t1 12 (by decide +kernel) rfl, ⟨fun h => (by cases h), fun _ => ⟨tw_t9 13 (by decide +kernel) rfl, tw_t9 14 (by decide +kernel) rfl⟩⟩, by decide +kernel⟩
theorem ct_Lw_177 : okCT 12 177 false 1 m_M_image := ⟨tw_t9 12 (by decide +kernel) rfl, cy_M_image⟩
theorem cy_W_restore : okCY false 1 m_W_restore := ⟨tw_t6 116 (by decide +kernel) rfl, tw_t1 1 (by decide +kernel) rfl, ⟨fun h => (by cases h), fun _ => ⟨tw_t6 114 (by decide +kernel) rfl, tw_t6 115 (by decide +kernel) rfl⟩⟩, by decide +kernel⟩
theorem ct_Lw_178 : okCT 12 178 false 1 m_W_restore := ⟨tw_t6 113 (by decide +kernel) rfl, cy_W_restore⟩
theorem cy_M_restore : okCY false 1 m_M_restore := ⟨tw_t9 19 (by decide +kernel) rfl, tw_t1 12 (by decide +kernel) rfl, ⟨fun h => (by cases h), fun _ => ⟨tw_t9 17 (by decide +kernel) rfl, tw_t9 18 (by decide +kernel) rfl⟩⟩, by decide +kernel⟩
theorem ct_Lw_181 : okCT 12 181 false 1 m_M_restore := ⟨tw_t9 16 (by decide +kernel) rfl, cy_M_restore⟩
theorem cy_W_count : okCY false 1 m_W_count := ⟨tw_t6 120 (by decide +kernel) rfl, tw_t1 1 (by decide +kernel) rfl, ⟨fun h => (by cases h), fun _ => ⟨tw_t6 118 (by decide +kernel) rfl, tw_t6 119 (by decide +kernel) rfl⟩⟩, by decide +kernel⟩
theorem ct_Lw_182 : okCT 12 182 false 1 m_W_count := ⟨tw_t6 117 (by decide +kernel) rfl, cy_W_count⟩
theorem cy_M_count : okCY false 1 m_M_count := ⟨tw_t9 23 (by decide +kernel) rfl, tw_t1 12 (by decide +kernel) rfl, ⟨fun h => (by cases h), fun _ => ⟨tw_t9 21 (by decide +kernel) rfl, tw_t9 22 (by decide +kernel) rfl⟩⟩, by decide +kernel⟩
theorem ct_Lw_185 : okCT 12 185 false 1 m_M_count := ⟨tw_t9 20 (by decide +kernel) rfl, cy_M_count⟩
theorem cy_M_plain : okCY true 1 m_M_plain := ⟨tw_t6 129 (by decide +kernel) rfl, tw_t1 12 (by decide +kernel) rfl, ⟨fun _ => tw_t6 128 (by decide +kernel) rfl, fun h => by cases h⟩, by decide +kernel⟩
theorem ct_M_67 : okCT 11 67 true 1 m_M_plain := ⟨tw_t6 127 (by decide +kernel) rfl, cy_M_plain⟩
theorem ct_M_79 : okCT 11 79 false 0 m_Str_length := ⟨tw_t7 38 (by decide +kernel) rfl, cy_Str_length⟩
theorem ct_M_85 : okCT 11 85 false 1 m_Str_charAt := ⟨tw_t7 39 (by decide +kernel) rfl, cy_Str_charAt⟩
theorem cy_M_see : okCY false 1 m_M_see := ⟨tw_t7 29 (by decide +kernel) rfl, tw_t1 12 (by decide +kernel) rfl, ⟨fun h => (by cases h), fun _ => ⟨tw_t7 28 (by decide +kernel) rfl, tw_p4 11 (q := (⟨"CoachWaitsModel", "see", "(I)I"⟩, 40)) (by decide +kernel)⟩⟩, by decide +kernel⟩
theorem ct_M_95 : okCT 11 95 false 1 m_M_see := ⟨tw_t7 26 (by decide +kernel) rfl, cy_M_see⟩
theorem cy_M_isSmall : okCY true 1 m_M_isSmall := ⟨tw_t7 32 (by decide +kernel) rfl, tw_t1 12 (by decide +kernel) rfl, ⟨fun _ => tw_t7 31 (by decide +kernel) rfl, fun h => by cases h⟩, by decide +kernel⟩
theorem ct_M_102 : okCT 11 102 true 1 m_M_isSmall := ⟨tw_t7 30 (by decide +kernel) rfl, cy_M_isSmall⟩
theorem cy_M_keyAt : okCY false 0 m_M_keyAt := ⟨tw_t7 36 (by decide +kernel) rfl, tw_t1 12 (by decide +kernel) rfl, ⟨fun h => (by cases h), fun _ => ⟨tw_t7 35 (by decide +kernel) rfl, tw_p4 12 (q := (⟨"CoachWaitsModel", "keyAt", "()I"⟩, 40)) (by decide +kernel)⟩⟩, by decide +kernel⟩
theorem ct_M_106 : okCT 11 106 false 0 m_M_keyAt := ⟨tw_t7 33 (by decide +kernel) rfl, cy_M_keyAt⟩
theorem cy_M_isDigit : okCY true 1 m_M_isDigit := ⟨tw_t7 42 (by decide +kernel) rfl, tw_t1 12 (by decide +kernel) rfl, ⟨fun _ => tw_t7 41 (by decide +kernel) rfl, fun h => by cases h⟩, by decide +kernel⟩
theorem ct_M_109 : okCT 11 109 true 1 m_M_isDigit := ⟨tw_t7 40 (by decide +kernel) rfl, cy_M_isDigit⟩
theorem cy_M_is : okCY false 1 m_M_is := ⟨tw_t7 51 (by decide +kernel) rfl, tw_t1 12 (by decide +kernel) rfl, ⟨fun h => (by cases h), fun _ => ⟨tw_t7 50 (by decide +kernel) rfl, tw_p4 14 (q := (⟨"CoachWaitsModel", "is", "(I)Z"⟩, 40)) (by decide +kernel)⟩⟩, by decide +kernel⟩
theorem ct_M_123 : okCT 11 123 false 1 m_M_is := ⟨tw_t7 48 (by decide +kernel) rfl, cy_M_is⟩
theorem cy_M_next : okCY false 0 m_M_next := ⟨tw_t7 25 (by decide +kernel) rfl, tw_t1 12 (by decide +kernel) rfl, ⟨fun h => (by cases h), fun _ => ⟨tw_t7 24 (by decide +kernel) rfl, tw_p4 10 (q := (⟨"CoachWaitsModel", "next", "()V"⟩, 40)) (by decide +kernel)⟩⟩, by decide +kernel⟩
theorem ct_M_126 : okCT 11 126 false 0 m_M_next := ⟨tw_t7 22 (by decide +kernel) rfl, cy_M_next⟩
theorem cy_M_fails : okCY false 1 m_M_fails := ⟨tw_t7 55 (by decide +kernel) rfl, tw_t1 12 (by decide +kernel) rfl, ⟨fun h => (by cases h), fun _ => ⟨tw_t7 54 (by decide +kernel) rfl, tw_p4 15 (q := (⟨"CoachWaitsModel", "fails", "(I)V"⟩, 40)) (by decide +kernel)⟩⟩, by decide +kernel⟩
theorem ct_M_129 : okCT 11 129 false 1 m_M_fails := ⟨tw_t7 52 (by decide +kernel) rfl, cy_M_fails⟩
theorem cy_M_within : okCY true 3 m_M_within := ⟨tw_t7 21 (by decide +kernel) rfl, tw_t1 12 (by decide +kernel) rfl, ⟨fun _ => tw_t7 20 (by decide +kernel) rfl, fun h => by cases h⟩, by decide +kernel⟩
theorem ct_M_133 : okCT 11 133 true 3 m_M_within := ⟨tw_t7 19 (by decide +kernel) rfl, cy_M_within⟩
theorem cy_M_codes : okCY false 1 m_M_codes := ⟨tw_t7 99 (by decide +kernel) rfl, tw_t1 12 (by decide +kernel) rfl, ⟨fun h => (by cases h), fun _ => ⟨tw_t7 98 (by decide +kernel) rfl, tw_p5 10 (q := (⟨"CoachWaitsModel", "codes", "(I)V"⟩, 40)) (by decide +kernel)⟩⟩, by decide +kernel⟩
theorem ct_M_140 : okCT 11 140 false 1 m_M_codes := ⟨tw_t7 96 (by decide +kernel) rfl, cy_M_codes⟩
theorem cy_M_wordOf : okCY false 1 m_M_wordOf := ⟨tw_t7 103 (by decide +kernel) rfl, tw_t1 12 (by decide +kernel) rfl, ⟨fun h => (by cases h), fun _ => ⟨tw_t7 102 (by decide +kernel) rfl, tw_p5 11 (q := (⟨"CoachWaitsModel", "wordOf", "(I)I"⟩, 40)) (by decide +kernel)⟩⟩, by decide +kernel⟩
theorem ct_M_143 : okCT 11 143 false 1 m_M_wordOf := ⟨tw_t7 100 (by decide +kernel) rfl, cy_M_wordOf⟩
theorem cy_M_goesIn : okCY false 1 m_M_goesIn := ⟨tw_t7 107 (by decide +kernel) rfl, tw_t1 12 (by decide +kernel) rfl, ⟨fun h => (by cases h), fun _ => ⟨tw_t7 106 (by decide +kernel) rfl, tw_p5 12 (q := (⟨"CoachWaitsModel", "goesIn", "(I)Z"⟩, 40)) (by decide +kernel)⟩⟩, by decide +kernel⟩
theorem ct_M_146 : okCT 11 146 false 1 m_M_goesIn := ⟨tw_t7 104 (by decide +kernel) rfl, cy_M_goesIn⟩
theorem cy_M_readSum : okCY false 1 m_M_readSum := ⟨tw_t7 87 (by decide +kernel) rfl, tw_t1 12 (by decide +kernel) rfl, ⟨fun h => (by cases h), fun _ => ⟨tw_t7 86 (by decide +kernel) rfl, tw_p5 7 (q := (⟨"CoachWaitsModel", "readSum", "(I)V"⟩, 40)) (by decide +kernel)⟩⟩, by decide +kernel⟩
theorem ct_M_149 : okCT 11 149 false 1 m_M_readSum := ⟨tw_t7 84 (by decide +kernel) rfl, cy_M_readSum⟩
theorem cy_M_eats : okCY false 1 m_M_eats := ⟨tw_t7 47 (by decide +kernel) rfl, tw_t1 12 (by decide +kernel) rfl, ⟨fun h => (by cases h), fun _ => ⟨tw_t7 46 (by decide +kernel) rfl, tw_p4 13 (q := (⟨"CoachWaitsModel", "eats", "(I)Z"⟩, 40)) (by decide +kernel)⟩⟩, by decide +kernel⟩
theorem ct_M_152 : okCT 11 152 false 1 m_M_eats := ⟨tw_t7 44 (by decide +kernel) rfl, cy_M_eats⟩
theorem cy_M_readIf : okCY false 1 m_M_readIf := ⟨tw_t7 111 (by decide +kernel) rfl, tw_t1 12 (by decide +kernel) rfl, ⟨fun h => (by cases h), fun _ => ⟨tw_t7 110 (by decide +kernel) rfl, tw_p5 13 (q := (⟨"CoachWaitsModel", "readIf", "(I)V"⟩, 40)) (by decide +kernel)⟩⟩, by decide +kernel⟩
theorem ct_M_155 : okCT 11 155 false 1 m_M_readIf := ⟨tw_t7 108 (by decide +kernel) rfl, cy_M_readIf⟩
theorem cy_M_readTruth : okCY false 1 m_M_readTruth := ⟨tw_t7 115 (by decide +kernel) rfl, tw_t1 12 (by decide +kernel) rfl, ⟨fun h => (by cases h), fun _ => ⟨tw_t7 114 (by decide +kernel) rfl, tw_p5 14 (q := (⟨"CoachWaitsModel", "readTruth", "(I)V"⟩, 40)) (by decide +kernel)⟩⟩, by decide +kernel⟩
theorem ct_M_158 : okCT 11 158 false 1 m_M_readTruth := ⟨tw_t7 112 (by decide +kernel) rfl, cy_M_readTruth⟩
theorem cy_M_readAtom : okCY false 1 m_M_readAtom := ⟨tw_t7 95 (by decide +kernel) rfl, tw_t1 12 (by decide +kernel) rfl, ⟨fun h => (by cases h), fun _ => ⟨tw_t7 94 (by decide +kernel) rfl, tw_p5 9 (q := (⟨"CoachWaitsModel", "readAtom", "(I)V"⟩, 40)) (by decide +kernel)⟩⟩, by decide +kernel⟩
theorem ct_M_161 : okCT 11 161 false 1 m_M_readAtom := ⟨tw_t7 92 (by decide +kernel) rfl, cy_M_readAtom⟩
theorem cy_M_readTerm : okCY false 1 m_M_readTerm := ⟨tw_t7 91 (by decide +kernel) rfl, tw_t1 12 (by decide +kernel) rfl, ⟨fun h => (by cases h), fun _ => ⟨tw_t7 90 (by decide +kernel) rfl, tw_p5 8 (q := (⟨"CoachWaitsModel", "readTerm", "(I)V"⟩, 40)) (by decide +kernel)⟩⟩, by decide +kernel⟩
theorem ct_M_164 : okCT 11 164 false 1 m_M_readTerm := ⟨tw_t7 88 (by decide +kernel) rfl, cy_M_readTerm⟩
theorem cy_M_readUnit : okCY false 1 m_M_readUnit := ⟨tw_t7 123 (by decide +kernel) rfl, tw_t1 12 (by decide +kernel) rfl, ⟨fun h => (by cases h), fun _ => ⟨tw_t7 122 (by decide +kernel) rfl, tw_p6 0 (q := (⟨"CoachWaitsModel", "readUnit", "(I)V"⟩, 40)) (by decide +kernel)⟩⟩, by decide +kernel⟩
theorem ct_M_167 : okCT 11 167 false 1 m_M_readUnit := ⟨tw_t7 120 (by decide +kernel) rfl, cy_M_readUnit⟩
theorem cy_M_readBoth : okCY false 1 m_M_readBoth := ⟨tw_t7 119 (by decide +kernel) rfl, tw_t1 12 (by decide +kernel) rfl, ⟨fun h => (by cases h), fun _ => ⟨tw_t7 118 (by decide +kernel) rfl, tw_p5 15 (q := (⟨"CoachWaitsModel", "readBoth", "(I)V"⟩, 40)) (by decide +kernel)⟩⟩, by decide +kernel⟩
theorem ct_M_170 : okCT 11 170 false 1 m_M_readBoth := ⟨tw_t7 116 (by decide +kernel) rfl, cy_M_readBoth⟩
theorem cy_M_takes : okCY false 2 m_M_takes := ⟨tw_t7 63 (by decide +kernel) rfl, tw_t1 12 (by decide +kernel) rfl, ⟨fun h => (by cases h), fun _ => ⟨tw_t7 62 (by decide +kernel) rfl, tw_p5 1 (q := (⟨"CoachWaitsModel", "takes", "(II)I"⟩, 40)) (by decide +kernel)⟩⟩, by decide +kernel⟩
theorem ct_M_173 : okCT 11 173 false 2 m_M_takes := ⟨tw_t7 60 (by decide +kernel) rfl, cy_M_takes⟩
theorem cy_M_named : okCY false 3 m_M_named := ⟨tw_t7 59 (by decide +kernel) rfl, tw_t1 12 (by decide +kernel) rfl, ⟨fun h => (by cases h), fun _ => ⟨tw_t7 58 (by decide +kernel) rfl, tw_p5 0 (q := (⟨"CoachWaitsModel", "named", "(III)I"⟩, 40)) (by decide +kernel)⟩⟩, by decide +kernel⟩
theorem ct_M_177 : okCT 11 177 false 3 m_M_named := ⟨tw_t7 56 (by decide +kernel) rfl, cy_M_named⟩
theorem cy_M_readCoach : okCY false 0 m_M_readCoach := ⟨tw_t7 75 (by decide +kernel) rfl, tw_t1 12 (by decide +kernel) rfl, ⟨fun h => (by cases h), fun _ => ⟨tw_t7 74 (by decide +kernel) rfl, tw_p5 4 (q := (⟨"CoachWaitsModel", "readCoach", "()V"⟩, 40)) (by decide +kernel)⟩⟩, by decide +kernel⟩
theorem ct_M_181 : okCT 11 181 false 0 m_M_readCoach := ⟨tw_t7 72 (by decide +kernel) rfl, cy_M_readCoach⟩
theorem cy_M_readWait : okCY false 0 m_M_readWait := ⟨tw_t7 79 (by decide +kernel) rfl, tw_t1 12 (by decide +kernel) rfl, ⟨fun h => (by cases h), fun _ => ⟨tw_t7 78 (by decide +kernel) rfl, tw_p5 5 (q := (⟨"CoachWaitsModel", "readWait", "()V"⟩, 40)) (by decide +kernel)⟩⟩, by decide +kernel⟩
theorem ct_M_184 : okCT 11 184 false 0 m_M_readWait := ⟨tw_t7 76 (by decide +kernel) rfl, cy_M_readWait⟩
theorem cy_M_readLaw : okCY false 1 m_M_readLaw := ⟨tw_t7 83 (by decide +kernel) rfl, tw_t1 12 (by decide +kernel) rfl, ⟨fun h => (by cases h), fun _ => ⟨tw_t7 82 (by decide +kernel) rfl, tw_p5 6 (q := (⟨"CoachWaitsModel", "readLaw", "(I)V"⟩, 40)) (by decide +kernel)⟩⟩, by decide +kernel⟩
theorem ct_M_187 : okCT 11 187 false 1 m_M_readLaw := ⟨tw_t7 80 (by decide +kernel) rfl, cy_M_readLaw⟩
theorem cy_M_closes : okCY false 0 m_M_closes := ⟨tw_t7 67 (by decide +kernel) rfl, tw_t1 12 (by decide +kernel) rfl, ⟨fun h => (by cases h), fun _ => ⟨tw_t7 66 (by decide +kernel) rfl, tw_p5 2 (q := (⟨"CoachWaitsModel", "closes", "()V"⟩, 40)) (by decide +kernel)⟩⟩, by decide +kernel⟩
theorem ct_M_190 : okCT 11 190 false 0 m_M_closes := ⟨tw_t7 64 (by decide +kernel) rfl, cy_M_closes⟩
theorem cy_M_readLine : okCY false 0 m_M_readLine := ⟨tw_t7 71 (by decide +kernel) rfl, tw_t1 12 (by decide +kernel) rfl, ⟨fun h => (by cases h), fun _ => ⟨tw_t7 70 (by decide +kernel) rfl, tw_p5 3 (q := (⟨"CoachWaitsModel", "readLine", "()V"⟩, 40)) (by decide +kernel)⟩⟩, by decide +kernel⟩
theorem ct_M_193 : okCT 11 193 false 0 m_M_readLine := ⟨tw_t7 68 (by decide +kernel) rfl, cy_M_readLine⟩
theorem cy_M_between : okCY true 3 m_M_between := ⟨tw_t7 166 (by decide +kernel) rfl, tw_t1 12 (by decide +kernel) rfl, ⟨fun _ => tw_t7 165 (by decide +kernel) rfl, fun h => by cases h⟩, by decide +kernel⟩
theorem ct_M_203 : okCT 11 203 true 3 m_M_between := ⟨tw_t7 164 (by decide +kernel) rfl, cy_M_between⟩
theorem cy_M_fromOf : okCY false 1 m_M_fromOf := ⟨tw_t7 147 (by decide +kernel) rfl, tw_t1 12 (by decide +kernel) rfl, ⟨fun h => (by cases h), fun _ => ⟨tw_t7 146 (by decide +kernel) rfl, tw_p6 3 (q := (⟨"CoachWaitsModel", "fromOf", "(I)I"⟩, 40)) (by decide +kernel)⟩⟩, by decide +kernel⟩
theorem ct_M_206 : okCT 11 206 false 1 m_M_fromOf := ⟨tw_t7 144 (by decide +kernel) rfl, cy_M_fromOf⟩
theorem cy_M_toOf : okCY false 1 m_M_toOf := ⟨tw_t7 151 (by decide +kernel) rfl, tw_t1 12 (by decide +kernel) rfl, ⟨fun h => (by cases h), fun _ => ⟨tw_t7 150 (by decide +kernel) rfl, tw_p6 4 (q := (⟨"CoachWaitsModel", "toOf", "(I)I"⟩, 40)) (by decide +kernel)⟩⟩, by decide +kernel⟩
theorem ct_M_209 : okCT 11 209 false 1 m_M_toOf := ⟨tw_t7 148 (by decide +kernel) rfl, cy_M_toOf⟩
theorem cy_M_reckons : okCY false 1 m_M_reckons := ⟨tw_t7 163 (by decide +kernel) rfl, tw_t1 12 (by decide +kernel) rfl, ⟨fun h => (by cases h), fun _ => ⟨tw_t7 162 (by decide +kernel) rfl, tw_p6 7 (q := (⟨"CoachWaitsModel", "reckons", "(I)I"⟩, 40)) (by decide +kernel)⟩⟩, by decide +kernel⟩
theorem ct_M_212 : okCT 11 212 false 1 m_M_reckons := ⟨tw_t7 160 (by decide +kernel) rfl, cy_M_reckons⟩
theorem cy_M_kept : okCY true 3 m_M_kept := ⟨tw_t7 171 (by decide +kernel) rfl, tw_t1 12 (by decide +kernel) rfl, ⟨fun _ => tw_t7 170 (by decide +kernel) rfl, fun h => by cases h⟩, by decide +kernel⟩
theorem ct_M_215 : okCT 11 215 true 3 m_M_kept := ⟨tw_t7 169 (by decide +kernel) rfl, cy_M_kept⟩
theorem cy_M_timeOf : okCY false 2 m_M_timeOf := ⟨tw_t7 159 (by decide +kernel) rfl, tw_t1 12 (by decide +kernel) rfl, ⟨fun h => (by cases h), fun _ => ⟨tw_t7 158 (by decide +kernel) rfl, tw_p6 6 (q := (⟨"CoachWaitsModel", "timeOf", "(II)I"⟩, 40)) (by decide +kernel)⟩⟩, by decide +kernel⟩
theorem ct_M_221 : okCT 11 221 false 2 m_M_timeOf := ⟨tw_t7 156 (by decide +kernel) rfl, cy_M_timeOf⟩
theorem cy_M_laysTimes : okCY false 1 m_M_laysTimes := ⟨tw_t7 191 (by decide +kernel) rfl, tw_t1 12 (by decide +kernel) rfl, ⟨fun h => (by cases h), fun _ => ⟨tw_t7 190 (by decide +kernel) rfl, tw_p6 11 (q := (⟨"CoachWaitsModel", "laysTimes", "(I)V"⟩, 40)) (by decide +kernel)⟩⟩, by decide +kernel⟩
theorem ct_M_224 : okCT 11 224 false 1 m_M_laysTimes := ⟨tw_t7 188 (by decide +kernel) rfl, cy_M_laysTimes⟩
theorem cy_M_lagOf : okCY false 1 m_M_lagOf := ⟨tw_t7 155 (by decide +kernel) rfl, tw_t1 12 (by decide +kernel) rfl, ⟨fun h => (by cases h), fun _ => ⟨tw_t7 154 (by decide +kernel) rfl, tw_p6 5 (q := (⟨"CoachWaitsModel", "lagOf", "(I)I"⟩, 40)) (by decide +kernel)⟩⟩, by decide +kernel⟩
theorem ct_M_230 : okCT 11 230 false 1 m_M_lagOf := ⟨tw_t7 152 (by decide +kernel) rfl, cy_M_lagOf⟩
theorem cy_M_isKept : okCY false 2 m_M_isKept := ⟨tw_t7 203 (by decide +kernel) rfl, tw_t1 12 (by decide +kernel) rfl, ⟨fun h => (by cases h), fun _ => ⟨tw_t7 202 (by decide +kernel) rfl, tw_p6 14 (q := (⟨"CoachWaitsModel", "isKept", "(II)Z"⟩, 40)) (by decide +kernel)⟩⟩, by decide +kernel⟩
theorem ct_M_233 : okCT 11 233 false 2 m_M_isKept := ⟨tw_t7 200 (by decide +kernel) rfl, cy_M_isKept⟩
theorem cy_M_lateIn : okCY false 3 m_M_lateIn := ⟨tw_t7 199 (by decide +kernel) rfl, tw_t1 12 (by decide +kernel) rfl, ⟨fun h => (by cases h), fun _ => ⟨tw_t7 198 (by decide +kernel) rfl, tw_p6 13 (q := (⟨"CoachWaitsModel", "lateIn", "(III)I"⟩, 40)) (by decide +kernel)⟩⟩, by decide +kernel⟩
theorem ct_M_238 : okCT 11 238 false 3 m_M_lateIn := ⟨tw_t7 196 (by decide +kernel) rfl, cy_M_lateIn⟩
theorem cy_M_lateAt : okCY false 2 m_M_lateAt := ⟨tw_t7 208 (by decide +kernel) rfl, tw_t1 12 (by decide +kernel) rfl, ⟨fun h => (by cases h), fun _ => ⟨tw_t7 207 (by decide +kernel) rfl, tw_p6 15 (q := (⟨"CoachWaitsModel", "lateAt", "(II)I"⟩, 40)) (by decide +kernel)⟩⟩, by decide +kernel⟩
theorem ct_M_241 : okCT 11 241 false 2 m_M_lateAt := ⟨tw_t7 205 (by decide +kernel) rfl, cy_M_lateAt⟩
theorem cy_M_begins : okCY false 1 m_M_begins := ⟨tw_t7 187 (by decide +kernel) rfl, tw_t1 12 (by decide +kernel) rfl, ⟨fun h => (by cases h), fun _ => ⟨tw_t7 186 (by decide +kernel) rfl, tw_p6 10 (q := (⟨"CoachWaitsModel", "begins", "(I)V"⟩, 40)) (by decide +kernel)⟩⟩, by decide +kernel⟩
theorem ct_M_244 : okCT 11 244 false 1 m_M_begins := ⟨tw_t7 184 (by decide +kernel) rfl, cy_M_begins⟩
theorem cy_M_goes : okCY false 2 m_M_goes := ⟨tw_t7 195 (by decide +kernel) rfl, tw_t1 12 (by decide +kernel) rfl, ⟨fun h => (by cases h), fun _ => ⟨tw_t7 194 (by decide +kernel) rfl, tw_p6 12 (q := (⟨"CoachWaitsModel", "goes", "(II)V"⟩, 40)) (by decide +kernel)⟩⟩, by decide +kernel⟩
theorem ct_M_247 : okCT 11 247 false 2 m_M_goes := ⟨tw_t7 192 (by decide +kernel) rfl, cy_M_goes⟩
theorem cy_M_isCoach : okCY false 1 m_M_isCoach := ⟨tw_t7 135 (by decide +kernel) rfl, tw_t1 12 (by decide +kernel) rfl, ⟨fun h => (by cases h), fun _ => ⟨tw_t7 134 (by decide +kernel) rfl, tw_p6 1 (q := (⟨"CoachWaitsModel", "isCoach", "(J)Z"⟩, 40)) (by decide +kernel)⟩⟩, by decide +kernel⟩
theorem ct_M_251 : okCT 11 251 false 1 m_M_isCoach := ⟨tw_t7 132 (by decide +kernel) rfl, cy_M_isCoach⟩
theorem cy_M_isWait : okCY false 1 m_M_isWait := ⟨tw_t7 143 (by decide +kernel) rfl, tw_t1 12 (by decide +kernel) rfl, ⟨fun h => (by cases h), fun _ => ⟨tw_t7 142 (by decide +kernel) rfl, tw_p6 2 (q := (⟨"CoachWaitsModel", "isWait", "(I)Z"⟩, 40)) (by decide +kernel)⟩⟩, by decide +kernel⟩
theorem ct_M_255 : okCT 11 255 false 1 m_M_isWait := ⟨tw_t7 140 (by decide +kernel) rfl, cy_M_isWait⟩
theorem cy_M_isRound : okCY false 1 m_M_isRound := ⟨tw_t7 183 (by decide +kernel) rfl, tw_t1 12 (by decide +kernel) rfl, ⟨fun h => (by cases h), fun _ => ⟨tw_t7 182 (by decide +kernel) rfl, tw_p6 9 (q := (⟨"CoachWaitsModel", "isRound", "(J)Z"⟩, 40)) (by decide +kernel)⟩⟩, by decide +kernel⟩
theorem ct_M_258 : okCT 11 258 false 1 m_M_isRound := ⟨tw_t7 180 (by decide +kernel) rfl, cy_M_isRound⟩
theorem cy_M_noRound : okCY false 2 m_M_noRound := ⟨tw_t7 179 (by decide +kernel) rfl, tw_t1 12 (by decide +kernel) rfl, ⟨fun h => (by cases h), fun _ => ⟨tw_t7 178 (by decide +kernel) rfl, tw_p6 8 (q := (⟨"CoachWaitsModel", "noRound", "(II)I"⟩, 40)) (by decide +kernel)⟩⟩, by decide +kernel⟩
theorem ct_M_261 : okCT 11 261 false 2 m_M_noRound := ⟨tw_t7 176 (by decide +kernel) rfl, cy_M_noRound⟩
theorem cy_M_stores : okCY false 0 m_M_stores := ⟨tw_t7 220 (by decide +kernel) rfl, tw_t1 12 (by decide +kernel) rfl, ⟨fun h => (by cases h), fun _ => ⟨tw_t7 219 (by decide +kernel) rfl, tw_p7 0 (q := (⟨"CoachWaitsModel", "stores", "()V"⟩, 40)) (by decide +kernel)⟩⟩, by decide +kernel⟩
theorem ct_M_264 : okCT 11 264 false 0 m_M_stores := ⟨tw_t7 217 (by decide +kernel) rfl, cy_M_stores⟩
theorem cy_M_goesRound : okCY false 1 m_M_goesRound := ⟨tw_t7 224 (by decide +kernel) rfl, tw_t1 12 (by decide +kernel) rfl, ⟨fun h => (by cases h), fun _ => ⟨tw_t7 223 (by decide +kernel) rfl, tw_p7 1 (q := (⟨"CoachWaitsModel", "goesRound", "(I)V"⟩, 40)) (by decide +kernel)⟩⟩, by decide +kernel⟩
theorem ct_M_267 : okCT 11 267 false 1 m_M_goesRound := ⟨tw_t7 221 (by decide +kernel) rfl, cy_M_goesRound⟩
theorem cy_M_notes : okCY false 0 m_M_notes := ⟨tw_t7 228 (by decide +kernel) rfl, tw_t1 12 (by decide +kernel) rfl, ⟨fun h => (by cases h), fun _ => ⟨tw_t7 227 (by decide +kernel) rfl, tw_p7 2 (q := (⟨"CoachWaitsModel", "notes", "()V"⟩, 40)) (by decide +kernel)⟩⟩, by decide +kernel⟩
theorem ct_M_270 : okCT 11 270 false 0 m_M_notes := ⟨tw_t7 225 (by decide +kernel) rfl, cy_M_notes⟩
theorem cy_M_whoNow : okCY false 0 m_M_whoNow := ⟨tw_t7 232 (by decide +kernel) rfl, tw_t1 12 (by decide +kernel) rfl, ⟨fun h => (by cases h), fun _ => ⟨tw_t7 231 (by decide +kernel) rfl, tw_p7 3 (q := (⟨"CoachWaitsModel", "whoNow", "()I"⟩, 40)) (by decide +kernel)⟩⟩, by decide +kernel⟩
theorem ct_M_273 : okCT 11 273 false 0 m_M_whoNow := ⟨tw_t7 229 (by decide +kernel) rfl, cy_M_whoNow⟩
theorem cy_M_bitsOf : okCY true 1 m_M_bitsOf := ⟨tw_t7 235 (by decide +kernel) rfl, tw_t1 12 (by decide +kernel) rfl, ⟨fun _ => tw_t7 234 (by decide +kernel) rfl, fun h => by cases h⟩, by decide +kernel⟩
theorem ct_M_276 : okCT 11 276 true 1 m_M_bitsOf := ⟨tw_t7 233 (by decide +kernel) rfl, cy_M_bitsOf⟩
theorem cy_M_whyNot : okCY false 1 m_M_whyNot := ⟨tw_t8 31 (by decide +kernel) rfl, tw_t1 12 (by decide +kernel) rfl, ⟨fun h => (by cases h), fun _ => ⟨tw_t8 30 (by decide +kernel) rfl, tw_p7 6 (q := (⟨"CoachWaitsModel", "whyNot", "(J)I"⟩, 40)) (by decide +kernel)⟩⟩, by decide +kernel⟩
theorem ct_M_296 : okCT 11 296 false 1 m_M_whyNot := ⟨tw_t8 28 (by decide +kernel) rfl, cy_M_whyNot⟩
theorem cy_M_does : okCY false 1 m_M_does := ⟨tw_t8 39 (by decide +kernel) rfl, tw_t1 12 (by decide +kernel) rfl, ⟨fun h => (by cases h), fun _ => ⟨tw_t8 38 (by decide +kernel) rfl, tw_p7 7 (q := (⟨"CoachWaitsModel", "does", "(I)V"⟩, 40)) (by decide +kernel)⟩⟩, by decide +kernel⟩
theorem ct_M_300 : okCT 11 300 false 1 m_M_does := ⟨tw_t8 36 (by decide +kernel) rfl, cy_M_does⟩
theorem cy_M_noTray : okCY false 1 m_M_noTray := ⟨tw_t8 23 (by decide +kernel) rfl, tw_t1 12 (by decide +kernel) rfl, ⟨fun h => (by cases h), fun _ => ⟨tw_t8 22 (by decide +kernel) rfl, tw_p7 4 (q := (⟨"CoachWaitsModel", "noTray", "(I)I"⟩, 40)) (by decide +kernel)⟩⟩, by decide +kernel⟩
theorem ct_M_305 : okCT 11 305 false 1 m_M_noTray := ⟨tw_t8 20 (by decide +kernel) rfl, cy_M_noTray⟩
theorem cy_M_tells : okCY false 1 m_M_tells := ⟨tw_t8 27 (by decide +kernel) rfl, tw_t1 12 (by decide +kernel) rfl, ⟨fun h => (by cases h), fun _ => ⟨tw_t8 26 (by decide +kernel) rfl, tw_p7 5 (q := (⟨"CoachWaitsModel", "tells", "(I)I"⟩, 40)) (by decide +kernel)⟩⟩, by decide +kernel⟩
theorem ct_M_308 : okCT 11 308 false 1 m_M_tells := ⟨tw_t8 24 (by decide +kernel) rfl, cy_M_tells⟩
theorem cy_M_sumNow : okCY false 0 m_M_sumNow := ⟨tw_t8 43 (by decide +kernel) rfl, tw_t1 12 (by decide +kernel) rfl, ⟨fun h => (by cases h), fun _ => ⟨tw_t8 42 (by decide +kernel) rfl, tw_p7 8 (q := (⟨"CoachWaitsModel", "sumNow", "()I"⟩, 40)) (by decide +kernel)⟩⟩, by decide +kernel⟩
theorem ct_M_311 : okCT 11 311 false 0 m_M_sumNow := ⟨tw_t8 40 (by decide +kernel) rfl, cy_M_sumNow⟩
theorem cy_M_isAgain : okCY false 0 m_M_isAgain := ⟨tw_t8 47 (by decide +kernel) rfl, tw_t1 12 (by decide +kernel) rfl, ⟨fun h => (by cases h), fun _ => ⟨tw_t8 46 (by decide +kernel) rfl, tw_p7 9 (q := (⟨"CoachWaitsModel", "isAgain", "()V"⟩, 40)) (by decide +kernel)⟩⟩, by decide +kernel⟩
theorem ct_M_314 : okCT 11 314 false 0 m_M_isAgain := ⟨tw_t8 44 (by decide +kernel) rfl, cy_M_isAgain⟩
theorem cy_M_draw : okCY false 1 m_M_draw := ⟨tw_t8 64 (by decide +kernel) rfl, tw_t1 12 (by decide +kernel) rfl, ⟨fun h => (by cases h), fun _ => ⟨tw_t8 63 (by decide +kernel) rfl, tw_p7 11 (q := (⟨"CoachWaitsModel", "draw", "(I)I"⟩, 40)) (by decide +kernel)⟩⟩, by decide +kernel⟩
theorem ct_M_321 : okCT 11 321 false 1 m_M_draw := ⟨tw_t8 61 (by decide +kernel) rfl, cy_M_draw⟩
theorem cy_M_drawn : okCY false 0 m_M_drawn := ⟨tw_t8 60 (by decide +kernel) rfl, tw_t1 12 (by decide +kernel) rfl, ⟨fun h => (by cases h), fun _ => ⟨tw_t8 59 (by decide +kernel) rfl, tw_p7 10 (q := (⟨"CoachWaitsModel", "drawn", "()I"⟩, 40)) (by decide +kernel)⟩⟩, by decide +kernel⟩
theorem ct_M_326 : okCT 11 326 false 0 m_M_drawn := ⟨tw_t8 57 (by decide +kernel) rfl, cy_M_drawn⟩
theorem cy_M_goesFor : okCY false 1 m_M_goesFor := ⟨tw_t8 74 (by decide +kernel) rfl, tw_t1 12 (by decide +kernel) rfl, ⟨fun h => (by cases h), fun _ => ⟨tw_t8 73 (by decide +kernel) rfl, tw_p7 12 (q := (⟨"CoachWaitsModel", "goesFor", "(I)V"⟩, 40)) (by decide +kernel)⟩⟩, by decide +kernel⟩
theorem ct_M_331 : okCT 11 331 false 1 m_M_goesFor := ⟨tw_t8 71 (by decide +kernel) rfl, cy_M_goesFor⟩
theorem cy_M_whoIn : okCY false 1 m_M_whoIn := ⟨tw_t8 90 (by decide +kernel) rfl, tw_t1 12 (by decide +kernel) rfl, ⟨fun h => (by cases h), fun _ => ⟨tw_t8 89 (by decide +kernel) rfl, tw_p7 14 (q := (⟨"CoachWaitsModel", "whoIn", "(I)I"⟩, 40)) (by decide +kernel)⟩⟩, by decide +kernel⟩
theorem ct_M_334 : okCT 11 334 false 1 m_M_whoIn := ⟨tw_t8 87 (by decide +kernel) rfl, cy_M_whoIn⟩
theorem cy_M_isCalm : okCY false 1 m_M_isCalm := ⟨tw_t8 86 (by decide +kernel) rfl, tw_t1 12 (by decide +kernel) rfl, ⟨fun h => (by cases h), fun _ => ⟨tw_t8 85 (by decide +kernel) rfl, tw_p7 13 (q := (⟨"CoachWaitsModel", "isCalm", "(I)Z"⟩, 40)) (by decide +kernel)⟩⟩, by decide +kernel⟩
theorem ct_M_337 : okCT 11 337 false 1 m_M_isCalm := ⟨tw_t8 83 (by decide +kernel) rfl, cy_M_isCalm⟩
theorem cy_M_isIn : okCY true 2 m_M_isIn := ⟨tw_t8 105 (by decide +kernel) rfl, tw_t1 12 (by decide +kernel) rfl, ⟨fun _ => tw_t8 104 (by decide +kernel) rfl, fun h => by cases h⟩, by decide +kernel⟩
theorem ct_M_346 : okCT 11 346 true 2 m_M_isIn := ⟨tw_t8 103 (by decide +kernel) rfl, cy_M_isIn⟩
theorem cy_M_onBy : okCY false 2 m_M_onBy := ⟨tw_t8 109 (by decide +kernel) rfl, tw_t1 12 (by decide +kernel) rfl, ⟨fun h => (by cases h), fun _ => ⟨tw_t8 108 (by decide +kernel) rfl, tw_p8 1 (q := (⟨"CoachWaitsModel", "onBy", "(II)I"⟩, 40)) (by decide +kernel)⟩⟩, by decide +kernel⟩
theorem ct_M_350 : okCT 11 350 false 2 m_M_onBy := ⟨tw_t8 106 (by decide +kernel) rfl, cy_M_onBy⟩
theorem cy_M_isRing : okCY false 1 m_M_isRing := ⟨tw_t8 102 (by decide +kernel) rfl, tw_t1 12 (by decide +kernel) rfl, ⟨fun h => (by cases h), fun _ => ⟨tw_t8 101 (by decide +kernel) rfl, tw_p8 0 (q := (⟨"CoachWaitsModel", "isRing", "(I)Z"⟩, 40)) (by decide +kernel)⟩⟩, by decide +kernel⟩
theorem ct_M_365 : okCT 11 365 false 1 m_M_isRing := ⟨tw_t8 99 (by decide +kernel) rfl, cy_M_isRing⟩
theorem cy_M_common : okCY true 2 m_M_common := ⟨tw_t8 112 (by decide +kernel) rfl, tw_t1 12 (by decide +kernel) rfl, ⟨fun _ => tw_t8 111 (by decide +kernel) rfl, fun h => by cases h⟩, by decide +kernel⟩
theorem ct_M_368 : okCT 11 368 true 2 m_M_common := ⟨tw_t8 110 (by decide +kernel) rfl, cy_M_common⟩
theorem cy_M_laysSlow : okCY false 1 m_M_laysSlow := ⟨tw_t8 98 (by decide +kernel) rfl, tw_t1 12 (by decide +kernel) rfl, ⟨fun h => (by cases h), fun _ => ⟨tw_t8 97 (by decide +kernel) rfl, tw_p7 15 (q := (⟨"CoachWaitsModel", "laysSlow", "(I)V"⟩, 40)) (by decide +kernel)⟩⟩, by decide +kernel⟩
theorem ct_M_371 : okCT 11 371 false 1 m_M_laysSlow := ⟨tw_t8 95 (by decide +kernel) rfl, cy_M_laysSlow⟩
theorem cy_M_laysHours : okCY false 2 m_M_laysHours := ⟨tw_t8 132 (by decide +kernel) rfl, tw_t1 12 (by decide +kernel) rfl, ⟨fun h => (by cases h), fun _ => ⟨tw_t8 131 (by decide +kernel) rfl, tw_p8 2 (q := (⟨"CoachWaitsModel", "laysHours", "(II)Z"⟩, 40)) (by decide +kernel)⟩⟩, by decide +kernel⟩
theorem ct_M_374 : okCT 11 374 false 2 m_M_laysHours := ⟨tw_t8 129 (by decide +kernel) rfl, cy_M_laysHours⟩
theorem cy_M_laysSpread : okCY false 2 m_M_laysSpread := ⟨tw_t8 154 (by decide +kernel) rfl, tw_t1 12 (by decide +kernel) rfl, ⟨fun h => (by cases h), fun _ => ⟨tw_t8 153 (by decide +kernel) rfl, tw_p8 3 (q := (⟨"CoachWaitsModel", "laysSpread", "(II)V"⟩, 40)) (by decide +kernel)⟩⟩, by decide +kernel⟩
theorem ct_M_379 : okCT 11 379 false 2 m_M_laysSpread := ⟨tw_t8 151 (by decide +kernel) rfl, cy_M_laysSpread⟩
theorem cy_M_sumIn : okCY false 1 m_M_sumIn := ⟨tw_t8 158 (by decide +kernel) rfl, tw_t1 12 (by decide +kernel) rfl, ⟨fun h => (by cases h), fun _ => ⟨tw_t8 157 (by decide +kernel) rfl, tw_p8 4 (q := (⟨"CoachWaitsModel", "sumIn", "(I)I"⟩, 40)) (by decide +kernel)⟩⟩, by decide +kernel⟩
theorem ct_M_382 : okCT 11 382 false 1 m_M_sumIn := ⟨tw_t8 155 (by decide +kernel) rfl, cy_M_sumIn⟩
theorem cy_M_finds : okCY false 2 m_M_finds := ⟨tw_t8 174 (by decide +kernel) rfl, tw_t1 12 (by decide +kernel) rfl, ⟨fun h => (by cases h), fun _ => ⟨tw_t8 173 (by decide +kernel) rfl, tw_p8 6 (q := (⟨"CoachWaitsModel", "finds", "(II)Z"⟩, 40)) (by decide +kernel)⟩⟩, by decide +kernel⟩
theorem ct_M_385 : okCT 11 385 false 2 m_M_finds := ⟨tw_t8 171 (by decide +kernel) rfl, cy_M_finds⟩
theorem cy_M_laysFound : okCY false 0 m_M_laysFound := ⟨tw_t8 170 (by decide +kernel) rfl, tw_t1 12 (by decide +kernel) rfl, ⟨fun h => (by cases h), fun _ => ⟨tw_t8 169 (by decide +kernel) rfl, tw_p8 5 (q := (⟨"CoachWaitsModel", "laysFound", "()I"⟩, 40)) (by decide +kernel)⟩⟩, by decide +kernel⟩
theorem ct_M_388 : okCT 11 388 false 0 m_M_laysFound := ⟨tw_t8 167 (by decide +kernel) rfl, cy_M_laysFound⟩
theorem cy_M_rowsFrom : okCY false 3 m_M_rowsFrom := ⟨tw_t8 187 (by decide +kernel) rfl, tw_t1 12 (by decide +kernel) rfl, ⟨fun h => (by cases h), fun _ => ⟨tw_t8 186 (by decide +kernel) rfl, tw_p8 7 (q := (⟨"CoachWaitsModel", "rowsFrom", "(III)I"⟩, 40)) (by decide +kernel)⟩⟩, by decide +kernel⟩
theorem ct_M_391 : okCT 11 391 false 3 m_M_rowsFrom := ⟨tw_t8 184 (by decide +kernel) rfl, cy_M_rowsFrom⟩
theorem cy_M_noSeen : okCY false 2 m_M_noSeen := ⟨tw_t8 195 (by decide +kernel) rfl, tw_t1 12 (by decide +kernel) rfl, ⟨fun h => (by cases h), fun _ => ⟨tw_t8 194 (by decide +kernel) rfl, tw_p8 8 (q := (⟨"CoachWaitsModel", "noSeen", "(II)I"⟩, 40)) (by decide +kernel)⟩⟩, by decide +kernel⟩
theorem ct_M_398 : okCT 11 398 false 2 m_M_noSeen := ⟨tw_t8 192 (by decide +kernel) rfl, cy_M_noSeen⟩
theorem cy_M_mudsOf : okCY false 2 m_M_mudsOf := ⟨tw_t8 200 (by decide +kernel) rfl, tw_t1 12 (by decide +kernel) rfl, ⟨fun h => (by cases h), fun _ => ⟨tw_t8 199 (by decide +kernel) rfl, tw_p8 9 (q := (⟨"CoachWaitsModel", "mudsOf", "(II)I"⟩, 40)) (by decide +kernel)⟩⟩, by decide +kernel⟩
theorem ct_M_401 : okCT 11 401 false 2 m_M_mudsOf := ⟨tw_t8 197 (by decide +kernel) rfl, cy_M_mudsOf⟩
theorem cy_M_mostAlike : okCY false 2 m_M_mostAlike := ⟨tw_t8 208 (by decide +kernel) rfl, tw_t1 12 (by decide +kernel) rfl, ⟨fun h => (by cases h), fun _ => ⟨tw_t8 207 (by decide +kernel) rfl, tw_p8 10 (q := (⟨"CoachWaitsModel", "mostAlike", "(II)I"⟩, 40)) (by decide +kernel)⟩⟩, by decide +kernel⟩
theorem ct_M_404 : okCT 11 404 false 2 m_M_mostAlike := ⟨tw_t8 205 (by decide +kernel) rfl, cy_M_mostAlike⟩
theorem cy_M_goesLots : okCY false 5 m_M_goesLots := ⟨tw_t8 220 (by decide +kernel) rfl, tw_t1 12 (by decide +kernel) rfl, ⟨fun h => (by cases h), fun _ => ⟨tw_t8 219 (by decide +kernel) rfl, tw_p8 12 (q := (⟨"CoachWaitsModel", "goesLots", "(IIIIJ)V"⟩, 40)) (by decide +kernel)⟩⟩, by decide +kernel⟩
theorem ct_M_414 : okCT 11 414 false 5 m_M_goesLots := ⟨tw_t8 217 (by decide +kernel) rfl, cy_M_goesLots⟩
theorem cy_M_commonOf : okCY true 2 m_M_commonOf := ⟨tw_t8 229 (by decide +kernel) rfl, tw_t1 12 (by decide +kernel) rfl, ⟨fun _ => tw_t8 228 (by decide +kernel) rfl, fun h => by cases h⟩, by decide +kernel⟩
theorem ct_M_418 : okCT 11 418 true 2 m_M_commonOf := ⟨tw_t8 227 (by decide +kernel) rfl, cy_M_commonOf⟩
theorem cy_M_laysLots : okCY false 3 m_M_laysLots := ⟨tw_t8 216 (by decide +kernel) rfl, tw_t1 12 (by decide +kernel) rfl, ⟨fun h => (by cases h), fun _ => ⟨tw_t8 215 (by decide +kernel) rfl, tw_p8 11 (q := (⟨"CoachWaitsModel", "laysLots", "(III)V"⟩, 40)) (by decide +kernel)⟩⟩, by decide +kernel⟩
theorem ct_M_422 : okCT 11 422 false 3 m_M_laysLots := ⟨tw_t8 213 (by decide +kernel) rfl, cy_M_laysLots⟩
theorem cy_M_wholeOf : okCY true 1 m_M_wholeOf := ⟨tw_t8 223 (by decide +kernel) rfl, tw_t1 12 (by decide +kernel) rfl, ⟨fun _ => tw_t8 222 (by decide +kernel) rfl, fun h => by cases h⟩, by decide +kernel⟩
theorem ct_M_426 : okCT 11 426 true 1 m_M_wholeOf := ⟨tw_t8 221 (by decide +kernel) rfl, cy_M_wholeOf⟩
theorem cy_M_part : okCY true 3 m_M_part := ⟨tw_t8 226 (by decide +kernel) rfl, tw_t1 12 (by decide +kernel) rfl, ⟨fun _ => tw_t8 225 (by decide +kernel) rfl, fun h => by cases h⟩, by decide +kernel⟩
theorem ct_M_430 : okCT 11 430 true 3 m_M_part := ⟨tw_t8 224 (by decide +kernel) rfl, cy_M_part⟩
theorem cy_M_cut : okCY true 2 m_M_cut := ⟨tw_t9 7 (by decide +kernel) rfl, tw_t1 12 (by decide +kernel) rfl, ⟨fun _ => tw_t9 6 (by decide +kernel) rfl, fun h => by cases h⟩, by decide +kernel⟩
theorem ct_M_440 : okCT 11 440 true 2 m_M_cut := ⟨tw_t9 5 (by decide +kernel) rfl, cy_M_cut⟩
theorem cy_Str_coder : okCY false 0 m_Str_coder := ⟨tw_t2 215 (by decide +kernel) rfl, tw_t1 14 (by decide +kernel) rfl, ⟨fun h => (by cases h), fun _ => ⟨tw_t2 213 (by decide +kernel) rfl, tw_t2 214 (by decide +kernel) rfl⟩⟩, by decide +kernel⟩
theorem ct_Str_335 : okCT 20 335 false 0 m_Str_coder := ⟨tw_t2 212 (by decide +kernel) rfl, cy_Str_coder⟩
theorem cy_Str_isLatin1 : okCY false 0 m_Str_isLatin1 := ⟨tw_t2 205 (by decide +kernel) rfl, tw_t1 14 (by decide +kernel) rfl, ⟨fun h => (by cases h), fun _ => ⟨tw_t2 203 (by decide +kernel) rfl, tw_t2 204 (by decide +kernel) rfl⟩⟩, by decide +kernel⟩
theorem ct_Str_492 : okCT 20 492 false 0 m_Str_isLatin1 := ⟨tw_t2 202 (by decide +kernel) rfl, cy_Str_isLatin1⟩
theorem cy_Lat_charAt : okCY true 2 m_Lat_charAt := ⟨tw_t3 60 (by decide +kernel) rfl, tw_t1 15 (by decide +kernel) rfl, ⟨fun _ => tw_t3 59 (by decide +kernel) rfl, fun h => by cases h⟩, by decide +kernel⟩
theorem ct_Str_495 : okCT 20 495 true 2 m_Lat_charAt := ⟨tw_t3 58 (by decide +kernel) rfl, cy_Lat_charAt⟩
theorem ct_Str_505 : okCT 20 505 false 0 m_Str_length := ⟨tw_t2 208 (by decide +kernel) rfl, cy_Str_length⟩
theorem cy_Str_indexOf_II : okCY false 2 m_Str_indexOf_II := ⟨tw_t2 201 (by decide +kernel) rfl, tw_t1 14 (by decide +kernel) rfl, ⟨fun h => (by cases h), fun _ => ⟨tw_t2 199 (by decide +kernel) rfl, tw_t2 200 (by decide +kernel) rfl⟩⟩, by decide +kernel⟩
theorem ct_Str_633 : okCT 20 633 false 2 m_Str_indexOf_II := ⟨tw_t2 198 (by decide +kernel) rfl, cy_Str_indexOf_II⟩
theorem cy_Lat_indexOf : okCY true 4 m_Lat_indexOf := ⟨tw_t2 218 (by decide +kernel) rfl, tw_t1 15 (by decide +kernel) rfl, ⟨fun _ => tw_t2 217 (by decide +kernel) rfl, fun h => by cases h⟩, by decide +kernel⟩
theorem ct_Str_637 : okCT 20 637 true 4 m_Lat_indexOf := ⟨tw_t2 216 (by decide +kernel) rfl, cy_Lat_indexOf⟩
theorem cy_Pre_checkIndex : okCY true 3 m_Pre_checkIndex := ⟨tw_t3 66 (by decide +kernel) rfl, tw_t1 17 (by decide +kernel) rfl, ⟨fun _ => tw_t3 65 (by decide +kernel) rfl, fun h => by cases h⟩, by decide +kernel⟩
theorem ct_Str_1059 : okCT 20 1059 true 3 m_Pre_checkIndex := ⟨tw_t3 64 (by decide +kernel) rfl, cy_Pre_checkIndex⟩
theorem cy_Pre_checkFromToIndex : okCY true 4 m_Pre_checkFromToIndex := ⟨tw_t3 9 (by decide +kernel) rfl, tw_t1 17 (by decide +kernel) rfl, ⟨fun _ => tw_t3 8 (by decide +kernel) rfl, fun h => by cases h⟩, by decide +kernel⟩
theorem ct_Str_1062 : okCT 20 1062 true 4 m_Pre_checkFromToIndex := ⟨tw_t3 7 (by decide +kernel) rfl, cy_Pre_checkFromToIndex⟩
theorem cy_Str_checkIndex : okCY true 2 m_Str_checkIndex := ⟨tw_t3 63 (by decide +kernel) rfl, tw_t1 14 (by decide +kernel) rfl, ⟨fun _ => tw_t3 62 (by decide +kernel) rfl, fun h => by cases h⟩, by decide +kernel⟩
theorem ct_Lat_9 : okCT 21 9 true 2 m_Str_checkIndex := ⟨tw_t3 61 (by decide +kernel) rfl, cy_Str_checkIndex⟩
theorem ct_Lat_38 : okCT 21 38 true 2 m_Math_min_II := ⟨tw_t2 223 (by decide +kernel) rfl, cy_Math_min_II⟩
theorem cy_Lat_canEncode : okCY true 1 m_Lat_canEncode := ⟨tw_t2 221 (by decide +kernel) rfl, tw_t1 15 (by decide +kernel) rfl, ⟨fun _ => tw_t2 220 (by decide +kernel) rfl, fun h => by cases h⟩, by decide +kernel⟩
theorem ct_Lat_88 : okCT 21 88 true 1 m_Lat_canEncode := ⟨tw_t2 219 (by decide +kernel) rfl, cy_Lat_canEncode⟩
theorem ct_Lat_92 : okCT 21 92 true 2 m_Math_max_II := ⟨tw_t2 222 (by decide +kernel) rfl, cy_Math_max_II⟩
theorem cy_Lat_indexOfChar : okCY true 4 m_Lat_indexOfChar := ⟨tw_t2 226 (by decide +kernel) rfl, tw_t1 15 (by decide +kernel) rfl, ⟨fun _ => tw_t2 225 (by decide +kernel) rfl, fun h => by cases h⟩, by decide +kernel⟩
theorem ct_Lat_95 : okCT 21 95 true 4 m_Lat_indexOfChar := ⟨tw_t2 224 (by decide +kernel) rfl, cy_Lat_indexOfChar⟩
def CI (d : Nat) (y : MTy) (a : List MV) (I : MI) (L : ML) (K : Int32 → MI → ML → Prop) : Prop := CC d y a I L (fun r I' L' => ∃ x, r = some (vI x) ∧ K x I' L')
def CJ (d : Nat) (y : MTy) (a : List MV) (I : MI) (L : ML) (K : Int64 → MI → ML → Prop) : Prop := CC d y a I L (fun r I' L' => ∃ x, r = some (vL x) ∧ K x I' L')
def CV (d : Nat) (y : MTy) (a : List MV) (I : MI) (L : ML) (K : MI → ML → Prop) : Prop := CC d y a I L (fun r I' L' => r = none ∧ K I' L')
def CA (d : Nat) (y : MTy) (a : List MV) (I : MI) (L : ML) (rr : Nat) (K0 : MI → ML → Prop) (K : Nat → MI → ML → Prop) : Prop := CC d y a I L (fun r I' L' => (r = some vN ∧ K0 I' L') ∨ ∃ i, r = some (vR rr i) ∧ K i I' L')
theorem CI_le {d d' : Nat} (hd : d ≤ d') {y : MTy} {a : List MV} {I : MI} {L : ML} {K : Int32 → MI → ML → Prop} (h : CI d y a I L K) : CI d' y a I L K := CC_le hd h
theorem CJ_le {d d' : Nat} (hd : d ≤ d') {y : MTy} {a : List MV} {I : MI} {L : ML} {K : Int64 → MI → ML → Prop} (h : CJ d y a I L K) : CJ d' y a I L K := CC_le hd h
theorem CV_le {d d' : Nat} (hd : d ≤ d') {y : MTy} {a : List MV} {I : MI} {L : ML} {K : MI → ML → Prop} (h : CV d y a I L K) : CV d' y a I L K := CC_le hd h
theorem CA_le {d d' : Nat} (hd : d ≤ d') {y : MTy} {a : List MV} {I : MI} {L : ML} {rr : Nat} {K0 : MI → ML → Prop} {K : Nat → MI → ML → Prop} (h : CA d y a I L rr K0 K) : CA d' y a I L rr K0 K := CC_le hd h
theorem CI_post {d : Nat} {y : MTy} {a : List MV} {I : MI} {L : ML} {K K' : Int32 → MI → ML → Prop} (h : CI d y a I L K) (hk : ∀ x I L, K x I L → K' x I L) : CI d y a I L K' := CC_post h (fun r I L ⟨x, e, q⟩ => ⟨x, e, hk x I L q⟩)
theorem CJ_post {d : Nat} {y : MTy} {a : List MV} {I : MI} {L : ML} {K K' : Int64 → MI → ML → Prop} (h : CJ d y a I L K) (hk : ∀ x I L, K x I L → K' x I L) : CJ d y a I L K' := CC_post h (fun r I L ⟨x, e, q⟩ => ⟨x, e, hk x I L q⟩)
theorem CV_post {d : Nat} {y : MTy} {a : List MV} {I : MI} {L : ML} {K K' : MI → ML → Prop} (h : CV d y a I L K) (hk : ∀ I L, K I L → K' I L) : CV d y a I L K' := CC_post h (fun r I L ⟨e, q⟩ => ⟨e, hk I L q⟩)
theorem sw_eq {x c : Int32} {k : Int} (h : x.toInt = k) (hc : c.toInt = k) : x = c := Int32.toInt_inj.mp (h.trans hc.symm)
theorem sw_ne {x c : Int32} {k : Int} (h : x.toInt ≠ k) (hc : c.toInt = k) : ¬ x = c := fun e => h (by rw [e]; exact hc)
