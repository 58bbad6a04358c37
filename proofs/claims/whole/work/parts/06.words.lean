/-! ===== WORDS BY THEIR PLACES, METHODS, SHAPES ===== -/
theorem tw_native : Cond.native arraycopyName ∈ mTb := mTm 448 (by decide +kernel) (by decide +kernel)
theorem tw_acst : Cond.static arraycopyName ∈ mTb := mTm 447 (by decide +kernel) (by decide +kernel)
theorem tw_sysi : (Jvm.Cond.initialized "java/lang/System") ∈ mTb := mTm 14 (by decide +kernel) (by decide +kernel)
theorem ti_1 : (Jvm.Cond.initialized "NeverBelieved") ∈ mTb := mTm 1 (by decide +kernel) (by decide +kernel)
theorem ti_5 : (Jvm.Cond.initialized "NeverBelieved$Bets") ∈ mTb := mTm 5 (by decide +kernel) (by decide +kernel)
theorem ti_2 : (Jvm.Cond.initialized "NeverBelieved$City") ∈ mTb := mTm 2 (by decide +kernel) (by decide +kernel)
theorem ti_4 : (Jvm.Cond.initialized "NeverBelieved$Days") ∈ mTb := mTm 4 (by decide +kernel) (by decide +kernel)
theorem ti_6 : (Jvm.Cond.initialized "NeverBelieved$Foresight") ∈ mTb := mTm 6 (by decide +kernel) (by decide +kernel)
theorem ti_15 : (Jvm.Cond.initialized "NeverBelieved$Minds") ∈ mTb := mTm 15 (by decide +kernel) (by decide +kernel)
theorem ti_3 : (Jvm.Cond.initialized "NeverBelieved$Scroll") ∈ mTb := mTm 3 (by decide +kernel) (by decide +kernel)
theorem ti_8 : (Jvm.Cond.initialized "NeverBelieved$Seer") ∈ mTb := mTm 8 (by decide +kernel) (by decide +kernel)
theorem ti_7 : (Jvm.Cond.initialized "NeverBelieved$Sentence") ∈ mTb := mTm 7 (by decide +kernel) (by decide +kernel)
theorem ti_0 : (Jvm.Cond.initialized "NeverBelievedLaw") ∈ mTb := mTm 0 (by decide +kernel) (by decide +kernel)
theorem ti_9 : (Jvm.Cond.initialized "NeverBelievedModel") ∈ mTb := mTm 9 (by decide +kernel) (by decide +kernel)
theorem ti_17 : (Jvm.Cond.initialized "java/lang/Integer") ∈ mTb := mTm 17 (by decide +kernel) (by decide +kernel)
theorem ti_16 : (Jvm.Cond.initialized "java/lang/Math") ∈ mTb := mTm 16 (by decide +kernel) (by decide +kernel)
theorem ti_10 : (Jvm.Cond.initialized "java/lang/String") ∈ mTb := mTm 10 (by decide +kernel) (by decide +kernel)
theorem ti_11 : (Jvm.Cond.initialized "java/lang/StringLatin1") ∈ mTb := mTm 11 (by decide +kernel) (by decide +kernel)
theorem ti_13 : (Jvm.Cond.initialized "java/lang/StringUTF16") ∈ mTb := mTm 13 (by decide +kernel) (by decide +kernel)
theorem ti_12 : (Jvm.Cond.initialized "jdk/internal/util/Preconditions") ∈ mTb := mTm 12 (by decide +kernel) (by decide +kernel)
def MJ0_charAt_5068e : mD := (⟨"java/lang/String", "charAt", "(I)C"⟩, prog_14_method_56_code, 2, (some .char), { frames := 4, cells := 0, slots := 0, locals := 85 })
def MJ0_checkIndex_df160 : mD := (⟨"java/lang/String", "checkIndex", "(II)V"⟩, prog_14_method_155_code, 2, none, { frames := 1, cells := 0, slots := 0, locals := 22 })
def MJ0_coder_7d493 : mD := (⟨"java/lang/String", "coder", "()B"⟩, prog_14_method_152_code, 1, (some .byte), { frames := 0, cells := 0, slots := 0, locals := 0 })
def MJ0_isLatin1_aae02 : mD := (⟨"java/lang/String", "isLatin1", "()Z"⟩, prog_14_method_154_code, 1, (some .boolean), { frames := 0, cells := 0, slots := 0, locals := 0 })
def MJ0_length_8abf5 : mD := (⟨"java/lang/String", "length", "()I"⟩, prog_14_method_54_code, 1, (some .int), { frames := 1, cells := 0, slots := 0, locals := 20 })
def MJ1_charAt_3b067 : mD := (⟨"java/lang/StringLatin1", "charAt", "([BI)C"⟩, prog_15_method_2_code, 2, (some .char), { frames := 2, cells := 0, slots := 0, locals := 43 })
def MJ2_charAt_3b067 : mD := (⟨"java/lang/StringUTF16", "charAt", "([BI)C"⟩, prog_16_method_83_code, 2, (some .char), { frames := 3, cells := 0, slots := 0, locals := 64 })
def MJ2_checkIndex_2214a : mD := (⟨"java/lang/StringUTF16", "checkIndex", "(I[B)V"⟩, prog_16_method_91_code, 2, none, { frames := 2, cells := 0, slots := 0, locals := 43 })
def MJ2_getChar_3b067 : mD := (⟨"java/lang/StringUTF16", "getChar", "([BI)C"⟩, prog_16_method_5_code, 2, (some .char), { frames := 1, cells := 0, slots := 0, locals := 20 })
def MJ2_length_9d52b : mD := (⟨"java/lang/StringUTF16", "length", "([B)I"⟩, prog_16_method_6_code, 1, (some .int), { frames := 0, cells := 0, slots := 0, locals := 0 })
def MJ3_checkIndex_8e157 : mD := (⟨"jdk/internal/util/Preconditions", "checkIndex", "(IILjava/util/function/BiFunction;)I"⟩, prog_18_method_11_code, 3, (some .int), { frames := 0, cells := 0, slots := 0, locals := 0 })
def MJ6_bitCount_0f7a4 : mD := (⟨"java/lang/Integer", "bitCount", "(I)I"⟩, prog_12_method_49_code, 1, (some .int), { frames := 0, cells := 0, slots := 0, locals := 0 })
def MJ9_max_7cf53 : mD := (⟨"java/lang/Math", "max", "(II)I"⟩, prog_13_method_65_code, 2, (some .int), { frames := 0, cells := 0, slots := 0, locals := 0 })
def MJ9_min_7cf53 : mD := (⟨"java/lang/Math", "min", "(II)I"⟩, prog_13_method_69_code, 2, (some .int), { frames := 0, cells := 0, slots := 0, locals := 0 })
def MX0_add : mD := (⟨"NeverBelieved$Bets", "add", "(II)Z"⟩, prog_2_method_2_code, 3, (some .boolean), { frames := 0, cells := 0, slots := 0, locals := 0 })
def MX0_choose : mD := (⟨"NeverBelieved$Bets", "choose", "(J)V"⟩, prog_2_method_3_code, 5, none, { frames := 2, cells := 0, slots := 0, locals := 49 })
def MX0_winOf : mD := (⟨"NeverBelieved$Bets", "winOf", "(II)I"⟩, prog_2_method_5_code, 5, (some .int), { frames := 0, cells := 0, slots := 0, locals := 0 })
def MX0_worstOf : mD := (⟨"NeverBelieved$Bets", "worstOf", "(IJ)I"⟩, prog_2_method_4_code, 6, (some .int), { frames := 1, cells := 0, slots := 0, locals := 24 })
def MX1_add : mD := (⟨"NeverBelieved$City", "add", "([I)V"⟩, prog_3_method_5_code, 3, none, { frames := 3, cells := 0, slots := 0, locals := 63 })
def MX1_addCause : mD := (⟨"NeverBelieved$City", "addCause", "([I)V"⟩, prog_3_method_9_code, 2, none, { frames := 2, cells := 0, slots := 0, locals := 40 })
def MX1_addFact : mD := (⟨"NeverBelieved$City", "addFact", "(III)V"⟩, prog_3_method_7_code, 4, none, { frames := 0, cells := 0, slots := 0, locals := 0 })
def MX1_addOne : mD := (⟨"NeverBelieved$City", "addOne", "(I[I)V"⟩, prog_3_method_8_code, 4, none, { frames := 2, cells := 0, slots := 0, locals := 40 })
def MX1_become : mD := (⟨"NeverBelieved$City", "become", "(III)I"⟩, prog_3_method_14_code, 3, (some .int), { frames := 0, cells := 0, slots := 0, locals := 0 })
def MX1_believesHer : mD := (⟨"NeverBelieved$City", "believesHer", "(I)Z"⟩, prog_3_method_10_code, 3, (some .boolean), { frames := 0, cells := 0, slots := 0, locals := 0 })
def MX1_clear : mD := (⟨"NeverBelieved$City", "clear", "()V"⟩, prog_3_method_6_code, 1, none, { frames := 0, cells := 0, slots := 0, locals := 0 })
def MX1_dawn : mD := (⟨"NeverBelieved$City", "dawn", "(II)I"⟩, prog_3_method_13_code, 6, (some .int), { frames := 1, cells := 0, slots := 0, locals := 22 })
def MX1_doers : mD := (⟨"NeverBelieved$City", "doers", "(J)I"⟩, prog_3_method_12_code, 5, (some .int), { frames := 2, cells := 0, slots := 0, locals := 44 })
def MX1_doesDeed : mD := (⟨"NeverBelieved$City", "doesDeed", "(II)Z"⟩, prog_3_method_11_code, 3, (some .boolean), { frames := 1, cells := 0, slots := 0, locals := 22 })
def MX1_everyone : mD := (⟨"NeverBelieved$City", "everyone", "()I"⟩, prog_3_method_4_code, 1, (some .int), { frames := 0, cells := 0, slots := 0, locals := 0 })
def MX1_hasFact : mD := (⟨"NeverBelieved$City", "hasFact", "(I)Z"⟩, prog_3_method_2_code, 2, (some .boolean), { frames := 0, cells := 0, slots := 0, locals := 0 })
def MX1_hasOne : mD := (⟨"NeverBelieved$City", "hasOne", "(I)Z"⟩, prog_3_method_3_code, 2, (some .boolean), { frames := 0, cells := 0, slots := 0, locals := 0 })
def MX1_sumOf : mD := (⟨"NeverBelieved$City", "sumOf", "(I)I"⟩, prog_3_method_15_code, 4, (some .int), { frames := 0, cells := 0, slots := 0, locals := 0 })
def MX2_begin : mD := (⟨"NeverBelieved$Days", "begin", "(I)V"⟩, prog_4_method_2_code, 2, none, { frames := 0, cells := 0, slots := 0, locals := 0 })
def MX2_put : mD := (⟨"NeverBelieved$Days", "put", "(I)V"⟩, prog_4_method_3_code, 2, none, { frames := 0, cells := 0, slots := 0, locals := 0 })
def MX2_remember : mD := (⟨"NeverBelieved$Days", "remember", "()V"⟩, prog_4_method_5_code, 1, none, { frames := 1, cells := 0, slots := 0, locals := 21 })
def MX2_stepBack : mD := (⟨"NeverBelieved$Days", "stepBack", "()Z"⟩, prog_4_method_6_code, 1, (some .boolean), { frames := 1, cells := 0, slots := 0, locals := 21 })
def MX2_take : mD := (⟨"NeverBelieved$Days", "take", "(I)V"⟩, prog_4_method_4_code, 2, none, { frames := 0, cells := 0, slots := 0, locals := 0 })
def MX3_comeTo : mD := (⟨"NeverBelieved$Foresight", "comeTo", "(I)Z"⟩, prog_5_method_3_code, 2, (some .boolean), { frames := 2, cells := 0, slots := 0, locals := 42 })
def MX3_doersIfSaidTo : mD := (⟨"NeverBelieved$Foresight", "doersIfSaidTo", "(I)I"⟩, prog_5_method_5_code, 3, (some .int), { frames := 0, cells := 0, slots := 0, locals := 0 })
def MX3_doesDeedIfTold : mD := (⟨"NeverBelieved$Foresight", "doesDeedIfTold", "(I)Z"⟩, prog_5_method_10_code, 2, (some .boolean), { frames := 0, cells := 0, slots := 0, locals := 0 })
def MX3_isSoSaidTo : mD := (⟨"NeverBelieved$Foresight", "isSoSaidTo", "(I)Z"⟩, prog_5_method_6_code, 2, (some .boolean), { frames := 2, cells := 0, slots := 0, locals := 43 })
def MX3_listen : mD := (⟨"NeverBelieved$Foresight", "listen", "()V"⟩, prog_5_method_4_code, 3, none, { frames := 3, cells := 0, slots := 0, locals := 67 })
def MX3_look : mD := (⟨"NeverBelieved$Foresight", "look", "(IJ)V"⟩, prog_5_method_2_code, 6, none, { frames := 3, cells := 0, slots := 0, locals := 68 })
def MX3_mindsIfSaidTo : mD := (⟨"NeverBelieved$Foresight", "mindsIfSaidTo", "(I)J"⟩, prog_5_method_12_code, 6, (some .long), { frames := 1, cells := 0, slots := 0, locals := 23 })
def MX3_movesIfSaidTo : mD := (⟨"NeverBelieved$Foresight", "movesIfSaidTo", "(I)Z"⟩, prog_5_method_9_code, 2, (some .boolean), { frames := 2, cells := 0, slots := 0, locals := 48 })
def MX3_sumIfHeld : mD := (⟨"NeverBelieved$Foresight", "sumIfHeld", "(J)I"⟩, prog_5_method_11_code, 3, (some .int), { frames := 3, cells := 0, slots := 0, locals := 68 })
def MX3_sumIfSaidTo : mD := (⟨"NeverBelieved$Foresight", "sumIfSaidTo", "(I)I"⟩, prog_5_method_8_code, 2, (some .int), { frames := 1, cells := 0, slots := 0, locals := 22 })
def MX3_truthIfSaidTo : mD := (⟨"NeverBelieved$Foresight", "truthIfSaidTo", "(I)I"⟩, prog_5_method_7_code, 2, (some .int), { frames := 1, cells := 0, slots := 0, locals := 22 })
def MX4_hold : mD := (⟨"NeverBelieved$Minds", "hold", "(III)I"⟩, prog_6_method_5_code, 4, (some .int), { frames := 0, cells := 0, slots := 0, locals := 0 })
def MX4_holds : mD := (⟨"NeverBelieved$Minds", "holds", "(III)Z"⟩, prog_6_method_4_code, 3, (some .boolean), { frames := 0, cells := 0, slots := 0, locals := 0 })
def MX4_mindOf : mD := (⟨"NeverBelieved$Minds", "mindOf", "(JI)I"⟩, prog_6_method_2_code, 3, (some .int), { frames := 0, cells := 0, slots := 0, locals := 0 })
def MX4_thingsBelieved : mD := (⟨"NeverBelieved$Minds", "thingsBelieved", "(J)I"⟩, prog_6_method_7_code, 4, (some .int), { frames := 1, cells := 0, slots := 0, locals := 22 })
def MX4_whoDiffer : mD := (⟨"NeverBelieved$Minds", "whoDiffer", "(JJ)I"⟩, prog_6_method_6_code, 6, (some .int), { frames := 1, cells := 0, slots := 0, locals := 22 })
def MX4_withMind : mD := (⟨"NeverBelieved$Minds", "withMind", "(JII)J"⟩, prog_6_method_3_code, 4, (some .long), { frames := 0, cells := 0, slots := 0, locals := 0 })
def MX5_append : mD := (⟨"NeverBelieved$Scroll", "append", "(I)Z"⟩, prog_7_method_2_code, 2, (some .boolean), { frames := 0, cells := 0, slots := 0, locals := 0 })
def MX5_countIn : mD := (⟨"NeverBelieved$Scroll", "countIn", "(I)V"⟩, prog_7_method_15_code, 2, none, { frames := 1, cells := 0, slots := 0, locals := 20 })
def MX5_firstFault : mD := (⟨"NeverBelieved$Scroll", "firstFault", "(LNeverBelieved$City;)I"⟩, prog_7_method_4_code, 3, (some .int), { frames := 8, cells := 0, slots := 0, locals := 174 })
def MX5_hasRoomFor : mD := (⟨"NeverBelieved$Scroll", "hasRoomFor", "(I)Z"⟩, prog_7_method_14_code, 2, (some .boolean), { frames := 1, cells := 0, slots := 0, locals := 20 })
def MX5_isOfFact : mD := (⟨"NeverBelieved$Scroll", "isOfFact", "(I)Z"⟩, prog_7_method_3_code, 1, (some .boolean), { frames := 0, cells := 0, slots := 0, locals := 0 })
def MX5_isToken : mD := (⟨"NeverBelieved$Scroll", "isToken", "(Ljava/lang/String;)Z"⟩, prog_7_method_9_code, 3, (some .boolean), { frames := 5, cells := 0, slots := 0, locals := 106 })
def MX5_mostOf : mD := (⟨"NeverBelieved$Scroll", "mostOf", "(C)I"⟩, prog_7_method_13_code, 2, (some .int), { frames := 0, cells := 0, slots := 0, locals := 0 })
def MX5_nextToken : mD := (⟨"NeverBelieved$Scroll", "nextToken", "()V"⟩, prog_7_method_5_code, 1, none, { frames := 1, cells := 0, slots := 0, locals := 20 })
def MX5_numberOfToken : mD := (⟨"NeverBelieved$Scroll", "numberOfToken", "()I"⟩, prog_7_method_10_code, 3, (some .int), { frames := 0, cells := 0, slots := 0, locals := 0 })
def MX5_numbersOf : mD := (⟨"NeverBelieved$Scroll", "numbersOf", "(I)Ljava/lang/String;"⟩, prog_7_method_12_code, 1, (some (.object "java/lang/String")), { frames := 0, cells := 0, slots := 0, locals := 0 })
def MX5_readClause : mD := (⟨"NeverBelieved$Scroll", "readClause", "([I)Z"⟩, prog_7_method_7_code, 6, (some .boolean), { frames := 7, cells := 0, slots := 0, locals := 149 })
def MX5_sortOf : mD := (⟨"NeverBelieved$Scroll", "sortOf", "(I)I"⟩, prog_7_method_6_code, 1, (some .int), { frames := 0, cells := 0, slots := 0, locals := 0 })
def MX5_textOf : mD := (⟨"NeverBelieved$Scroll", "textOf", "(I)Ljava/lang/String;"⟩, prog_7_method_11_code, 1, (some (.object "java/lang/String")), { frames := 0, cells := 0, slots := 0, locals := 0 })
def MX5_wordOfToken : mD := (⟨"NeverBelieved$Scroll", "wordOfToken", "()I"⟩, prog_7_method_8_code, 2, (some .int), { frames := 6, cells := 0, slots := 0, locals := 128 })
def MX6_countEmpty : mD := (⟨"NeverBelieved$Seer", "countEmpty", "(I)V"⟩, prog_8_method_5_code, 3, none, { frames := 4, cells := 0, slots := 0, locals := 89 })
def MX6_countIn : mD := (⟨"NeverBelieved$Seer", "countIn", "(I)V"⟩, prog_8_method_4_code, 2, none, { frames := 0, cells := 0, slots := 0, locals := 0 })
def MX6_countRests : mD := (⟨"NeverBelieved$Seer", "countRests", "(JIIII)V"⟩, prog_8_method_7_code, 10, none, { frames := 4, cells := 0, slots := 0, locals := 90 })
def MX6_countSaid : mD := (⟨"NeverBelieved$Seer", "countSaid", "(IZ)V"⟩, prog_8_method_6_code, 4, none, { frames := 4, cells := 0, slots := 0, locals := 89 })
def MX6_outcomes : mD := (⟨"NeverBelieved$Seer", "outcomes", "()J"⟩, prog_8_method_9_code, 5, (some .long), { frames := 4, cells := 0, slots := 0, locals := 89 })
def MX6_seekBest : mD := (⟨"NeverBelieved$Seer", "seekBest", "(IJ)V"⟩, prog_8_method_2_code, 8, none, { frames := 4, cells := 0, slots := 0, locals := 93 })
def MX6_seekPlan : mD := (⟨"NeverBelieved$Seer", "seekPlan", "(IJZ)V"⟩, prog_8_method_10_code, 8, none, { frames := 5, cells := 0, slots := 0, locals := 118 })
def MX6_stance : mD := (⟨"NeverBelieved$Seer", "stance", "(JIII)J"⟩, prog_8_method_8_code, 5, (some .long), { frames := 1, cells := 0, slots := 0, locals := 23 })
def MX6_startCounting : mD := (⟨"NeverBelieved$Seer", "startCounting", "()V"⟩, prog_8_method_3_code, 1, none, { frames := 0, cells := 0, slots := 0, locals := 0 })
def MX6_sumOfPlan : mD := (⟨"NeverBelieved$Seer", "sumOfPlan", "(IZ)I"⟩, prog_8_method_11_code, 6, (some .int), { frames := 4, cells := 0, slots := 0, locals := 93 })
def MX6_sumOfSiege : mD := (⟨"NeverBelieved$Seer", "sumOfSiege", "(IIIJ)I"⟩, prog_8_method_12_code, 10, (some .int), { frames := 5, cells := 0, slots := 0, locals := 120 })
def MX7_believed : mD := (⟨"NeverBelieved$Sentence", "believed", "(I)I"⟩, prog_9_method_9_code, 2, (some .int), { frames := 2, cells := 0, slots := 0, locals := 46 })
def MX7_comeTo : mD := (⟨"NeverBelieved$Sentence", "comeTo", "(II)Z"⟩, prog_9_method_5_code, 3, (some .boolean), { frames := 1, cells := 0, slots := 0, locals := 20 })
def MX7_doubted : mD := (⟨"NeverBelieved$Sentence", "doubted", "(I)I"⟩, prog_9_method_10_code, 2, (some .int), { frames := 2, cells := 0, slots := 0, locals := 46 })
def MX7_isKind : mD := (⟨"NeverBelieved$Sentence", "isKind", "(I)Z"⟩, prog_9_method_2_code, 1, (some .boolean), { frames := 0, cells := 0, slots := 0, locals := 0 })
def MX7_isPair : mD := (⟨"NeverBelieved$Sentence", "isPair", "(I)Z"⟩, prog_9_method_3_code, 1, (some .boolean), { frames := 0, cells := 0, slots := 0, locals := 0 })
def MX7_number : mD := (⟨"NeverBelieved$Sentence", "number", "()I"⟩, prog_9_method_7_code, 1, (some .int), { frames := 0, cells := 0, slots := 0, locals := 0 })
def MX7_oneAtLeast : mD := (⟨"NeverBelieved$Sentence", "oneAtLeast", "(III)I"⟩, prog_9_method_11_code, 4, (some .int), { frames := 1, cells := 0, slots := 0, locals := 23 })
def MX7_placeOfSingle : mD := (⟨"NeverBelieved$Sentence", "placeOfSingle", "(I)I"⟩, prog_9_method_6_code, 2, (some .int), { frames := 0, cells := 0, slots := 0, locals := 0 })
def MX7_put : mD := (⟨"NeverBelieved$Sentence", "put", "(IIIII)V"⟩, prog_9_method_4_code, 7, none, { frames := 1, cells := 0, slots := 0, locals := 20 })
def MX7_stands : mD := (⟨"NeverBelieved$Sentence", "stands", "(I)Z"⟩, prog_9_method_8_code, 4, (some .boolean), { frames := 0, cells := 0, slots := 0, locals := 0 })
def MX8_as : mD := (⟨"NeverBelieved", "as", "(II)I"⟩, prog_1_method_10_code, 3, (some .int), { frames := 1, cells := 0, slots := 0, locals := 24 })
def MX8_back : mD := (⟨"NeverBelieved", "back", "(I)I"⟩, prog_1_method_20_code, 2, (some .int), { frames := 1, cells := 0, slots := 0, locals := 21 })
def MX8_belief : mD := (⟨"NeverBelieved", "belief", "(II)I"⟩, prog_1_method_9_code, 4, (some .int), { frames := 1, cells := 0, slots := 0, locals := 22 })
def MX8_best : mD := (⟨"NeverBelieved", "best", "(I)I"⟩, prog_1_method_22_code, 2, (some .int), { frames := 5, cells := 0, slots := 0, locals := 120 })
def MX8_bet : mD := (⟨"NeverBelieved", "bet", "(II)I"⟩, prog_1_method_26_code, 3, (some .int), { frames := 1, cells := 0, slots := 0, locals := 22 })
def MX8_call : mD := (⟨"NeverBelieved", "call", "()I"⟩, prog_1_method_27_code, 2, (some .int), { frames := 0, cells := 0, slots := 0, locals := 0 })
def MX8_cause : mD := (⟨"NeverBelieved", "cause", "(II)I"⟩, prog_1_method_8_code, 3, (some .int), { frames := 0, cells := 0, slots := 0, locals := 0 })
def MX8_city : mD := (⟨"NeverBelieved", "city", "()I"⟩, prog_1_method_5_code, 2, (some .int), { frames := 9, cells := 0, slots := 0, locals := 196 })
def MX8_coming : mD := (⟨"NeverBelieved", "coming", "(II)I"⟩, prog_1_method_21_code, 6, (some .int), { frames := 3, cells := 0, slots := 0, locals := 68 })
def MX8_count : mD := (⟨"NeverBelieved", "count", "(I)I"⟩, prog_1_method_31_code, 2, (some .int), { frames := 2, cells := 0, slots := 0, locals := 45 })
def MX8_empty : mD := (⟨"NeverBelieved", "empty", "(II)I"⟩, prog_1_method_23_code, 3, (some .int), { frames := 5, cells := 0, slots := 0, locals := 111 })
def MX8_erase : mD := (⟨"NeverBelieved", "erase", "()I"⟩, prog_1_method_3_code, 2, (some .int), { frames := 0, cells := 0, slots := 0, locals := 0 })
def MX8_fact : mD := (⟨"NeverBelieved", "fact", "(II)I"⟩, prog_1_method_6_code, 3, (some .int), { frames := 1, cells := 0, slots := 0, locals := 21 })
def MX8_fault : mD := (⟨"NeverBelieved", "fault", "()I"⟩, prog_1_method_4_code, 1, (some .int), { frames := 9, cells := 0, slots := 0, locals := 196 })
def MX8_isBit : mD := (⟨"NeverBelieved", "isBit", "(I)Z"⟩, prog_1_method_16_code, 1, (some .boolean), { frames := 0, cells := 0, slots := 0, locals := 0 })
def MX8_isUnder : mD := (⟨"NeverBelieved", "isUnder", "([III)Z"⟩, prog_1_method_12_code, 5, (some .boolean), { frames := 0, cells := 0, slots := 0, locals := 0 })
def MX8_keep : mD := (⟨"NeverBelieved", "keep", "(I)I"⟩, prog_1_method_19_code, 2, (some .int), { frames := 1, cells := 0, slots := 0, locals := 21 })
def MX8_night : mD := (⟨"NeverBelieved", "night", "()I"⟩, prog_1_method_17_code, 1, (some .int), { frames := 3, cells := 0, slots := 0, locals := 68 })
def MX8_one : mD := (⟨"NeverBelieved", "one", "(II)I"⟩, prog_1_method_7_code, 3, (some .int), { frames := 1, cells := 0, slots := 0, locals := 21 })
def MX8_plan : mD := (⟨"NeverBelieved", "plan", "(II)I"⟩, prog_1_method_29_code, 3, (some .int), { frames := 6, cells := 0, slots := 0, locals := 145 })
def MX8_refusalOf : mD := (⟨"NeverBelieved", "refusalOf", "(IIIII)I"⟩, prog_1_method_15_code, 7, (some .int), { frames := 1, cells := 0, slots := 0, locals := 21 })
def MX8_rests : mD := (⟨"NeverBelieved", "rests", "(IIIII)I"⟩, prog_1_method_25_code, 6, (some .int), { frames := 5, cells := 0, slots := 0, locals := 119 })
def MX8_said : mD := (⟨"NeverBelieved", "said", "(III)I"⟩, prog_1_method_24_code, 4, (some .int), { frames := 5, cells := 0, slots := 0, locals := 112 })
def MX8_say : mD := (⟨"NeverBelieved", "say", "(IIIIII)I"⟩, prog_1_method_14_code, 11, (some .int), { frames := 4, cells := 0, slots := 0, locals := 93 })
def MX8_sayingAs : mD := (⟨"NeverBelieved", "sayingAs", "(II)I"⟩, prog_1_method_11_code, 3, (some .int), { frames := 1, cells := 0, slots := 0, locals := 24 })
def MX8_sieges : mD := (⟨"NeverBelieved", "sieges", "(III)I"⟩, prog_1_method_30_code, 9, (some .int), { frames := 6, cells := 0, slots := 0, locals := 149 })
def MX8_so : mD := (⟨"NeverBelieved", "so", "(IIIII)I"⟩, prog_1_method_13_code, 7, (some .int), { frames := 4, cells := 0, slots := 0, locals := 93 })
def MX8_sure : mD := (⟨"NeverBelieved", "sure", "(I)I"⟩, prog_1_method_28_code, 2, (some .int), { frames := 5, cells := 0, slots := 0, locals := 113 })
def MX8_undo : mD := (⟨"NeverBelieved", "undo", "()I"⟩, prog_1_method_18_code, 1, (some .int), { frames := 2, cells := 0, slots := 0, locals := 41 })
def MX8_write : mD := (⟨"NeverBelieved", "write", "(I)I"⟩, prog_1_method_2_code, 2, (some .int), { frames := 1, cells := 0, slots := 0, locals := 21 })
def MX9_as : mD := (⟨"NeverBelievedModel", "as", "(II)I"⟩, prog_11_method_27_code, 5, (some .int), { frames := 2, cells := 0, slots := 0, locals := 43 })
def MX9_askOf : mD := (⟨"NeverBelievedModel", "askOf", "(III)I"⟩, prog_11_method_51_code, 9, (some .int), { frames := 4, cells := 0, slots := 0, locals := 91 })
def MX9_back : mD := (⟨"NeverBelievedModel", "back", "(I)I"⟩, prog_11_method_45_code, 2, (some .int), { frames := 1, cells := 0, slots := 0, locals := 24 })
def MX9_barred : mD := (⟨"NeverBelievedModel", "barred", "(IIIII)I"⟩, prog_11_method_36_code, 7, (some .int), { frames := 2, cells := 0, slots := 0, locals := 43 })
def MX9_become : mD := (⟨"NeverBelievedModel", "become", "([III)V"⟩, prog_11_method_30_code, 3, none, { frames := 0, cells := 0, slots := 0, locals := 0 })
def MX9_begin : mD := (⟨"NeverBelievedModel", "begin", "()V"⟩, prog_11_method_4_code, 2, none, { frames := 0, cells := 0, slots := 0, locals := 0 })
def MX9_belief : mD := (⟨"NeverBelievedModel", "belief", "(II)I"⟩, prog_11_method_25_code, 3, (some .int), { frames := 2, cells := 0, slots := 0, locals := 43 })
def MX9_best : mD := (⟨"NeverBelievedModel", "best", "(I)I"⟩, prog_11_method_50_code, 2, (some .int), { frames := 5, cells := 0, slots := 0, locals := 115 })
def MX9_bet : mD := (⟨"NeverBelievedModel", "bet", "(II)I"⟩, prog_11_method_56_code, 3, (some .int), { frames := 2, cells := 0, slots := 0, locals := 43 })
def MX9_call : mD := (⟨"NeverBelievedModel", "call", "()I"⟩, prog_11_method_57_code, 2, (some .int), { frames := 0, cells := 0, slots := 0, locals := 0 })
def MX9_cause : mD := (⟨"NeverBelievedModel", "cause", "(II)I"⟩, prog_11_method_24_code, 3, (some .int), { frames := 1, cells := 0, slots := 0, locals := 22 })
def MX9_changed : mD := (⟨"NeverBelievedModel", "changed", "([I[I)I"⟩, prog_11_method_40_code, 6, (some .int), { frames := 0, cells := 0, slots := 0, locals := 0 })
def MX9_city : mD := (⟨"NeverBelievedModel", "city", "()I"⟩, prog_11_method_19_code, 2, (some .int), { frames := 6, cells := 0, slots := 0, locals := 128 })
def MX9_coming : mD := (⟨"NeverBelievedModel", "coming", "(II)I"⟩, prog_11_method_46_code, 4, (some .int), { frames := 2, cells := 0, slots := 0, locals := 45 })
def MX9_copy : mD := (⟨"NeverBelievedModel", "copy", "([II[II)V"⟩, prog_11_method_20_code, 5, none, { frames := 0, cells := 0, slots := 0, locals := 0 })
def MX9_count : mD := (⟨"NeverBelievedModel", "count", "(I)I"⟩, prog_11_method_66_code, 4, (some .int), { frames := 2, cells := 0, slots := 0, locals := 45 })
def MX9_doLine : mD := (⟨"NeverBelievedModel", "doLine", "(I)V"⟩, prog_11_method_18_code, 4, none, { frames := 0, cells := 0, slots := 0, locals := 0 })
def MX9_empty : mD := (⟨"NeverBelievedModel", "empty", "(II)I"⟩, prog_11_method_52_code, 3, (some .int), { frames := 5, cells := 0, slots := 0, locals := 119 })
def MX9_erase : mD := (⟨"NeverBelievedModel", "erase", "()I"⟩, prog_11_method_9_code, 2, (some .int), { frames := 0, cells := 0, slots := 0, locals := 0 })
def MX9_everybody : mD := (⟨"NeverBelievedModel", "everybody", "()I"⟩, prog_11_method_35_code, 1, (some .int), { frames := 0, cells := 0, slots := 0, locals := 0 })
def MX9_fact : mD := (⟨"NeverBelievedModel", "fact", "(II)I"⟩, prog_11_method_22_code, 3, (some .int), { frames := 2, cells := 0, slots := 0, locals := 43 })
def MX9_fails : mD := (⟨"NeverBelievedModel", "fails", "()Z"⟩, prog_11_method_11_code, 1, (some .boolean), { frames := 0, cells := 0, slots := 0, locals := 0 })
def MX9_fault : mD := (⟨"NeverBelievedModel", "fault", "()I"⟩, prog_11_method_17_code, 1, (some .int), { frames := 6, cells := 0, slots := 0, locals := 128 })
def MX9_has : mD := (⟨"NeverBelievedModel", "has", "(II)Z"⟩, prog_11_method_3_code, 2, (some .boolean), { frames := 0, cells := 0, slots := 0, locals := 0 })
def MX9_hearAll : mD := (⟨"NeverBelievedModel", "hearAll", "([II)V"⟩, prog_11_method_33_code, 5, none, { frames := 2, cells := 0, slots := 0, locals := 42 })
def MX9_hears : mD := (⟨"NeverBelievedModel", "hears", "([IIZ)V"⟩, prog_11_method_32_code, 8, none, { frames := 0, cells := 0, slots := 0, locals := 0 })
def MX9_in : mD := (⟨"NeverBelievedModel", "in", "(III)Z"⟩, prog_11_method_2_code, 3, (some .boolean), { frames := 0, cells := 0, slots := 0, locals := 0 })
def MX9_isDeed : mD := (⟨"NeverBelievedModel", "isDeed", "(I)Z"⟩, prog_11_method_14_code, 2, (some .boolean), { frames := 3, cells := 0, slots := 0, locals := 64 })
def MX9_isFact : mD := (⟨"NeverBelievedModel", "isFact", "(I)Z"⟩, prog_11_method_5_code, 2, (some .boolean), { frames := 1, cells := 0, slots := 0, locals := 22 })
def MX9_isLine : mD := (⟨"NeverBelievedModel", "isLine", "(I)Z"⟩, prog_11_method_15_code, 3, (some .boolean), { frames := 4, cells := 0, slots := 0, locals := 85 })
def MX9_isNumber : mD := (⟨"NeverBelievedModel", "isNumber", "(II)Z"⟩, prog_11_method_12_code, 3, (some .boolean), { frames := 2, cells := 0, slots := 0, locals := 42 })
def MX9_isOne : mD := (⟨"NeverBelievedModel", "isOne", "(I)Z"⟩, prog_11_method_6_code, 2, (some .boolean), { frames := 1, cells := 0, slots := 0, locals := 22 })
def MX9_isRead : mD := (⟨"NeverBelievedModel", "isRead", "()Z"⟩, prog_11_method_16_code, 2, (some .boolean), { frames := 5, cells := 0, slots := 0, locals := 107 })
def MX9_isSaved : mD := (⟨"NeverBelievedModel", "isSaved", "(II)Z"⟩, prog_11_method_64_code, 4, (some .boolean), { frames := 5, cells := 0, slots := 0, locals := 115 })
def MX9_isSentence : mD := (⟨"NeverBelievedModel", "isSentence", "(I)Z"⟩, prog_11_method_47_code, 3, (some .boolean), { frames := 3, cells := 0, slots := 0, locals := 69 })
def MX9_isSo : mD := (⟨"NeverBelievedModel", "isSo", "([II)Z"⟩, prog_11_method_34_code, 5, (some .boolean), { frames := 3, cells := 0, slots := 0, locals := 66 })
def MX9_keep : mD := (⟨"NeverBelievedModel", "keep", "(I)I"⟩, prog_11_method_44_code, 2, (some .int), { frames := 1, cells := 0, slots := 0, locals := 24 })
def MX9_kindOf : mD := (⟨"NeverBelievedModel", "kindOf", "(I)I"⟩, prog_11_method_7_code, 2, (some .int), { frames := 0, cells := 0, slots := 0, locals := 0 })
def MX9_lay : mD := (⟨"NeverBelievedModel", "lay", "(IIIII)V"⟩, prog_11_method_31_code, 6, none, { frames := 0, cells := 0, slots := 0, locals := 0 })
def MX9_layBest : mD := (⟨"NeverBelievedModel", "layBest", "([I)V"⟩, prog_11_method_49_code, 5, none, { frames := 4, cells := 0, slots := 0, locals := 91 })
def MX9_layCanBe : mD := (⟨"NeverBelievedModel", "layCanBe", "()V"⟩, prog_11_method_58_code, 3, none, { frames := 4, cells := 0, slots := 0, locals := 91 })
def MX9_layTold : mD := (⟨"NeverBelievedModel", "layTold", "(IIIII)V"⟩, prog_11_method_37_code, 7, none, { frames := 1, cells := 0, slots := 0, locals := 25 })
def MX9_mostNext : mD := (⟨"NeverBelievedModel", "mostNext", "([I)I"⟩, prog_11_method_60_code, 6, (some .int), { frames := 4, cells := 0, slots := 0, locals := 91 })
def MX9_nextNumber : mD := (⟨"NeverBelievedModel", "nextNumber", "(I)I"⟩, prog_11_method_48_code, 2, (some .int), { frames := 0, cells := 0, slots := 0, locals := 0 })
def MX9_nextPlain : mD := (⟨"NeverBelievedModel", "nextPlain", "(I)I"⟩, prog_11_method_61_code, 2, (some .int), { frames := 0, cells := 0, slots := 0, locals := 0 })
def MX9_nextToken : mD := (⟨"NeverBelievedModel", "nextToken", "()V"⟩, prog_11_method_10_code, 1, none, { frames := 1, cells := 0, slots := 0, locals := 22 })
def MX9_night : mD := (⟨"NeverBelievedModel", "night", "()I"⟩, prog_11_method_42_code, 1, (some .int), { frames := 2, cells := 0, slots := 0, locals := 45 })
def MX9_note : mD := (⟨"NeverBelievedModel", "note", "()V"⟩, prog_11_method_39_code, 2, none, { frames := 1, cells := 0, slots := 0, locals := 24 })
def MX9_one : mD := (⟨"NeverBelievedModel", "one", "(II)I"⟩, prog_11_method_23_code, 3, (some .int), { frames := 2, cells := 0, slots := 0, locals := 43 })
def MX9_pass : mD := (⟨"NeverBelievedModel", "pass", "([I)V"⟩, prog_11_method_29_code, 3, none, { frames := 1, cells := 0, slots := 0, locals := 22 })
def MX9_plan : mD := (⟨"NeverBelievedModel", "plan", "(II)I"⟩, prog_11_method_63_code, 9, (some .int), { frames := 6, cells := 0, slots := 0, locals := 138 })
def MX9_rests : mD := (⟨"NeverBelievedModel", "rests", "(IIIII)I"⟩, prog_11_method_55_code, 10, (some .int), { frames := 3, cells := 0, slots := 0, locals := 70 })
def MX9_said : mD := (⟨"NeverBelievedModel", "said", "(III)I"⟩, prog_11_method_53_code, 4, (some .int), { frames := 5, cells := 0, slots := 0, locals := 119 })
def MX9_say : mD := (⟨"NeverBelievedModel", "say", "(IIIIII)I"⟩, prog_11_method_41_code, 8, (some .int), { frames := 4, cells := 0, slots := 0, locals := 90 })
def MX9_sayingAs : mD := (⟨"NeverBelievedModel", "sayingAs", "(II)I"⟩, prog_11_method_28_code, 5, (some .int), { frames := 1, cells := 0, slots := 0, locals := 22 })
def MX9_sieges : mD := (⟨"NeverBelievedModel", "sieges", "(III)I"⟩, prog_11_method_65_code, 9, (some .int), { frames := 6, cells := 0, slots := 0, locals := 138 })
def MX9_so : mD := (⟨"NeverBelievedModel", "so", "(IIIII)I"⟩, prog_11_method_38_code, 7, (some .int), { frames := 4, cells := 0, slots := 0, locals := 90 })
def MX9_sortOf : mD := (⟨"NeverBelievedModel", "sortOf", "()I"⟩, prog_11_method_13_code, 3, (some .int), { frames := 0, cells := 0, slots := 0, locals := 0 })
def MX9_sumBy : mD := (⟨"NeverBelievedModel", "sumBy", "(IIIII)I"⟩, prog_11_method_54_code, 6, (some .int), { frames := 2, cells := 0, slots := 0, locals := 45 })
def MX9_sumOf : mD := (⟨"NeverBelievedModel", "sumOf", "(I)I"⟩, prog_11_method_21_code, 5, (some .int), { frames := 1, cells := 0, slots := 0, locals := 21 })
def MX9_sure : mD := (⟨"NeverBelievedModel", "sure", "(I)I"⟩, prog_11_method_59_code, 9, (some .int), { frames := 5, cells := 0, slots := 0, locals := 113 })
def MX9_trusts : mD := (⟨"NeverBelievedModel", "trusts", "(I)Z"⟩, prog_11_method_26_code, 2, (some .boolean), { frames := 1, cells := 0, slots := 0, locals := 21 })
def MX9_undo : mD := (⟨"NeverBelievedModel", "undo", "()I"⟩, prog_11_method_43_code, 1, (some .int), { frames := 1, cells := 0, slots := 0, locals := 24 })
def MX9_worthOf : mD := (⟨"NeverBelievedModel", "worthOf", "([II)I"⟩, prog_11_method_62_code, 3, (some .int), { frames := 5, cells := 0, slots := 0, locals := 116 })
def MX9_write : mD := (⟨"NeverBelievedModel", "write", "(I)I"⟩, prog_11_method_8_code, 2, (some .int), { frames := 1, cells := 0, slots := 0, locals := 22 })
def ML_law : mD := (⟨"NeverBelievedLaw", "law", "([I)Z"⟩, code, 4, some .boolean, room_1)
theorem zJ0_charAt_5068e : mCalV MJ0_charAt_5068e 1 := ⟨⟨mTm 368 (by decide +kernel) (by decide +kernel), ti_10, ⟨by decide +kernel, by decide +kernel, by decide +kernel⟩, rfl, rfl⟩, mTm 366 (by decide +kernel) (by decide +kernel), mTm 367 (by decide +kernel) (by decide +kernel)⟩
theorem zJ0_checkIndex_df160 : mCalS MJ0_checkIndex_df160 2 := ⟨⟨mTm 378 (by decide +kernel) (by decide +kernel), ti_10, ⟨by decide +kernel, by decide +kernel, by decide +kernel⟩, rfl, rfl⟩, mTm 377 (by decide +kernel) (by decide +kernel)⟩
theorem zJ0_coder_7d493 : mCalV MJ0_coder_7d493 0 := ⟨⟨mTm 362 (by decide +kernel) (by decide +kernel), ti_10, ⟨by decide +kernel, by decide +kernel, by decide +kernel⟩, rfl, rfl⟩, mTm 360 (by decide +kernel) (by decide +kernel), mTm 361 (by decide +kernel) (by decide +kernel)⟩
theorem zJ0_isLatin1_aae02 : mCalV MJ0_isLatin1_aae02 0 := ⟨⟨mTm 372 (by decide +kernel) (by decide +kernel), ti_10, ⟨by decide +kernel, by decide +kernel, by decide +kernel⟩, rfl, rfl⟩, mTm 370 (by decide +kernel) (by decide +kernel), mTm 371 (by decide +kernel) (by decide +kernel)⟩
theorem zJ0_length_8abf5 : mCalV MJ0_length_8abf5 0 := ⟨⟨mTm 358 (by decide +kernel) (by decide +kernel), ti_10, ⟨by decide +kernel, by decide +kernel, by decide +kernel⟩, rfl, rfl⟩, mTm 356 (by decide +kernel) (by decide +kernel), mTm 357 (by decide +kernel) (by decide +kernel)⟩
theorem zJ1_charAt_3b067 : mCalS MJ1_charAt_3b067 2 := ⟨⟨mTm 375 (by decide +kernel) (by decide +kernel), ti_11, ⟨by decide +kernel, by decide +kernel, by decide +kernel⟩, rfl, rfl⟩, mTm 374 (by decide +kernel) (by decide +kernel)⟩
theorem zJ2_charAt_3b067 : mCalS MJ2_charAt_3b067 2 := ⟨⟨mTm 386 (by decide +kernel) (by decide +kernel), ti_13, ⟨by decide +kernel, by decide +kernel, by decide +kernel⟩, rfl, rfl⟩, mTm 385 (by decide +kernel) (by decide +kernel)⟩
theorem zJ2_checkIndex_2214a : mCalS MJ2_checkIndex_2214a 2 := ⟨⟨mTm 389 (by decide +kernel) (by decide +kernel), ti_13, ⟨by decide +kernel, by decide +kernel, by decide +kernel⟩, rfl, rfl⟩, mTm 388 (by decide +kernel) (by decide +kernel)⟩
theorem zJ2_getChar_3b067 : mCalS MJ2_getChar_3b067 2 := ⟨⟨mTm 396 (by decide +kernel) (by decide +kernel), ti_13, ⟨by decide +kernel, by decide +kernel, by decide +kernel⟩, rfl, rfl⟩, mTm 395 (by decide +kernel) (by decide +kernel)⟩
theorem zJ2_length_9d52b : mCalS MJ2_length_9d52b 1 := ⟨⟨mTm 392 (by decide +kernel) (by decide +kernel), ti_13, ⟨by decide +kernel, by decide +kernel, by decide +kernel⟩, rfl, rfl⟩, mTm 391 (by decide +kernel) (by decide +kernel)⟩
theorem zJ3_checkIndex_8e157 : mCalS MJ3_checkIndex_8e157 3 := ⟨⟨mTm 383 (by decide +kernel) (by decide +kernel), ti_12, ⟨by decide +kernel, by decide +kernel, by decide +kernel⟩, rfl, rfl⟩, mTm 382 (by decide +kernel) (by decide +kernel)⟩
theorem zJ6_bitCount_0f7a4 : mCalS MJ6_bitCount_0f7a4 1 := ⟨⟨mTm 819 (by decide +kernel) (by decide +kernel), ti_17, ⟨by decide +kernel, by decide +kernel, by decide +kernel⟩, rfl, rfl⟩, mTm 818 (by decide +kernel) (by decide +kernel)⟩
theorem zJ9_max_7cf53 : mCalS MJ9_max_7cf53 2 := ⟨⟨mTm 794 (by decide +kernel) (by decide +kernel), ti_16, ⟨by decide +kernel, by decide +kernel, by decide +kernel⟩, rfl, rfl⟩, mTm 793 (by decide +kernel) (by decide +kernel)⟩
theorem zJ9_min_7cf53 : mCalS MJ9_min_7cf53 2 := ⟨⟨mTm 630 (by decide +kernel) (by decide +kernel), ti_16, ⟨by decide +kernel, by decide +kernel, by decide +kernel⟩, rfl, rfl⟩, mTm 629 (by decide +kernel) (by decide +kernel)⟩
theorem zX0_add : mCalV MX0_add 2 := ⟨⟨mTm 749 (by decide +kernel) (by decide +kernel), ti_5, ⟨by decide +kernel, by decide +kernel, by decide +kernel⟩, rfl, rfl⟩, mTm 747 (by decide +kernel) (by decide +kernel), mTm 748 (by decide +kernel) (by decide +kernel)⟩
theorem zX0_choose : mCalV MX0_choose 1 := ⟨⟨mTm 766 (by decide +kernel) (by decide +kernel), ti_5, ⟨by decide +kernel, by decide +kernel, by decide +kernel⟩, rfl, rfl⟩, mTm 764 (by decide +kernel) (by decide +kernel), mTm 765 (by decide +kernel) (by decide +kernel)⟩
theorem zX0_winOf : mCalV MX0_winOf 2 := ⟨⟨mTm 774 (by decide +kernel) (by decide +kernel), ti_5, ⟨by decide +kernel, by decide +kernel, by decide +kernel⟩, rfl, rfl⟩, mTm 773 (by decide +kernel) (by decide +kernel), mTs 17 (by decide +kernel) (by decide +kernel)⟩
theorem zX0_worstOf : mCalV MX0_worstOf 2 := ⟨⟨mTm 770 (by decide +kernel) (by decide +kernel), ti_5, ⟨by decide +kernel, by decide +kernel, by decide +kernel⟩, rfl, rfl⟩, mTm 769 (by decide +kernel) (by decide +kernel), mTs 16 (by decide +kernel) (by decide +kernel)⟩
theorem zX1_add : mCalV MX1_add 1 := ⟨⟨mTm 437 (by decide +kernel) (by decide +kernel), ti_2, ⟨by decide +kernel, by decide +kernel, by decide +kernel⟩, rfl, rfl⟩, mTm 435 (by decide +kernel) (by decide +kernel), mTm 436 (by decide +kernel) (by decide +kernel)⟩
theorem zX1_addCause : mCalV MX1_addCause 1 := ⟨⟨mTm 445 (by decide +kernel) (by decide +kernel), ti_2, ⟨by decide +kernel, by decide +kernel, by decide +kernel⟩, rfl, rfl⟩, mTm 444 (by decide +kernel) (by decide +kernel), mTs 9 (by decide +kernel) (by decide +kernel)⟩
theorem zX1_addFact : mCalV MX1_addFact 3 := ⟨⟨mTm 453 (by decide +kernel) (by decide +kernel), ti_2, ⟨by decide +kernel, by decide +kernel, by decide +kernel⟩, rfl, rfl⟩, mTm 452 (by decide +kernel) (by decide +kernel), mTs 10 (by decide +kernel) (by decide +kernel)⟩
theorem zX1_addOne : mCalV MX1_addOne 2 := ⟨⟨mTm 457 (by decide +kernel) (by decide +kernel), ti_2, ⟨by decide +kernel, by decide +kernel, by decide +kernel⟩, rfl, rfl⟩, mTm 456 (by decide +kernel) (by decide +kernel), mTs 11 (by decide +kernel) (by decide +kernel)⟩
theorem zX1_become : mCalS MX1_become 3 := ⟨⟨mTm 550 (by decide +kernel) (by decide +kernel), ti_2, ⟨by decide +kernel, by decide +kernel, by decide +kernel⟩, rfl, rfl⟩, mTm 549 (by decide +kernel) (by decide +kernel)⟩
theorem zX1_believesHer : mCalV MX1_believesHer 1 := ⟨⟨mTm 504 (by decide +kernel) (by decide +kernel), ti_2, ⟨by decide +kernel, by decide +kernel, by decide +kernel⟩, rfl, rfl⟩, mTm 502 (by decide +kernel) (by decide +kernel), mTm 503 (by decide +kernel) (by decide +kernel)⟩
theorem zX1_clear : mCalV MX1_clear 0 := ⟨⟨mTm 441 (by decide +kernel) (by decide +kernel), ti_2, ⟨by decide +kernel, by decide +kernel, by decide +kernel⟩, rfl, rfl⟩, mTm 440 (by decide +kernel) (by decide +kernel), mTs 8 (by decide +kernel) (by decide +kernel)⟩
theorem zX1_dawn : mCalV MX1_dawn 2 := ⟨⟨mTm 547 (by decide +kernel) (by decide +kernel), ti_2, ⟨by decide +kernel, by decide +kernel, by decide +kernel⟩, rfl, rfl⟩, mTm 545 (by decide +kernel) (by decide +kernel), mTm 546 (by decide +kernel) (by decide +kernel)⟩
theorem zX1_doers : mCalV MX1_doers 1 := ⟨⟨mTm 537 (by decide +kernel) (by decide +kernel), ti_2, ⟨by decide +kernel, by decide +kernel, by decide +kernel⟩, rfl, rfl⟩, mTm 535 (by decide +kernel) (by decide +kernel), mTm 536 (by decide +kernel) (by decide +kernel)⟩
theorem zX1_doesDeed : mCalV MX1_doesDeed 2 := ⟨⟨mTm 542 (by decide +kernel) (by decide +kernel), ti_2, ⟨by decide +kernel, by decide +kernel, by decide +kernel⟩, rfl, rfl⟩, mTm 540 (by decide +kernel) (by decide +kernel), mTm 541 (by decide +kernel) (by decide +kernel)⟩
theorem zX1_everyone : mCalV MX1_everyone 0 := ⟨⟨mTm 586 (by decide +kernel) (by decide +kernel), ti_2, ⟨by decide +kernel, by decide +kernel, by decide +kernel⟩, rfl, rfl⟩, mTm 584 (by decide +kernel) (by decide +kernel), mTm 585 (by decide +kernel) (by decide +kernel)⟩
theorem zX1_hasFact : mCalV MX1_hasFact 1 := ⟨⟨mTm 469 (by decide +kernel) (by decide +kernel), ti_2, ⟨by decide +kernel, by decide +kernel, by decide +kernel⟩, rfl, rfl⟩, mTm 467 (by decide +kernel) (by decide +kernel), mTm 468 (by decide +kernel) (by decide +kernel)⟩
theorem zX1_hasOne : mCalV MX1_hasOne 1 := ⟨⟨mTm 477 (by decide +kernel) (by decide +kernel), ti_2, ⟨by decide +kernel, by decide +kernel, by decide +kernel⟩, rfl, rfl⟩, mTm 475 (by decide +kernel) (by decide +kernel), mTm 476 (by decide +kernel) (by decide +kernel)⟩
theorem zX1_sumOf : mCalV MX1_sumOf 1 := ⟨⟨mTm 554 (by decide +kernel) (by decide +kernel), ti_2, ⟨by decide +kernel, by decide +kernel, by decide +kernel⟩, rfl, rfl⟩, mTm 552 (by decide +kernel) (by decide +kernel), mTm 553 (by decide +kernel) (by decide +kernel)⟩
theorem zX2_begin : mCalV MX2_begin 1 := ⟨⟨mTm 461 (by decide +kernel) (by decide +kernel), ti_4, ⟨by decide +kernel, by decide +kernel, by decide +kernel⟩, rfl, rfl⟩, mTm 459 (by decide +kernel) (by decide +kernel), mTm 460 (by decide +kernel) (by decide +kernel)⟩
theorem zX2_put : mCalV MX2_put 1 := ⟨⟨mTm 627 (by decide +kernel) (by decide +kernel), ti_4, ⟨by decide +kernel, by decide +kernel, by decide +kernel⟩, rfl, rfl⟩, mTm 625 (by decide +kernel) (by decide +kernel), mTm 626 (by decide +kernel) (by decide +kernel)⟩
theorem zX2_remember : mCalV MX2_remember 0 := ⟨⟨mTm 623 (by decide +kernel) (by decide +kernel), ti_4, ⟨by decide +kernel, by decide +kernel, by decide +kernel⟩, rfl, rfl⟩, mTm 621 (by decide +kernel) (by decide +kernel), mTm 622 (by decide +kernel) (by decide +kernel)⟩
theorem zX2_stepBack : mCalV MX2_stepBack 0 := ⟨⟨mTm 645 (by decide +kernel) (by decide +kernel), ti_4, ⟨by decide +kernel, by decide +kernel, by decide +kernel⟩, rfl, rfl⟩, mTm 643 (by decide +kernel) (by decide +kernel), mTm 644 (by decide +kernel) (by decide +kernel)⟩
theorem zX2_take : mCalV MX2_take 1 := ⟨⟨mTm 649 (by decide +kernel) (by decide +kernel), ti_4, ⟨by decide +kernel, by decide +kernel, by decide +kernel⟩, rfl, rfl⟩, mTm 647 (by decide +kernel) (by decide +kernel), mTm 648 (by decide +kernel) (by decide +kernel)⟩
theorem zX3_comeTo : mCalV MX3_comeTo 1 := ⟨⟨mTm 680 (by decide +kernel) (by decide +kernel), ti_6, ⟨by decide +kernel, by decide +kernel, by decide +kernel⟩, rfl, rfl⟩, mTm 678 (by decide +kernel) (by decide +kernel), mTm 679 (by decide +kernel) (by decide +kernel)⟩
theorem zX3_doersIfSaidTo : mCalV MX3_doersIfSaidTo 1 := ⟨⟨mTm 598 (by decide +kernel) (by decide +kernel), ti_6, ⟨by decide +kernel, by decide +kernel, by decide +kernel⟩, rfl, rfl⟩, mTm 596 (by decide +kernel) (by decide +kernel), mTm 597 (by decide +kernel) (by decide +kernel)⟩
theorem zX3_doesDeedIfTold : mCalV MX3_doesDeedIfTold 1 := ⟨⟨mTm 723 (by decide +kernel) (by decide +kernel), ti_6, ⟨by decide +kernel, by decide +kernel, by decide +kernel⟩, rfl, rfl⟩, mTm 721 (by decide +kernel) (by decide +kernel), mTm 722 (by decide +kernel) (by decide +kernel)⟩
theorem zX3_isSoSaidTo : mCalV MX3_isSoSaidTo 1 := ⟨⟨mTm 590 (by decide +kernel) (by decide +kernel), ti_6, ⟨by decide +kernel, by decide +kernel, by decide +kernel⟩, rfl, rfl⟩, mTm 588 (by decide +kernel) (by decide +kernel), mTm 589 (by decide +kernel) (by decide +kernel)⟩
theorem zX3_listen : mCalV MX3_listen 0 := ⟨⟨mTm 563 (by decide +kernel) (by decide +kernel), ti_6, ⟨by decide +kernel, by decide +kernel, by decide +kernel⟩, rfl, rfl⟩, mTm 561 (by decide +kernel) (by decide +kernel), mTm 562 (by decide +kernel) (by decide +kernel)⟩
theorem zX3_look : mCalV MX3_look 2 := ⟨⟨mTm 533 (by decide +kernel) (by decide +kernel), ti_6, ⟨by decide +kernel, by decide +kernel, by decide +kernel⟩, rfl, rfl⟩, mTm 531 (by decide +kernel) (by decide +kernel), mTm 532 (by decide +kernel) (by decide +kernel)⟩
theorem zX3_mindsIfSaidTo : mCalV MX3_mindsIfSaidTo 1 := ⟨⟨mTm 610 (by decide +kernel) (by decide +kernel), ti_6, ⟨by decide +kernel, by decide +kernel, by decide +kernel⟩, rfl, rfl⟩, mTm 608 (by decide +kernel) (by decide +kernel), mTm 609 (by decide +kernel) (by decide +kernel)⟩
theorem zX3_movesIfSaidTo : mCalV MX3_movesIfSaidTo 1 := ⟨⟨mTm 706 (by decide +kernel) (by decide +kernel), ti_6, ⟨by decide +kernel, by decide +kernel, by decide +kernel⟩, rfl, rfl⟩, mTm 704 (by decide +kernel) (by decide +kernel), mTm 705 (by decide +kernel) (by decide +kernel)⟩
theorem zX3_sumIfHeld : mCalV MX3_sumIfHeld 1 := ⟨⟨mTm 741 (by decide +kernel) (by decide +kernel), ti_6, ⟨by decide +kernel, by decide +kernel, by decide +kernel⟩, rfl, rfl⟩, mTm 739 (by decide +kernel) (by decide +kernel), mTm 740 (by decide +kernel) (by decide +kernel)⟩
theorem zX3_sumIfSaidTo : mCalV MX3_sumIfSaidTo 1 := ⟨⟨mTm 676 (by decide +kernel) (by decide +kernel), ti_6, ⟨by decide +kernel, by decide +kernel, by decide +kernel⟩, rfl, rfl⟩, mTm 674 (by decide +kernel) (by decide +kernel), mTm 675 (by decide +kernel) (by decide +kernel)⟩
theorem zX3_truthIfSaidTo : mCalV MX3_truthIfSaidTo 1 := ⟨⟨mTm 594 (by decide +kernel) (by decide +kernel), ti_6, ⟨by decide +kernel, by decide +kernel, by decide +kernel⟩, rfl, rfl⟩, mTm 592 (by decide +kernel) (by decide +kernel), mTm 593 (by decide +kernel) (by decide +kernel)⟩
theorem zX4_hold : mCalS MX4_hold 3 := ⟨⟨mTm 571 (by decide +kernel) (by decide +kernel), ti_15, ⟨by decide +kernel, by decide +kernel, by decide +kernel⟩, rfl, rfl⟩, mTm 570 (by decide +kernel) (by decide +kernel)⟩
theorem zX4_holds : mCalS MX4_holds 3 := ⟨⟨mTm 491 (by decide +kernel) (by decide +kernel), ti_15, ⟨by decide +kernel, by decide +kernel, by decide +kernel⟩, rfl, rfl⟩, mTm 490 (by decide +kernel) (by decide +kernel)⟩
theorem zX4_mindOf : mCalS MX4_mindOf 2 := ⟨⟨mTm 488 (by decide +kernel) (by decide +kernel), ti_15, ⟨by decide +kernel, by decide +kernel, by decide +kernel⟩, rfl, rfl⟩, mTm 487 (by decide +kernel) (by decide +kernel)⟩
theorem zX4_thingsBelieved : mCalS MX4_thingsBelieved 1 := ⟨⟨mTm 816 (by decide +kernel) (by decide +kernel), ti_15, ⟨by decide +kernel, by decide +kernel, by decide +kernel⟩, rfl, rfl⟩, mTm 815 (by decide +kernel) (by decide +kernel)⟩
theorem zX4_whoDiffer : mCalS MX4_whoDiffer 2 := ⟨⟨mTm 618 (by decide +kernel) (by decide +kernel), ti_15, ⟨by decide +kernel, by decide +kernel, by decide +kernel⟩, rfl, rfl⟩, mTm 617 (by decide +kernel) (by decide +kernel)⟩
theorem zX4_withMind : mCalS MX4_withMind 3 := ⟨⟨mTm 613 (by decide +kernel) (by decide +kernel), ti_15, ⟨by decide +kernel, by decide +kernel, by decide +kernel⟩, rfl, rfl⟩, mTm 612 (by decide +kernel) (by decide +kernel)⟩
theorem zX5_append : mCalV MX5_append 1 := ⟨⟨mTm 311 (by decide +kernel) (by decide +kernel), ti_3, ⟨by decide +kernel, by decide +kernel, by decide +kernel⟩, rfl, rfl⟩, mTm 309 (by decide +kernel) (by decide +kernel), mTm 310 (by decide +kernel) (by decide +kernel)⟩
theorem zX5_countIn : mCalV MX5_countIn 1 := ⟨⟨mTm 428 (by decide +kernel) (by decide +kernel), ti_3, ⟨by decide +kernel, by decide +kernel, by decide +kernel⟩, rfl, rfl⟩, mTm 427 (by decide +kernel) (by decide +kernel), mTs 7 (by decide +kernel) (by decide +kernel)⟩
theorem zX5_firstFault : mCalV MX5_firstFault 1 := ⟨⟨mTm 323 (by decide +kernel) (by decide +kernel), ti_3, ⟨by decide +kernel, by decide +kernel, by decide +kernel⟩, rfl, rfl⟩, mTm 321 (by decide +kernel) (by decide +kernel), mTm 322 (by decide +kernel) (by decide +kernel)⟩
theorem zX5_hasRoomFor : mCalV MX5_hasRoomFor 1 := ⟨⟨mTm 406 (by decide +kernel) (by decide +kernel), ti_3, ⟨by decide +kernel, by decide +kernel, by decide +kernel⟩, rfl, rfl⟩, mTm 405 (by decide +kernel) (by decide +kernel), mTs 4 (by decide +kernel) (by decide +kernel)⟩
theorem zX5_isOfFact : mCalS MX5_isOfFact 1 := ⟨⟨mTm 409 (by decide +kernel) (by decide +kernel), ti_3, ⟨by decide +kernel, by decide +kernel, by decide +kernel⟩, rfl, rfl⟩, mTm 408 (by decide +kernel) (by decide +kernel)⟩
theorem zX5_isToken : mCalV MX5_isToken 1 := ⟨⟨mTm 354 (by decide +kernel) (by decide +kernel), ti_3, ⟨by decide +kernel, by decide +kernel, by decide +kernel⟩, rfl, rfl⟩, mTm 353 (by decide +kernel) (by decide +kernel), mTs 3 (by decide +kernel) (by decide +kernel)⟩
theorem zX5_mostOf : mCalV MX5_mostOf 1 := ⟨⟨mTm 424 (by decide +kernel) (by decide +kernel), ti_3, ⟨by decide +kernel, by decide +kernel, by decide +kernel⟩, rfl, rfl⟩, mTm 423 (by decide +kernel) (by decide +kernel), mTs 6 (by decide +kernel) (by decide +kernel)⟩
theorem zX5_nextToken : mCalV MX5_nextToken 0 := ⟨⟨mTm 327 (by decide +kernel) (by decide +kernel), ti_3, ⟨by decide +kernel, by decide +kernel, by decide +kernel⟩, rfl, rfl⟩, mTm 326 (by decide +kernel) (by decide +kernel), mTs 0 (by decide +kernel) (by decide +kernel)⟩
theorem zX5_numberOfToken : mCalV MX5_numberOfToken 0 := ⟨⟨mTm 420 (by decide +kernel) (by decide +kernel), ti_3, ⟨by decide +kernel, by decide +kernel, by decide +kernel⟩, rfl, rfl⟩, mTm 419 (by decide +kernel) (by decide +kernel), mTs 5 (by decide +kernel) (by decide +kernel)⟩
theorem zX5_numbersOf : mCalS MX5_numbersOf 1 := ⟨⟨mTm 412 (by decide +kernel) (by decide +kernel), ti_3, ⟨by decide +kernel, by decide +kernel, by decide +kernel⟩, rfl, rfl⟩, mTm 411 (by decide +kernel) (by decide +kernel)⟩
theorem zX5_readClause : mCalV MX5_readClause 1 := ⟨⟨mTm 334 (by decide +kernel) (by decide +kernel), ti_3, ⟨by decide +kernel, by decide +kernel, by decide +kernel⟩, rfl, rfl⟩, mTm 333 (by decide +kernel) (by decide +kernel), mTs 1 (by decide +kernel) (by decide +kernel)⟩
theorem zX5_sortOf : mCalS MX5_sortOf 1 := ⟨⟨mTm 330 (by decide +kernel) (by decide +kernel), ti_3, ⟨by decide +kernel, by decide +kernel, by decide +kernel⟩, rfl, rfl⟩, mTm 329 (by decide +kernel) (by decide +kernel)⟩
theorem zX5_textOf : mCalS MX5_textOf 1 := ⟨⟨mTm 341 (by decide +kernel) (by decide +kernel), ti_3, ⟨by decide +kernel, by decide +kernel, by decide +kernel⟩, rfl, rfl⟩, mTm 340 (by decide +kernel) (by decide +kernel)⟩
theorem zX5_wordOfToken : mCalV MX5_wordOfToken 0 := ⟨⟨mTm 338 (by decide +kernel) (by decide +kernel), ti_3, ⟨by decide +kernel, by decide +kernel, by decide +kernel⟩, rfl, rfl⟩, mTm 337 (by decide +kernel) (by decide +kernel), mTs 2 (by decide +kernel) (by decide +kernel)⟩
theorem zX6_countEmpty : mCalV MX6_countEmpty 1 := ⟨⟨mTm 698 (by decide +kernel) (by decide +kernel), ti_8, ⟨by decide +kernel, by decide +kernel, by decide +kernel⟩, rfl, rfl⟩, mTm 696 (by decide +kernel) (by decide +kernel), mTm 697 (by decide +kernel) (by decide +kernel)⟩
theorem zX6_countIn : mCalV MX6_countIn 1 := ⟨⟨mTm 711 (by decide +kernel) (by decide +kernel), ti_8, ⟨by decide +kernel, by decide +kernel, by decide +kernel⟩, rfl, rfl⟩, mTm 710 (by decide +kernel) (by decide +kernel), mTs 15 (by decide +kernel) (by decide +kernel)⟩
theorem zX6_countRests : mCalV MX6_countRests 5 := ⟨⟨mTm 731 (by decide +kernel) (by decide +kernel), ti_8, ⟨by decide +kernel, by decide +kernel, by decide +kernel⟩, rfl, rfl⟩, mTm 729 (by decide +kernel) (by decide +kernel), mTm 730 (by decide +kernel) (by decide +kernel)⟩
theorem zX6_countSaid : mCalV MX6_countSaid 2 := ⟨⟨mTm 719 (by decide +kernel) (by decide +kernel), ti_8, ⟨by decide +kernel, by decide +kernel, by decide +kernel⟩, rfl, rfl⟩, mTm 717 (by decide +kernel) (by decide +kernel), mTm 718 (by decide +kernel) (by decide +kernel)⟩
theorem zX6_outcomes : mCalV MX6_outcomes 0 := ⟨⟨mTm 761 (by decide +kernel) (by decide +kernel), ti_8, ⟨by decide +kernel, by decide +kernel, by decide +kernel⟩, rfl, rfl⟩, mTm 759 (by decide +kernel) (by decide +kernel), mTm 760 (by decide +kernel) (by decide +kernel)⟩
theorem zX6_seekBest : mCalV MX6_seekBest 2 := ⟨⟨mTm 671 (by decide +kernel) (by decide +kernel), ti_8, ⟨by decide +kernel, by decide +kernel, by decide +kernel⟩, rfl, rfl⟩, mTm 669 (by decide +kernel) (by decide +kernel), mTm 670 (by decide +kernel) (by decide +kernel)⟩
theorem zX6_seekPlan : mCalV MX6_seekPlan 3 := ⟨⟨mTm 783 (by decide +kernel) (by decide +kernel), ti_8, ⟨by decide +kernel, by decide +kernel, by decide +kernel⟩, rfl, rfl⟩, mTm 781 (by decide +kernel) (by decide +kernel), mTm 782 (by decide +kernel) (by decide +kernel)⟩
theorem zX6_stance : mCalS MX6_stance 4 := ⟨⟨mTm 734 (by decide +kernel) (by decide +kernel), ti_8, ⟨by decide +kernel, by decide +kernel, by decide +kernel⟩, rfl, rfl⟩, mTm 733 (by decide +kernel) (by decide +kernel)⟩
theorem zX6_startCounting : mCalV MX6_startCounting 0 := ⟨⟨mTm 702 (by decide +kernel) (by decide +kernel), ti_8, ⟨by decide +kernel, by decide +kernel, by decide +kernel⟩, rfl, rfl⟩, mTm 701 (by decide +kernel) (by decide +kernel), mTs 14 (by decide +kernel) (by decide +kernel)⟩
theorem zX6_sumOfPlan : mCalV MX6_sumOfPlan 2 := ⟨⟨mTm 787 (by decide +kernel) (by decide +kernel), ti_8, ⟨by decide +kernel, by decide +kernel, by decide +kernel⟩, rfl, rfl⟩, mTm 786 (by decide +kernel) (by decide +kernel), mTs 18 (by decide +kernel) (by decide +kernel)⟩
theorem zX6_sumOfSiege : mCalV MX6_sumOfSiege 4 := ⟨⟨mTm 805 (by decide +kernel) (by decide +kernel), ti_8, ⟨by decide +kernel, by decide +kernel, by decide +kernel⟩, rfl, rfl⟩, mTm 803 (by decide +kernel) (by decide +kernel), mTm 804 (by decide +kernel) (by decide +kernel)⟩
theorem zX7_believed : mCalV MX7_believed 1 := ⟨⟨mTm 568 (by decide +kernel) (by decide +kernel), ti_7, ⟨by decide +kernel, by decide +kernel, by decide +kernel⟩, rfl, rfl⟩, mTm 566 (by decide +kernel) (by decide +kernel), mTm 567 (by decide +kernel) (by decide +kernel)⟩
theorem zX7_comeTo : mCalV MX7_comeTo 2 := ⟨⟨mTm 684 (by decide +kernel) (by decide +kernel), ti_7, ⟨by decide +kernel, by decide +kernel, by decide +kernel⟩, rfl, rfl⟩, mTm 682 (by decide +kernel) (by decide +kernel), mTm 683 (by decide +kernel) (by decide +kernel)⟩
theorem zX7_doubted : mCalV MX7_doubted 1 := ⟨⟨mTm 581 (by decide +kernel) (by decide +kernel), ti_7, ⟨by decide +kernel, by decide +kernel, by decide +kernel⟩, rfl, rfl⟩, mTm 579 (by decide +kernel) (by decide +kernel), mTm 580 (by decide +kernel) (by decide +kernel)⟩
theorem zX7_isKind : mCalS MX7_isKind 1 := ⟨⟨mTm 526 (by decide +kernel) (by decide +kernel), ti_7, ⟨by decide +kernel, by decide +kernel, by decide +kernel⟩, rfl, rfl⟩, mTm 525 (by decide +kernel) (by decide +kernel)⟩
theorem zX7_isPair : mCalS MX7_isPair 1 := ⟨⟨mTm 515 (by decide +kernel) (by decide +kernel), ti_7, ⟨by decide +kernel, by decide +kernel, by decide +kernel⟩, rfl, rfl⟩, mTm 514 (by decide +kernel) (by decide +kernel)⟩
theorem zX7_number : mCalV MX7_number 0 := ⟨⟨mTm 690 (by decide +kernel) (by decide +kernel), ti_7, ⟨by decide +kernel, by decide +kernel, by decide +kernel⟩, rfl, rfl⟩, mTm 688 (by decide +kernel) (by decide +kernel), mTm 689 (by decide +kernel) (by decide +kernel)⟩
theorem zX7_oneAtLeast : mCalV MX7_oneAtLeast 3 := ⟨⟨mTm 575 (by decide +kernel) (by decide +kernel), ti_7, ⟨by decide +kernel, by decide +kernel, by decide +kernel⟩, rfl, rfl⟩, mTm 574 (by decide +kernel) (by decide +kernel), mTs 13 (by decide +kernel) (by decide +kernel)⟩
theorem zX7_placeOfSingle : mCalS MX7_placeOfSingle 1 := ⟨⟨mTm 791 (by decide +kernel) (by decide +kernel), ti_7, ⟨by decide +kernel, by decide +kernel, by decide +kernel⟩, rfl, rfl⟩, mTm 790 (by decide +kernel) (by decide +kernel)⟩
theorem zX7_put : mCalV MX7_put 5 := ⟨⟨mTm 558 (by decide +kernel) (by decide +kernel), ti_7, ⟨by decide +kernel, by decide +kernel, by decide +kernel⟩, rfl, rfl⟩, mTm 556 (by decide +kernel) (by decide +kernel), mTm 557 (by decide +kernel) (by decide +kernel)⟩
theorem zX7_stands : mCalV MX7_stands 1 := ⟨⟨mTm 602 (by decide +kernel) (by decide +kernel), ti_7, ⟨by decide +kernel, by decide +kernel, by decide +kernel⟩, rfl, rfl⟩, mTm 600 (by decide +kernel) (by decide +kernel), mTm 601 (by decide +kernel) (by decide +kernel)⟩
theorem zX8_as : mCalV MX8_as 2 := ⟨⟨mTm 495 (by decide +kernel) (by decide +kernel), ti_1, ⟨by decide +kernel, by decide +kernel, by decide +kernel⟩, rfl, rfl⟩, mTm 493 (by decide +kernel) (by decide +kernel), mTm 494 (by decide +kernel) (by decide +kernel)⟩
theorem zX8_back : mCalV MX8_back 1 := ⟨⟨mTm 658 (by decide +kernel) (by decide +kernel), ti_1, ⟨by decide +kernel, by decide +kernel, by decide +kernel⟩, rfl, rfl⟩, mTm 656 (by decide +kernel) (by decide +kernel), mTm 657 (by decide +kernel) (by decide +kernel)⟩
theorem zX8_belief : mCalV MX8_belief 2 := ⟨⟨mTm 485 (by decide +kernel) (by decide +kernel), ti_1, ⟨by decide +kernel, by decide +kernel, by decide +kernel⟩, rfl, rfl⟩, mTm 483 (by decide +kernel) (by decide +kernel), mTm 484 (by decide +kernel) (by decide +kernel)⟩
theorem zX8_best : mCalV MX8_best 1 := ⟨⟨mTm 667 (by decide +kernel) (by decide +kernel), ti_1, ⟨by decide +kernel, by decide +kernel, by decide +kernel⟩, rfl, rfl⟩, mTm 665 (by decide +kernel) (by decide +kernel), mTm 666 (by decide +kernel) (by decide +kernel)⟩
theorem zX8_bet : mCalV MX8_bet 2 := ⟨⟨mTm 745 (by decide +kernel) (by decide +kernel), ti_1, ⟨by decide +kernel, by decide +kernel, by decide +kernel⟩, rfl, rfl⟩, mTm 743 (by decide +kernel) (by decide +kernel), mTm 744 (by decide +kernel) (by decide +kernel)⟩
theorem zX8_call : mCalV MX8_call 0 := ⟨⟨mTm 753 (by decide +kernel) (by decide +kernel), ti_1, ⟨by decide +kernel, by decide +kernel, by decide +kernel⟩, rfl, rfl⟩, mTm 751 (by decide +kernel) (by decide +kernel), mTm 752 (by decide +kernel) (by decide +kernel)⟩
theorem zX8_cause : mCalV MX8_cause 2 := ⟨⟨mTm 481 (by decide +kernel) (by decide +kernel), ti_1, ⟨by decide +kernel, by decide +kernel, by decide +kernel⟩, rfl, rfl⟩, mTm 479 (by decide +kernel) (by decide +kernel), mTm 480 (by decide +kernel) (by decide +kernel)⟩
theorem zX8_city : mCalV MX8_city 0 := ⟨⟨mTm 433 (by decide +kernel) (by decide +kernel), ti_1, ⟨by decide +kernel, by decide +kernel, by decide +kernel⟩, rfl, rfl⟩, mTm 431 (by decide +kernel) (by decide +kernel), mTm 432 (by decide +kernel) (by decide +kernel)⟩
theorem zX8_coming : mCalV MX8_coming 2 := ⟨⟨mTm 663 (by decide +kernel) (by decide +kernel), ti_1, ⟨by decide +kernel, by decide +kernel, by decide +kernel⟩, rfl, rfl⟩, mTm 661 (by decide +kernel) (by decide +kernel), mTm 662 (by decide +kernel) (by decide +kernel)⟩
theorem zX8_count : mCalV MX8_count 1 := ⟨⟨mTm 813 (by decide +kernel) (by decide +kernel), ti_1, ⟨by decide +kernel, by decide +kernel, by decide +kernel⟩, rfl, rfl⟩, mTm 811 (by decide +kernel) (by decide +kernel), mTm 812 (by decide +kernel) (by decide +kernel)⟩
theorem zX8_empty : mCalV MX8_empty 2 := ⟨⟨mTm 694 (by decide +kernel) (by decide +kernel), ti_1, ⟨by decide +kernel, by decide +kernel, by decide +kernel⟩, rfl, rfl⟩, mTm 692 (by decide +kernel) (by decide +kernel), mTm 693 (by decide +kernel) (by decide +kernel)⟩
theorem zX8_erase : mCalV MX8_erase 0 := ⟨⟨mTm 315 (by decide +kernel) (by decide +kernel), ti_1, ⟨by decide +kernel, by decide +kernel, by decide +kernel⟩, rfl, rfl⟩, mTm 313 (by decide +kernel) (by decide +kernel), mTm 314 (by decide +kernel) (by decide +kernel)⟩
theorem zX8_fact : mCalV MX8_fact 2 := ⟨⟨mTm 465 (by decide +kernel) (by decide +kernel), ti_1, ⟨by decide +kernel, by decide +kernel, by decide +kernel⟩, rfl, rfl⟩, mTm 463 (by decide +kernel) (by decide +kernel), mTm 464 (by decide +kernel) (by decide +kernel)⟩
theorem zX8_fault : mCalV MX8_fault 0 := ⟨⟨mTm 319 (by decide +kernel) (by decide +kernel), ti_1, ⟨by decide +kernel, by decide +kernel, by decide +kernel⟩, rfl, rfl⟩, mTm 317 (by decide +kernel) (by decide +kernel), mTm 318 (by decide +kernel) (by decide +kernel)⟩
theorem zX8_isBit : mCalS MX8_isBit 1 := ⟨⟨mTm 529 (by decide +kernel) (by decide +kernel), ti_1, ⟨by decide +kernel, by decide +kernel, by decide +kernel⟩, rfl, rfl⟩, mTm 528 (by decide +kernel) (by decide +kernel)⟩
theorem zX8_isUnder : mCalS MX8_isUnder 3 := ⟨⟨mTm 500 (by decide +kernel) (by decide +kernel), ti_1, ⟨by decide +kernel, by decide +kernel, by decide +kernel⟩, rfl, rfl⟩, mTm 499 (by decide +kernel) (by decide +kernel)⟩
theorem zX8_keep : mCalV MX8_keep 1 := ⟨⟨mTm 653 (by decide +kernel) (by decide +kernel), ti_1, ⟨by decide +kernel, by decide +kernel, by decide +kernel⟩, rfl, rfl⟩, mTm 651 (by decide +kernel) (by decide +kernel), mTm 652 (by decide +kernel) (by decide +kernel)⟩
theorem zX8_night : mCalV MX8_night 0 := ⟨⟨mTm 634 (by decide +kernel) (by decide +kernel), ti_1, ⟨by decide +kernel, by decide +kernel, by decide +kernel⟩, rfl, rfl⟩, mTm 632 (by decide +kernel) (by decide +kernel), mTm 633 (by decide +kernel) (by decide +kernel)⟩
theorem zX8_one : mCalV MX8_one 2 := ⟨⟨mTm 473 (by decide +kernel) (by decide +kernel), ti_1, ⟨by decide +kernel, by decide +kernel, by decide +kernel⟩, rfl, rfl⟩, mTm 471 (by decide +kernel) (by decide +kernel), mTm 472 (by decide +kernel) (by decide +kernel)⟩
theorem zX8_plan : mCalV MX8_plan 2 := ⟨⟨mTm 779 (by decide +kernel) (by decide +kernel), ti_1, ⟨by decide +kernel, by decide +kernel, by decide +kernel⟩, rfl, rfl⟩, mTm 777 (by decide +kernel) (by decide +kernel), mTm 778 (by decide +kernel) (by decide +kernel)⟩
theorem zX8_refusalOf : mCalV MX8_refusalOf 5 := ⟨⟨mTm 523 (by decide +kernel) (by decide +kernel), ti_1, ⟨by decide +kernel, by decide +kernel, by decide +kernel⟩, rfl, rfl⟩, mTm 522 (by decide +kernel) (by decide +kernel), mTs 12 (by decide +kernel) (by decide +kernel)⟩
theorem zX8_rests : mCalV MX8_rests 5 := ⟨⟨mTm 727 (by decide +kernel) (by decide +kernel), ti_1, ⟨by decide +kernel, by decide +kernel, by decide +kernel⟩, rfl, rfl⟩, mTm 725 (by decide +kernel) (by decide +kernel), mTm 726 (by decide +kernel) (by decide +kernel)⟩
theorem zX8_said : mCalV MX8_said 3 := ⟨⟨mTm 715 (by decide +kernel) (by decide +kernel), ti_1, ⟨by decide +kernel, by decide +kernel, by decide +kernel⟩, rfl, rfl⟩, mTm 713 (by decide +kernel) (by decide +kernel), mTm 714 (by decide +kernel) (by decide +kernel)⟩
theorem zX8_say : mCalV MX8_say 6 := ⟨⟨mTm 606 (by decide +kernel) (by decide +kernel), ti_1, ⟨by decide +kernel, by decide +kernel, by decide +kernel⟩, rfl, rfl⟩, mTm 604 (by decide +kernel) (by decide +kernel), mTm 605 (by decide +kernel) (by decide +kernel)⟩
theorem zX8_sayingAs : mCalV MX8_sayingAs 2 := ⟨⟨mTm 508 (by decide +kernel) (by decide +kernel), ti_1, ⟨by decide +kernel, by decide +kernel, by decide +kernel⟩, rfl, rfl⟩, mTm 506 (by decide +kernel) (by decide +kernel), mTm 507 (by decide +kernel) (by decide +kernel)⟩
theorem zX8_sieges : mCalV MX8_sieges 3 := ⟨⟨mTm 798 (by decide +kernel) (by decide +kernel), ti_1, ⟨by decide +kernel, by decide +kernel, by decide +kernel⟩, rfl, rfl⟩, mTm 796 (by decide +kernel) (by decide +kernel), mTm 797 (by decide +kernel) (by decide +kernel)⟩
theorem zX8_so : mCalV MX8_so 5 := ⟨⟨mTm 519 (by decide +kernel) (by decide +kernel), ti_1, ⟨by decide +kernel, by decide +kernel, by decide +kernel⟩, rfl, rfl⟩, mTm 517 (by decide +kernel) (by decide +kernel), mTm 518 (by decide +kernel) (by decide +kernel)⟩
theorem zX8_sure : mCalV MX8_sure 1 := ⟨⟨mTm 757 (by decide +kernel) (by decide +kernel), ti_1, ⟨by decide +kernel, by decide +kernel, by decide +kernel⟩, rfl, rfl⟩, mTm 755 (by decide +kernel) (by decide +kernel), mTm 756 (by decide +kernel) (by decide +kernel)⟩
theorem zX8_undo : mCalV MX8_undo 0 := ⟨⟨mTm 641 (by decide +kernel) (by decide +kernel), ti_1, ⟨by decide +kernel, by decide +kernel, by decide +kernel⟩, rfl, rfl⟩, mTm 639 (by decide +kernel) (by decide +kernel), mTm 640 (by decide +kernel) (by decide +kernel)⟩
theorem zX8_write : mCalV MX8_write 1 := ⟨⟨mTm 307 (by decide +kernel) (by decide +kernel), ti_1, ⟨by decide +kernel, by decide +kernel, by decide +kernel⟩, rfl, rfl⟩, mTm 305 (by decide +kernel) (by decide +kernel), mTm 306 (by decide +kernel) (by decide +kernel)⟩
theorem zX9_as : mCalV MX9_as 2 := ⟨⟨mTm 1045 (by decide +kernel) (by decide +kernel), ti_9, ⟨by decide +kernel, by decide +kernel, by decide +kernel⟩, rfl, rfl⟩, mTm 1043 (by decide +kernel) (by decide +kernel), mTm 1044 (by decide +kernel) (by decide +kernel)⟩
theorem zX9_askOf : mCalV MX9_askOf 3 := ⟨⟨mTm 1162 (by decide +kernel) (by decide +kernel), ti_9, ⟨by decide +kernel, by decide +kernel, by decide +kernel⟩, rfl, rfl⟩, mTm 1161 (by decide +kernel) (by decide +kernel), mTs 45 (by decide +kernel) (by decide +kernel)⟩
theorem zX9_back : mCalV MX9_back 1 := ⟨⟨mTm 1134 (by decide +kernel) (by decide +kernel), ti_9, ⟨by decide +kernel, by decide +kernel, by decide +kernel⟩, rfl, rfl⟩, mTm 1132 (by decide +kernel) (by decide +kernel), mTm 1133 (by decide +kernel) (by decide +kernel)⟩
theorem zX9_barred : mCalV MX9_barred 5 := ⟨⟨mTm 1065 (by decide +kernel) (by decide +kernel), ti_9, ⟨by decide +kernel, by decide +kernel, by decide +kernel⟩, rfl, rfl⟩, mTm 1064 (by decide +kernel) (by decide +kernel), mTs 32 (by decide +kernel) (by decide +kernel)⟩
theorem zX9_become : mCalS MX9_become 3 := ⟨⟨mTm 1102 (by decide +kernel) (by decide +kernel), ti_9, ⟨by decide +kernel, by decide +kernel, by decide +kernel⟩, rfl, rfl⟩, mTm 1101 (by decide +kernel) (by decide +kernel)⟩
theorem zX9_begin : mCalV MX9_begin 0 := ⟨⟨mTm 832 (by decide +kernel) (by decide +kernel), ti_9, ⟨by decide +kernel, by decide +kernel, by decide +kernel⟩, rfl, rfl⟩, mTm 831 (by decide +kernel) (by decide +kernel), mTs 19 (by decide +kernel) (by decide +kernel)⟩
theorem zX9_belief : mCalV MX9_belief 2 := ⟨⟨mTm 1041 (by decide +kernel) (by decide +kernel), ti_9, ⟨by decide +kernel, by decide +kernel, by decide +kernel⟩, rfl, rfl⟩, mTm 1039 (by decide +kernel) (by decide +kernel), mTm 1040 (by decide +kernel) (by decide +kernel)⟩
theorem zX9_best : mCalV MX9_best 1 := ⟨⟨mTm 1142 (by decide +kernel) (by decide +kernel), ti_9, ⟨by decide +kernel, by decide +kernel, by decide +kernel⟩, rfl, rfl⟩, mTm 1140 (by decide +kernel) (by decide +kernel), mTm 1141 (by decide +kernel) (by decide +kernel)⟩
theorem zX9_bet : mCalV MX9_bet 2 := ⟨⟨mTm 1178 (by decide +kernel) (by decide +kernel), ti_9, ⟨by decide +kernel, by decide +kernel, by decide +kernel⟩, rfl, rfl⟩, mTm 1176 (by decide +kernel) (by decide +kernel), mTm 1177 (by decide +kernel) (by decide +kernel)⟩
theorem zX9_call : mCalV MX9_call 0 := ⟨⟨mTm 1182 (by decide +kernel) (by decide +kernel), ti_9, ⟨by decide +kernel, by decide +kernel, by decide +kernel⟩, rfl, rfl⟩, mTm 1180 (by decide +kernel) (by decide +kernel), mTm 1181 (by decide +kernel) (by decide +kernel)⟩
theorem zX9_cause : mCalV MX9_cause 2 := ⟨⟨mTm 1037 (by decide +kernel) (by decide +kernel), ti_9, ⟨by decide +kernel, by decide +kernel, by decide +kernel⟩, rfl, rfl⟩, mTm 1035 (by decide +kernel) (by decide +kernel), mTm 1036 (by decide +kernel) (by decide +kernel)⟩
theorem zX9_changed : mCalV MX9_changed 2 := ⟨⟨mTm 1114 (by decide +kernel) (by decide +kernel), ti_9, ⟨by decide +kernel, by decide +kernel, by decide +kernel⟩, rfl, rfl⟩, mTm 1113 (by decide +kernel) (by decide +kernel), mTs 41 (by decide +kernel) (by decide +kernel)⟩
theorem zX9_city : mCalV MX9_city 0 := ⟨⟨mTm 1013 (by decide +kernel) (by decide +kernel), ti_9, ⟨by decide +kernel, by decide +kernel, by decide +kernel⟩, rfl, rfl⟩, mTm 1011 (by decide +kernel) (by decide +kernel), mTm 1012 (by decide +kernel) (by decide +kernel)⟩
theorem zX9_coming : mCalV MX9_coming 2 := ⟨⟨mTm 1138 (by decide +kernel) (by decide +kernel), ti_9, ⟨by decide +kernel, by decide +kernel, by decide +kernel⟩, rfl, rfl⟩, mTm 1136 (by decide +kernel) (by decide +kernel), mTm 1137 (by decide +kernel) (by decide +kernel)⟩
theorem zX9_copy : mCalS MX9_copy 4 := ⟨⟨mTm 1084 (by decide +kernel) (by decide +kernel), ti_9, ⟨by decide +kernel, by decide +kernel, by decide +kernel⟩, rfl, rfl⟩, mTm 1083 (by decide +kernel) (by decide +kernel)⟩
theorem zX9_count : mCalV MX9_count 1 := ⟨⟨mTm 1222 (by decide +kernel) (by decide +kernel), ti_9, ⟨by decide +kernel, by decide +kernel, by decide +kernel⟩, rfl, rfl⟩, mTm 1220 (by decide +kernel) (by decide +kernel), mTm 1221 (by decide +kernel) (by decide +kernel)⟩
theorem zX9_doLine : mCalV MX9_doLine 1 := ⟨⟨mTm 1017 (by decide +kernel) (by decide +kernel), ti_9, ⟨by decide +kernel, by decide +kernel, by decide +kernel⟩, rfl, rfl⟩, mTm 1016 (by decide +kernel) (by decide +kernel), mTs 27 (by decide +kernel) (by decide +kernel)⟩
theorem zX9_empty : mCalV MX9_empty 2 := ⟨⟨mTm 1158 (by decide +kernel) (by decide +kernel), ti_9, ⟨by decide +kernel, by decide +kernel, by decide +kernel⟩, rfl, rfl⟩, mTm 1156 (by decide +kernel) (by decide +kernel), mTm 1157 (by decide +kernel) (by decide +kernel)⟩
theorem zX9_erase : mCalV MX9_erase 0 := ⟨⟨mTm 962 (by decide +kernel) (by decide +kernel), ti_9, ⟨by decide +kernel, by decide +kernel, by decide +kernel⟩, rfl, rfl⟩, mTm 960 (by decide +kernel) (by decide +kernel), mTm 961 (by decide +kernel) (by decide +kernel)⟩
theorem zX9_everybody : mCalV MX9_everybody 0 := ⟨⟨mTm 1077 (by decide +kernel) (by decide +kernel), ti_9, ⟨by decide +kernel, by decide +kernel, by decide +kernel⟩, rfl, rfl⟩, mTm 1076 (by decide +kernel) (by decide +kernel), mTs 35 (by decide +kernel) (by decide +kernel)⟩
theorem zX9_fact : mCalV MX9_fact 2 := ⟨⟨mTm 1021 (by decide +kernel) (by decide +kernel), ti_9, ⟨by decide +kernel, by decide +kernel, by decide +kernel⟩, rfl, rfl⟩, mTm 1019 (by decide +kernel) (by decide +kernel), mTm 1020 (by decide +kernel) (by decide +kernel)⟩
theorem zX9_fails : mCalV MX9_fails 0 := ⟨⟨mTm 1001 (by decide +kernel) (by decide +kernel), ti_9, ⟨by decide +kernel, by decide +kernel, by decide +kernel⟩, rfl, rfl⟩, mTm 1000 (by decide +kernel) (by decide +kernel), mTs 24 (by decide +kernel) (by decide +kernel)⟩
theorem zX9_fault : mCalV MX9_fault 0 := ⟨⟨mTm 966 (by decide +kernel) (by decide +kernel), ti_9, ⟨by decide +kernel, by decide +kernel, by decide +kernel⟩, rfl, rfl⟩, mTm 964 (by decide +kernel) (by decide +kernel), mTm 965 (by decide +kernel) (by decide +kernel)⟩
theorem zX9_has : mCalS MX9_has 2 := ⟨⟨mTm 1091 (by decide +kernel) (by decide +kernel), ti_9, ⟨by decide +kernel, by decide +kernel, by decide +kernel⟩, rfl, rfl⟩, mTm 1090 (by decide +kernel) (by decide +kernel)⟩
theorem zX9_hearAll : mCalV MX9_hearAll 2 := ⟨⟨mTm 1088 (by decide +kernel) (by decide +kernel), ti_9, ⟨by decide +kernel, by decide +kernel, by decide +kernel⟩, rfl, rfl⟩, mTm 1087 (by decide +kernel) (by decide +kernel), mTs 37 (by decide +kernel) (by decide +kernel)⟩
theorem zX9_hears : mCalV MX9_hears 3 := ⟨⟨mTm 1095 (by decide +kernel) (by decide +kernel), ti_9, ⟨by decide +kernel, by decide +kernel, by decide +kernel⟩, rfl, rfl⟩, mTm 1094 (by decide +kernel) (by decide +kernel), mTs 38 (by decide +kernel) (by decide +kernel)⟩
theorem zX9_in : mCalS MX9_in 3 := ⟨⟨mTm 958 (by decide +kernel) (by decide +kernel), ti_9, ⟨by decide +kernel, by decide +kernel, by decide +kernel⟩, rfl, rfl⟩, mTm 957 (by decide +kernel) (by decide +kernel)⟩
theorem zX9_isDeed : mCalV MX9_isDeed 1 := ⟨⟨mTm 1009 (by decide +kernel) (by decide +kernel), ti_9, ⟨by decide +kernel, by decide +kernel, by decide +kernel⟩, rfl, rfl⟩, mTm 1008 (by decide +kernel) (by decide +kernel), mTs 26 (by decide +kernel) (by decide +kernel)⟩
theorem zX9_isFact : mCalV MX9_isFact 1 := ⟨⟨mTm 1025 (by decide +kernel) (by decide +kernel), ti_9, ⟨by decide +kernel, by decide +kernel, by decide +kernel⟩, rfl, rfl⟩, mTm 1024 (by decide +kernel) (by decide +kernel), mTs 28 (by decide +kernel) (by decide +kernel)⟩
theorem zX9_isLine : mCalV MX9_isLine 1 := ⟨⟨mTm 974 (by decide +kernel) (by decide +kernel), ti_9, ⟨by decide +kernel, by decide +kernel, by decide +kernel⟩, rfl, rfl⟩, mTm 973 (by decide +kernel) (by decide +kernel), mTs 21 (by decide +kernel) (by decide +kernel)⟩
theorem zX9_isNumber : mCalV MX9_isNumber 2 := ⟨⟨mTm 1005 (by decide +kernel) (by decide +kernel), ti_9, ⟨by decide +kernel, by decide +kernel, by decide +kernel⟩, rfl, rfl⟩, mTm 1004 (by decide +kernel) (by decide +kernel), mTs 25 (by decide +kernel) (by decide +kernel)⟩
theorem zX9_isOne : mCalV MX9_isOne 1 := ⟨⟨mTm 1033 (by decide +kernel) (by decide +kernel), ti_9, ⟨by decide +kernel, by decide +kernel, by decide +kernel⟩, rfl, rfl⟩, mTm 1032 (by decide +kernel) (by decide +kernel), mTs 29 (by decide +kernel) (by decide +kernel)⟩
theorem zX9_isRead : mCalV MX9_isRead 0 := ⟨⟨mTm 970 (by decide +kernel) (by decide +kernel), ti_9, ⟨by decide +kernel, by decide +kernel, by decide +kernel⟩, rfl, rfl⟩, mTm 969 (by decide +kernel) (by decide +kernel), mTs 20 (by decide +kernel) (by decide +kernel)⟩
theorem zX9_isSaved : mCalV MX9_isSaved 2 := ⟨⟨mTm 1218 (by decide +kernel) (by decide +kernel), ti_9, ⟨by decide +kernel, by decide +kernel, by decide +kernel⟩, rfl, rfl⟩, mTm 1217 (by decide +kernel) (by decide +kernel), mTs 50 (by decide +kernel) (by decide +kernel)⟩
theorem zX9_isSentence : mCalV MX9_isSentence 1 := ⟨⟨mTm 1151 (by decide +kernel) (by decide +kernel), ti_9, ⟨by decide +kernel, by decide +kernel, by decide +kernel⟩, rfl, rfl⟩, mTm 1150 (by decide +kernel) (by decide +kernel), mTs 44 (by decide +kernel) (by decide +kernel)⟩
theorem zX9_isSo : mCalV MX9_isSo 2 := ⟨⟨mTm 1081 (by decide +kernel) (by decide +kernel), ti_9, ⟨by decide +kernel, by decide +kernel, by decide +kernel⟩, rfl, rfl⟩, mTm 1080 (by decide +kernel) (by decide +kernel), mTs 36 (by decide +kernel) (by decide +kernel)⟩
theorem zX9_keep : mCalV MX9_keep 1 := ⟨⟨mTm 1130 (by decide +kernel) (by decide +kernel), ti_9, ⟨by decide +kernel, by decide +kernel, by decide +kernel⟩, rfl, rfl⟩, mTm 1128 (by decide +kernel) (by decide +kernel), mTm 1129 (by decide +kernel) (by decide +kernel)⟩
theorem zX9_kindOf : mCalV MX9_kindOf 1 := ⟨⟨mTm 1049 (by decide +kernel) (by decide +kernel), ti_9, ⟨by decide +kernel, by decide +kernel, by decide +kernel⟩, rfl, rfl⟩, mTm 1048 (by decide +kernel) (by decide +kernel), mTs 30 (by decide +kernel) (by decide +kernel)⟩
theorem zX9_lay : mCalV MX9_lay 5 := ⟨⟨mTm 1073 (by decide +kernel) (by decide +kernel), ti_9, ⟨by decide +kernel, by decide +kernel, by decide +kernel⟩, rfl, rfl⟩, mTm 1072 (by decide +kernel) (by decide +kernel), mTs 34 (by decide +kernel) (by decide +kernel)⟩
theorem zX9_layBest : mCalV MX9_layBest 1 := ⟨⟨mTm 1146 (by decide +kernel) (by decide +kernel), ti_9, ⟨by decide +kernel, by decide +kernel, by decide +kernel⟩, rfl, rfl⟩, mTm 1145 (by decide +kernel) (by decide +kernel), mTs 43 (by decide +kernel) (by decide +kernel)⟩
theorem zX9_layCanBe : mCalV MX9_layCanBe 0 := ⟨⟨mTm 1190 (by decide +kernel) (by decide +kernel), ti_9, ⟨by decide +kernel, by decide +kernel, by decide +kernel⟩, rfl, rfl⟩, mTm 1189 (by decide +kernel) (by decide +kernel), mTs 47 (by decide +kernel) (by decide +kernel)⟩
theorem zX9_layTold : mCalV MX9_layTold 5 := ⟨⟨mTm 1069 (by decide +kernel) (by decide +kernel), ti_9, ⟨by decide +kernel, by decide +kernel, by decide +kernel⟩, rfl, rfl⟩, mTm 1068 (by decide +kernel) (by decide +kernel), mTs 33 (by decide +kernel) (by decide +kernel)⟩
theorem zX9_mostNext : mCalV MX9_mostNext 1 := ⟨⟨mTm 1203 (by decide +kernel) (by decide +kernel), ti_9, ⟨by decide +kernel, by decide +kernel, by decide +kernel⟩, rfl, rfl⟩, mTm 1202 (by decide +kernel) (by decide +kernel), mTs 49 (by decide +kernel) (by decide +kernel)⟩
theorem zX9_nextNumber : mCalS MX9_nextNumber 1 := ⟨⟨mTm 1154 (by decide +kernel) (by decide +kernel), ti_9, ⟨by decide +kernel, by decide +kernel, by decide +kernel⟩, rfl, rfl⟩, mTm 1153 (by decide +kernel) (by decide +kernel)⟩
theorem zX9_nextPlain : mCalS MX9_nextPlain 1 := ⟨⟨mTm 1206 (by decide +kernel) (by decide +kernel), ti_9, ⟨by decide +kernel, by decide +kernel, by decide +kernel⟩, rfl, rfl⟩, mTm 1205 (by decide +kernel) (by decide +kernel)⟩
theorem zX9_nextToken : mCalV MX9_nextToken 0 := ⟨⟨mTm 978 (by decide +kernel) (by decide +kernel), ti_9, ⟨by decide +kernel, by decide +kernel, by decide +kernel⟩, rfl, rfl⟩, mTm 977 (by decide +kernel) (by decide +kernel), mTs 22 (by decide +kernel) (by decide +kernel)⟩
theorem zX9_night : mCalV MX9_night 0 := ⟨⟨mTm 1118 (by decide +kernel) (by decide +kernel), ti_9, ⟨by decide +kernel, by decide +kernel, by decide +kernel⟩, rfl, rfl⟩, mTm 1116 (by decide +kernel) (by decide +kernel), mTm 1117 (by decide +kernel) (by decide +kernel)⟩
theorem zX9_note : mCalV MX9_note 0 := ⟨⟨mTm 1110 (by decide +kernel) (by decide +kernel), ti_9, ⟨by decide +kernel, by decide +kernel, by decide +kernel⟩, rfl, rfl⟩, mTm 1109 (by decide +kernel) (by decide +kernel), mTs 40 (by decide +kernel) (by decide +kernel)⟩
theorem zX9_one : mCalV MX9_one 2 := ⟨⟨mTm 1029 (by decide +kernel) (by decide +kernel), ti_9, ⟨by decide +kernel, by decide +kernel, by decide +kernel⟩, rfl, rfl⟩, mTm 1027 (by decide +kernel) (by decide +kernel), mTm 1028 (by decide +kernel) (by decide +kernel)⟩
theorem zX9_pass : mCalV MX9_pass 1 := ⟨⟨mTm 1099 (by decide +kernel) (by decide +kernel), ti_9, ⟨by decide +kernel, by decide +kernel, by decide +kernel⟩, rfl, rfl⟩, mTm 1098 (by decide +kernel) (by decide +kernel), mTs 39 (by decide +kernel) (by decide +kernel)⟩
theorem zX9_plan : mCalV MX9_plan 2 := ⟨⟨mTm 1195 (by decide +kernel) (by decide +kernel), ti_9, ⟨by decide +kernel, by decide +kernel, by decide +kernel⟩, rfl, rfl⟩, mTm 1193 (by decide +kernel) (by decide +kernel), mTm 1194 (by decide +kernel) (by decide +kernel)⟩
theorem zX9_rests : mCalV MX9_rests 5 := ⟨⟨mTm 1170 (by decide +kernel) (by decide +kernel), ti_9, ⟨by decide +kernel, by decide +kernel, by decide +kernel⟩, rfl, rfl⟩, mTm 1168 (by decide +kernel) (by decide +kernel), mTm 1169 (by decide +kernel) (by decide +kernel)⟩
theorem zX9_said : mCalV MX9_said 3 := ⟨⟨mTm 1166 (by decide +kernel) (by decide +kernel), ti_9, ⟨by decide +kernel, by decide +kernel, by decide +kernel⟩, rfl, rfl⟩, mTm 1164 (by decide +kernel) (by decide +kernel), mTm 1165 (by decide +kernel) (by decide +kernel)⟩
theorem zX9_say : mCalV MX9_say 6 := ⟨⟨mTm 1106 (by decide +kernel) (by decide +kernel), ti_9, ⟨by decide +kernel, by decide +kernel, by decide +kernel⟩, rfl, rfl⟩, mTm 1104 (by decide +kernel) (by decide +kernel), mTm 1105 (by decide +kernel) (by decide +kernel)⟩
theorem zX9_sayingAs : mCalV MX9_sayingAs 2 := ⟨⟨mTm 1057 (by decide +kernel) (by decide +kernel), ti_9, ⟨by decide +kernel, by decide +kernel, by decide +kernel⟩, rfl, rfl⟩, mTm 1055 (by decide +kernel) (by decide +kernel), mTm 1056 (by decide +kernel) (by decide +kernel)⟩
theorem zX9_sieges : mCalV MX9_sieges 3 := ⟨⟨mTm 1211 (by decide +kernel) (by decide +kernel), ti_9, ⟨by decide +kernel, by decide +kernel, by decide +kernel⟩, rfl, rfl⟩, mTm 1209 (by decide +kernel) (by decide +kernel), mTm 1210 (by decide +kernel) (by decide +kernel)⟩
theorem zX9_so : mCalV MX9_so 5 := ⟨⟨mTm 1061 (by decide +kernel) (by decide +kernel), ti_9, ⟨by decide +kernel, by decide +kernel, by decide +kernel⟩, rfl, rfl⟩, mTm 1059 (by decide +kernel) (by decide +kernel), mTm 1060 (by decide +kernel) (by decide +kernel)⟩
theorem zX9_sortOf : mCalV MX9_sortOf 0 := ⟨⟨mTm 988 (by decide +kernel) (by decide +kernel), ti_9, ⟨by decide +kernel, by decide +kernel, by decide +kernel⟩, rfl, rfl⟩, mTm 987 (by decide +kernel) (by decide +kernel), mTs 23 (by decide +kernel) (by decide +kernel)⟩
theorem zX9_sumBy : mCalV MX9_sumBy 5 := ⟨⟨mTm 1174 (by decide +kernel) (by decide +kernel), ti_9, ⟨by decide +kernel, by decide +kernel, by decide +kernel⟩, rfl, rfl⟩, mTm 1173 (by decide +kernel) (by decide +kernel), mTs 46 (by decide +kernel) (by decide +kernel)⟩
theorem zX9_sumOf : mCalV MX9_sumOf 1 := ⟨⟨mTm 1122 (by decide +kernel) (by decide +kernel), ti_9, ⟨by decide +kernel, by decide +kernel, by decide +kernel⟩, rfl, rfl⟩, mTm 1121 (by decide +kernel) (by decide +kernel), mTs 42 (by decide +kernel) (by decide +kernel)⟩
theorem zX9_sure : mCalV MX9_sure 1 := ⟨⟨mTm 1186 (by decide +kernel) (by decide +kernel), ti_9, ⟨by decide +kernel, by decide +kernel, by decide +kernel⟩, rfl, rfl⟩, mTm 1184 (by decide +kernel) (by decide +kernel), mTm 1185 (by decide +kernel) (by decide +kernel)⟩
theorem zX9_trusts : mCalV MX9_trusts 1 := ⟨⟨mTm 1053 (by decide +kernel) (by decide +kernel), ti_9, ⟨by decide +kernel, by decide +kernel, by decide +kernel⟩, rfl, rfl⟩, mTm 1052 (by decide +kernel) (by decide +kernel), mTs 31 (by decide +kernel) (by decide +kernel)⟩
theorem zX9_undo : mCalV MX9_undo 0 := ⟨⟨mTm 1126 (by decide +kernel) (by decide +kernel), ti_9, ⟨by decide +kernel, by decide +kernel, by decide +kernel⟩, rfl, rfl⟩, mTm 1124 (by decide +kernel) (by decide +kernel), mTm 1125 (by decide +kernel) (by decide +kernel)⟩
theorem zX9_worthOf : mCalV MX9_worthOf 2 := ⟨⟨mTm 1199 (by decide +kernel) (by decide +kernel), ti_9, ⟨by decide +kernel, by decide +kernel, by decide +kernel⟩, rfl, rfl⟩, mTm 1198 (by decide +kernel) (by decide +kernel), mTs 48 (by decide +kernel) (by decide +kernel)⟩
theorem zX9_write : mCalV MX9_write 1 := ⟨⟨mTm 955 (by decide +kernel) (by decide +kernel), ti_9, ⟨by decide +kernel, by decide +kernel, by decide +kernel⟩, rfl, rfl⟩, mTm 953 (by decide +kernel) (by decide +kernel), mTm 954 (by decide +kernel) (by decide +kernel)⟩
theorem lk_23 : (Jvm.Cond.methodLink "NeverBelieved" (1 : Nat) ({ cls := "java/lang/Object", name := "<init>", desc := "()V" } : Jvm.MethodName)) ∈ mTb := mTm 23 (by decide +kernel) (by decide +kernel)
theorem lk_183 : (Jvm.Cond.methodLink "NeverBelieved" (39 : Nat) ({ cls := "NeverBelieved$Foresight", name := "<init>", desc := "(LNeverBelieved$City;)V" } : Jvm.MethodName)) ∈ mTb := mTm 183 (by decide +kernel) (by decide +kernel)
theorem lk_248 : (Jvm.Cond.methodLink "NeverBelieved" (48 : Nat) ({ cls := "NeverBelieved$Seer", name := "<init>", desc := "(LNeverBelieved$City;LNeverBelieved$Foresight;LNeverBelieved$Foresight;)V" } : Jvm.MethodName)) ∈ mTb := mTm 248 (by decide +kernel) (by decide +kernel)
theorem lk_308 : (Jvm.Cond.methodLink "NeverBelieved" (55 : Nat) ({ cls := "NeverBelieved$Scroll", name := "append", desc := "(I)Z" } : Jvm.MethodName)) ∈ mTb := mTm 308 (by decide +kernel) (by decide +kernel)
theorem lk_320 : (Jvm.Cond.methodLink "NeverBelieved" (63 : Nat) ({ cls := "NeverBelieved$Scroll", name := "firstFault", desc := "(LNeverBelieved$City;)I" } : Jvm.MethodName)) ∈ mTb := mTm 320 (by decide +kernel) (by decide +kernel)
theorem lk_434 : (Jvm.Cond.methodLink "NeverBelieved" (74 : Nat) ({ cls := "NeverBelieved$City", name := "add", desc := "([I)V" } : Jvm.MethodName)) ∈ mTb := mTm 434 (by decide +kernel) (by decide +kernel)
theorem lk_458 : (Jvm.Cond.methodLink "NeverBelieved" (81 : Nat) ({ cls := "NeverBelieved$Days", name := "begin", desc := "(I)V" } : Jvm.MethodName)) ∈ mTb := mTm 458 (by decide +kernel) (by decide +kernel)
theorem lk_466 : (Jvm.Cond.methodLink "NeverBelieved" (88 : Nat) ({ cls := "NeverBelieved$City", name := "hasFact", desc := "(I)Z" } : Jvm.MethodName)) ∈ mTb := mTm 466 (by decide +kernel) (by decide +kernel)
theorem lk_474 : (Jvm.Cond.methodLink "NeverBelieved" (97 : Nat) ({ cls := "NeverBelieved$City", name := "hasOne", desc := "(I)Z" } : Jvm.MethodName)) ∈ mTb := mTm 474 (by decide +kernel) (by decide +kernel)
theorem lk_486 : (Jvm.Cond.methodLink "NeverBelieved" (113 : Nat) ({ cls := "NeverBelieved$Minds", name := "mindOf", desc := "(JI)I" } : Jvm.MethodName)) ∈ mTb := mTm 486 (by decide +kernel) (by decide +kernel)
theorem lk_489 : (Jvm.Cond.methodLink "NeverBelieved" (119 : Nat) ({ cls := "NeverBelieved$Minds", name := "holds", desc := "(III)Z" } : Jvm.MethodName)) ∈ mTb := mTm 489 (by decide +kernel) (by decide +kernel)
theorem lk_498 : (Jvm.Cond.methodLink "NeverBelieved" (127 : Nat) ({ cls := "NeverBelieved", name := "isUnder", desc := "([III)Z" } : Jvm.MethodName)) ∈ mTb := mTm 498 (by decide +kernel) (by decide +kernel)
theorem lk_501 : (Jvm.Cond.methodLink "NeverBelieved" (131 : Nat) ({ cls := "NeverBelieved$City", name := "believesHer", desc := "(I)Z" } : Jvm.MethodName)) ∈ mTb := mTm 501 (by decide +kernel) (by decide +kernel)
theorem lk_513 : (Jvm.Cond.methodLink "NeverBelieved" (140 : Nat) ({ cls := "NeverBelieved$Sentence", name := "isPair", desc := "(I)Z" } : Jvm.MethodName)) ∈ mTb := mTm 513 (by decide +kernel) (by decide +kernel)
theorem lk_520 : (Jvm.Cond.methodLink "NeverBelieved" (145 : Nat) ({ cls := "NeverBelieved", name := "refusalOf", desc := "(IIIII)I" } : Jvm.MethodName)) ∈ mTb := mTm 520 (by decide +kernel) (by decide +kernel)
theorem lk_530 : (Jvm.Cond.methodLink "NeverBelieved" (149 : Nat) ({ cls := "NeverBelieved$Foresight", name := "look", desc := "(IJ)V" } : Jvm.MethodName)) ∈ mTb := mTm 530 (by decide +kernel) (by decide +kernel)
theorem lk_555 : (Jvm.Cond.methodLink "NeverBelieved" (157 : Nat) ({ cls := "NeverBelieved$Sentence", name := "put", desc := "(IIIII)V" } : Jvm.MethodName)) ∈ mTb := mTm 555 (by decide +kernel) (by decide +kernel)
theorem lk_560 : (Jvm.Cond.methodLink "NeverBelieved" (161 : Nat) ({ cls := "NeverBelieved$Foresight", name := "listen", desc := "()V" } : Jvm.MethodName)) ∈ mTb := mTm 560 (by decide +kernel) (by decide +kernel)
theorem lk_583 : (Jvm.Cond.methodLink "NeverBelieved" (164 : Nat) ({ cls := "NeverBelieved$City", name := "everyone", desc := "()I" } : Jvm.MethodName)) ∈ mTb := mTm 583 (by decide +kernel) (by decide +kernel)
theorem lk_587 : (Jvm.Cond.methodLink "NeverBelieved" (168 : Nat) ({ cls := "NeverBelieved$Foresight", name := "isSoSaidTo", desc := "(I)Z" } : Jvm.MethodName)) ∈ mTb := mTm 587 (by decide +kernel) (by decide +kernel)
theorem lk_607 : (Jvm.Cond.methodLink "NeverBelieved" (171 : Nat) ({ cls := "NeverBelieved$Foresight", name := "mindsIfSaidTo", desc := "(I)J" } : Jvm.MethodName)) ∈ mTb := mTm 607 (by decide +kernel) (by decide +kernel)
theorem lk_616 : (Jvm.Cond.methodLink "NeverBelieved" (175 : Nat) ({ cls := "NeverBelieved$Minds", name := "whoDiffer", desc := "(JJ)I" } : Jvm.MethodName)) ∈ mTb := mTm 616 (by decide +kernel) (by decide +kernel)
theorem lk_620 : (Jvm.Cond.methodLink "NeverBelieved" (179 : Nat) ({ cls := "NeverBelieved$Days", name := "remember", desc := "()V" } : Jvm.MethodName)) ∈ mTb := mTm 620 (by decide +kernel) (by decide +kernel)
theorem lk_524 : (Jvm.Cond.methodLink "NeverBelieved" (182 : Nat) ({ cls := "NeverBelieved$Sentence", name := "isKind", desc := "(I)Z" } : Jvm.MethodName)) ∈ mTb := mTm 524 (by decide +kernel) (by decide +kernel)
theorem lk_527 : (Jvm.Cond.methodLink "NeverBelieved" (185 : Nat) ({ cls := "NeverBelieved", name := "isBit", desc := "(I)Z" } : Jvm.MethodName)) ∈ mTb := mTm 527 (by decide +kernel) (by decide +kernel)
theorem lk_635 : (Jvm.Cond.methodLink "NeverBelieved" (191 : Nat) ({ cls := "NeverBelieved$City", name := "doers", desc := "(J)I" } : Jvm.MethodName)) ∈ mTb := mTm 635 (by decide +kernel) (by decide +kernel)
theorem lk_636 : (Jvm.Cond.methodLink "NeverBelieved" (195 : Nat) ({ cls := "NeverBelieved$City", name := "dawn", desc := "(II)I" } : Jvm.MethodName)) ∈ mTb := mTm 636 (by decide +kernel) (by decide +kernel)
theorem lk_637 : (Jvm.Cond.methodLink "NeverBelieved" (199 : Nat) ({ cls := "NeverBelieved$City", name := "sumOf", desc := "(I)I" } : Jvm.MethodName)) ∈ mTb := mTm 637 (by decide +kernel) (by decide +kernel)
theorem lk_642 : (Jvm.Cond.methodLink "NeverBelieved" (203 : Nat) ({ cls := "NeverBelieved$Days", name := "stepBack", desc := "()Z" } : Jvm.MethodName)) ∈ mTb := mTm 642 (by decide +kernel) (by decide +kernel)
theorem lk_654 : (Jvm.Cond.methodLink "NeverBelieved" (210 : Nat) ({ cls := "NeverBelieved$Days", name := "put", desc := "(I)V" } : Jvm.MethodName)) ∈ mTb := mTm 654 (by decide +kernel) (by decide +kernel)
theorem lk_659 : (Jvm.Cond.methodLink "NeverBelieved" (215 : Nat) ({ cls := "NeverBelieved$Days", name := "take", desc := "(I)V" } : Jvm.MethodName)) ∈ mTb := mTm 659 (by decide +kernel) (by decide +kernel)
theorem lk_668 : (Jvm.Cond.methodLink "NeverBelieved" (218 : Nat) ({ cls := "NeverBelieved$Seer", name := "seekBest", desc := "(IJ)V" } : Jvm.MethodName)) ∈ mTb := mTm 668 (by decide +kernel) (by decide +kernel)
theorem lk_695 : (Jvm.Cond.methodLink "NeverBelieved" (230 : Nat) ({ cls := "NeverBelieved$Seer", name := "countEmpty", desc := "(I)V" } : Jvm.MethodName)) ∈ mTb := mTm 695 (by decide +kernel) (by decide +kernel)
theorem lk_716 : (Jvm.Cond.methodLink "NeverBelieved" (237 : Nat) ({ cls := "NeverBelieved$Seer", name := "countSaid", desc := "(IZ)V" } : Jvm.MethodName)) ∈ mTb := mTm 716 (by decide +kernel) (by decide +kernel)
theorem lk_728 : (Jvm.Cond.methodLink "NeverBelieved" (241 : Nat) ({ cls := "NeverBelieved$Seer", name := "countRests", desc := "(JIIII)V" } : Jvm.MethodName)) ∈ mTb := mTm 728 (by decide +kernel) (by decide +kernel)
theorem lk_746 : (Jvm.Cond.methodLink "NeverBelieved" (245 : Nat) ({ cls := "NeverBelieved$Bets", name := "add", desc := "(II)Z" } : Jvm.MethodName)) ∈ mTb := mTm 746 (by decide +kernel) (by decide +kernel)
theorem lk_758 : (Jvm.Cond.methodLink "NeverBelieved" (248 : Nat) ({ cls := "NeverBelieved$Seer", name := "outcomes", desc := "()J" } : Jvm.MethodName)) ∈ mTb := mTm 758 (by decide +kernel) (by decide +kernel)
theorem lk_763 : (Jvm.Cond.methodLink "NeverBelieved" (252 : Nat) ({ cls := "NeverBelieved$Bets", name := "choose", desc := "(J)V" } : Jvm.MethodName)) ∈ mTb := mTm 763 (by decide +kernel) (by decide +kernel)
theorem lk_780 : (Jvm.Cond.methodLink "NeverBelieved" (262 : Nat) ({ cls := "NeverBelieved$Seer", name := "seekPlan", desc := "(IJZ)V" } : Jvm.MethodName)) ∈ mTb := mTm 780 (by decide +kernel) (by decide +kernel)
theorem lk_802 : (Jvm.Cond.methodLink "NeverBelieved" (275 : Nat) ({ cls := "NeverBelieved$Seer", name := "sumOfSiege", desc := "(IIIJ)I" } : Jvm.MethodName)) ∈ mTb := mTm 802 (by decide +kernel) (by decide +kernel)
theorem lk_814 : (Jvm.Cond.methodLink "NeverBelieved" (282 : Nat) ({ cls := "NeverBelieved$Minds", name := "thingsBelieved", desc := "(J)I" } : Jvm.MethodName)) ∈ mTb := mTm 814 (by decide +kernel) (by decide +kernel)
theorem lk_161 : (Jvm.Cond.methodLink "NeverBelieved$Bets" (1 : Nat) ({ cls := "java/lang/Object", name := "<init>", desc := "()V" } : Jvm.MethodName)) ∈ mTb := mTm 161 (by decide +kernel) (by decide +kernel)
theorem lk_767 : (Jvm.Cond.methodLink "NeverBelieved$Bets" (26 : Nat) ({ cls := "NeverBelieved$Bets", name := "worstOf", desc := "(IJ)I" } : Jvm.MethodName)) ∈ mTb := mTm 767 (by decide +kernel) (by decide +kernel)
theorem lk_771 : (Jvm.Cond.methodLink "NeverBelieved$Bets" (30 : Nat) ({ cls := "NeverBelieved$Bets", name := "winOf", desc := "(II)I" } : Jvm.MethodName)) ∈ mTb := mTm 771 (by decide +kernel) (by decide +kernel)
theorem lk_775 : (Jvm.Cond.methodLink "NeverBelieved$Bets" (34 : Nat) ({ cls := "java/lang/Math", name := "min", desc := "(II)I" } : Jvm.MethodName)) ∈ mTb := mTm 775 (by decide +kernel) (by decide +kernel)
theorem lk_31 : (Jvm.Cond.methodLink "NeverBelieved$City" (1 : Nat) ({ cls := "java/lang/Object", name := "<init>", desc := "()V" } : Jvm.MethodName)) ∈ mTb := mTm 31 (by decide +kernel) (by decide +kernel)
theorem lk_438 : (Jvm.Cond.methodLink "NeverBelieved$City" (27 : Nat) ({ cls := "NeverBelieved$City", name := "clear", desc := "()V" } : Jvm.MethodName)) ∈ mTb := mTm 438 (by decide +kernel) (by decide +kernel)
theorem lk_442 : (Jvm.Cond.methodLink "NeverBelieved$City" (35 : Nat) ({ cls := "NeverBelieved$City", name := "addCause", desc := "([I)V" } : Jvm.MethodName)) ∈ mTb := mTm 442 (by decide +kernel) (by decide +kernel)
theorem lk_449 : (Jvm.Cond.methodLink "NeverBelieved$City" (39 : Nat) ({ cls := "NeverBelieved$Scroll", name := "isOfFact", desc := "(I)Z" } : Jvm.MethodName)) ∈ mTb := mTm 449 (by decide +kernel) (by decide +kernel)
theorem lk_450 : (Jvm.Cond.methodLink "NeverBelieved$City" (43 : Nat) ({ cls := "NeverBelieved$City", name := "addFact", desc := "(III)V" } : Jvm.MethodName)) ∈ mTb := mTm 450 (by decide +kernel) (by decide +kernel)
theorem lk_454 : (Jvm.Cond.methodLink "NeverBelieved$City" (47 : Nat) ({ cls := "NeverBelieved$City", name := "addOne", desc := "(I[I)V" } : Jvm.MethodName)) ∈ mTb := mTm 454 (by decide +kernel) (by decide +kernel)
theorem lk_446 : (Jvm.Cond.methodLink "NeverBelieved$City" (57 : Nat) ({ cls := "java/lang/System", name := "arraycopy", desc := "(Ljava/lang/Object;ILjava/lang/Object;II)V" } : Jvm.MethodName)) ∈ mTb := mTm 446 (by decide +kernel) (by decide +kernel)
theorem lk_543 : (Jvm.Cond.methodLink "NeverBelieved$City" (63 : Nat) ({ cls := "NeverBelieved$Minds", name := "holds", desc := "(III)Z" } : Jvm.MethodName)) ∈ mTb := mTm 543 (by decide +kernel) (by decide +kernel)
theorem lk_538 : (Jvm.Cond.methodLink "NeverBelieved$City" (69 : Nat) ({ cls := "NeverBelieved$Minds", name := "mindOf", desc := "(JI)I" } : Jvm.MethodName)) ∈ mTb := mTm 538 (by decide +kernel) (by decide +kernel)
theorem lk_539 : (Jvm.Cond.methodLink "NeverBelieved$City" (73 : Nat) ({ cls := "NeverBelieved$City", name := "doesDeed", desc := "(II)Z" } : Jvm.MethodName)) ∈ mTb := mTm 539 (by decide +kernel) (by decide +kernel)
theorem lk_548 : (Jvm.Cond.methodLink "NeverBelieved$City" (77 : Nat) ({ cls := "NeverBelieved$City", name := "become", desc := "(III)I" } : Jvm.MethodName)) ∈ mTb := mTm 548 (by decide +kernel) (by decide +kernel)
theorem lk_121 : (Jvm.Cond.methodLink "NeverBelieved$Days" (1 : Nat) ({ cls := "java/lang/Object", name := "<init>", desc := "()V" } : Jvm.MethodName)) ∈ mTb := mTm 121 (by decide +kernel) (by decide +kernel)
theorem lk_624 : (Jvm.Cond.methodLink "NeverBelieved$Days" (40 : Nat) ({ cls := "NeverBelieved$Days", name := "put", desc := "(I)V" } : Jvm.MethodName)) ∈ mTb := mTm 624 (by decide +kernel) (by decide +kernel)
theorem lk_628 : (Jvm.Cond.methodLink "NeverBelieved$Days" (44 : Nat) ({ cls := "java/lang/Math", name := "min", desc := "(II)I" } : Jvm.MethodName)) ∈ mTb := mTm 628 (by decide +kernel) (by decide +kernel)
theorem lk_646 : (Jvm.Cond.methodLink "NeverBelieved$Days" (50 : Nat) ({ cls := "NeverBelieved$Days", name := "take", desc := "(I)V" } : Jvm.MethodName)) ∈ mTb := mTm 646 (by decide +kernel) (by decide +kernel)
theorem lk_186 : (Jvm.Cond.methodLink "NeverBelieved$Foresight" (1 : Nat) ({ cls := "java/lang/Object", name := "<init>", desc := "()V" } : Jvm.MethodName)) ∈ mTb := mTm 186 (by decide +kernel) (by decide +kernel)
theorem lk_534 : (Jvm.Cond.methodLink "NeverBelieved$Foresight" (43 : Nat) ({ cls := "NeverBelieved$City", name := "doers", desc := "(J)I" } : Jvm.MethodName)) ∈ mTb := mTm 534 (by decide +kernel) (by decide +kernel)
theorem lk_544 : (Jvm.Cond.methodLink "NeverBelieved$Foresight" (53 : Nat) ({ cls := "NeverBelieved$City", name := "dawn", desc := "(II)I" } : Jvm.MethodName)) ∈ mTb := mTm 544 (by decide +kernel) (by decide +kernel)
theorem lk_551 : (Jvm.Cond.methodLink "NeverBelieved$Foresight" (57 : Nat) ({ cls := "NeverBelieved$City", name := "sumOf", desc := "(I)I" } : Jvm.MethodName)) ∈ mTb := mTm 551 (by decide +kernel) (by decide +kernel)
theorem lk_681 : (Jvm.Cond.methodLink "NeverBelieved$Foresight" (64 : Nat) ({ cls := "NeverBelieved$Sentence", name := "comeTo", desc := "(II)Z" } : Jvm.MethodName)) ∈ mTb := mTm 681 (by decide +kernel) (by decide +kernel)
theorem lk_599 : (Jvm.Cond.methodLink "NeverBelieved$Foresight" (71 : Nat) ({ cls := "NeverBelieved$Sentence", name := "stands", desc := "(I)Z" } : Jvm.MethodName)) ∈ mTb := mTm 599 (by decide +kernel) (by decide +kernel)
theorem lk_564 : (Jvm.Cond.methodLink "NeverBelieved$Foresight" (81 : Nat) ({ cls := "NeverBelieved$Minds", name := "mindOf", desc := "(JI)I" } : Jvm.MethodName)) ∈ mTb := mTm 564 (by decide +kernel) (by decide +kernel)
theorem lk_565 : (Jvm.Cond.methodLink "NeverBelieved$Foresight" (87 : Nat) ({ cls := "NeverBelieved$Sentence", name := "believed", desc := "(I)I" } : Jvm.MethodName)) ∈ mTb := mTm 565 (by decide +kernel) (by decide +kernel)
theorem lk_577 : (Jvm.Cond.methodLink "NeverBelieved$Foresight" (90 : Nat) ({ cls := "NeverBelieved$City", name := "believesHer", desc := "(I)Z" } : Jvm.MethodName)) ∈ mTb := mTm 577 (by decide +kernel) (by decide +kernel)
theorem lk_578 : (Jvm.Cond.methodLink "NeverBelieved$Foresight" (93 : Nat) ({ cls := "NeverBelieved$Sentence", name := "doubted", desc := "(I)I" } : Jvm.MethodName)) ∈ mTb := mTm 578 (by decide +kernel) (by decide +kernel)
theorem lk_582 : (Jvm.Cond.methodLink "NeverBelieved$Foresight" (96 : Nat) ({ cls := "NeverBelieved$City", name := "doesDeed", desc := "(II)Z" } : Jvm.MethodName)) ∈ mTb := mTm 582 (by decide +kernel) (by decide +kernel)
theorem lk_591 : (Jvm.Cond.methodLink "NeverBelieved$Foresight" (102 : Nat) ({ cls := "NeverBelieved$Foresight", name := "truthIfSaidTo", desc := "(I)I" } : Jvm.MethodName)) ∈ mTb := mTm 591 (by decide +kernel) (by decide +kernel)
theorem lk_595 : (Jvm.Cond.methodLink "NeverBelieved$Foresight" (105 : Nat) ({ cls := "NeverBelieved$Foresight", name := "doersIfSaidTo", desc := "(I)I" } : Jvm.MethodName)) ∈ mTb := mTm 595 (by decide +kernel) (by decide +kernel)
theorem lk_707 : (Jvm.Cond.methodLink "NeverBelieved$Foresight" (108 : Nat) ({ cls := "NeverBelieved$Foresight", name := "mindsIfSaidTo", desc := "(I)J" } : Jvm.MethodName)) ∈ mTb := mTm 707 (by decide +kernel) (by decide +kernel)
theorem lk_611 : (Jvm.Cond.methodLink "NeverBelieved$Foresight" (112 : Nat) ({ cls := "NeverBelieved$Minds", name := "withMind", desc := "(JII)J" } : Jvm.MethodName)) ∈ mTb := mTm 611 (by decide +kernel) (by decide +kernel)
theorem lk_619 : (Jvm.Cond.methodLink "NeverBelieved$Minds" (15 : Nat) ({ cls := "NeverBelieved$Minds", name := "mindOf", desc := "(JI)I" } : Jvm.MethodName)) ∈ mTb := mTm 619 (by decide +kernel) (by decide +kernel)
theorem lk_817 : (Jvm.Cond.methodLink "NeverBelieved$Minds" (19 : Nat) ({ cls := "java/lang/Integer", name := "bitCount", desc := "(I)I" } : Jvm.MethodName)) ∈ mTb := mTm 817 (by decide +kernel) (by decide +kernel)
theorem lk_80 : (Jvm.Cond.methodLink "NeverBelieved$Scroll" (3 : Nat) ({ cls := "java/lang/Object", name := "<init>", desc := "()V" } : Jvm.MethodName)) ∈ mTb := mTm 80 (by decide +kernel) (by decide +kernel)
theorem lk_324 : (Jvm.Cond.methodLink "NeverBelieved$Scroll" (50 : Nat) ({ cls := "NeverBelieved$Scroll", name := "nextToken", desc := "()V" } : Jvm.MethodName)) ∈ mTb := mTm 324 (by decide +kernel) (by decide +kernel)
theorem lk_331 : (Jvm.Cond.methodLink "NeverBelieved$Scroll" (53 : Nat) ({ cls := "NeverBelieved$Scroll", name := "readClause", desc := "([I)Z" } : Jvm.MethodName)) ∈ mTb := mTm 331 (by decide +kernel) (by decide +kernel)
theorem lk_328 : (Jvm.Cond.methodLink "NeverBelieved$Scroll" (63 : Nat) ({ cls := "NeverBelieved$Scroll", name := "sortOf", desc := "(I)I" } : Jvm.MethodName)) ∈ mTb := mTm 328 (by decide +kernel) (by decide +kernel)
theorem lk_335 : (Jvm.Cond.methodLink "NeverBelieved$Scroll" (67 : Nat) ({ cls := "NeverBelieved$Scroll", name := "wordOfToken", desc := "()I" } : Jvm.MethodName)) ∈ mTb := mTm 335 (by decide +kernel) (by decide +kernel)
theorem lk_403 : (Jvm.Cond.methodLink "NeverBelieved$Scroll" (71 : Nat) ({ cls := "NeverBelieved$Scroll", name := "hasRoomFor", desc := "(I)Z" } : Jvm.MethodName)) ∈ mTb := mTm 403 (by decide +kernel) (by decide +kernel)
theorem lk_410 : (Jvm.Cond.methodLink "NeverBelieved$Scroll" (75 : Nat) ({ cls := "NeverBelieved$Scroll", name := "numbersOf", desc := "(I)Ljava/lang/String;" } : Jvm.MethodName)) ∈ mTb := mTm 410 (by decide +kernel) (by decide +kernel)
theorem lk_355 : (Jvm.Cond.methodLink "NeverBelieved$Scroll" (79 : Nat) ({ cls := "java/lang/String", name := "length", desc := "()I" } : Jvm.MethodName)) ∈ mTb := mTm 355 (by decide +kernel) (by decide +kernel)
theorem lk_417 : (Jvm.Cond.methodLink "NeverBelieved$Scroll" (83 : Nat) ({ cls := "NeverBelieved$Scroll", name := "numberOfToken", desc := "()I" } : Jvm.MethodName)) ∈ mTb := mTm 417 (by decide +kernel) (by decide +kernel)
theorem lk_365 : (Jvm.Cond.methodLink "NeverBelieved$Scroll" (86 : Nat) ({ cls := "java/lang/String", name := "charAt", desc := "(I)C" } : Jvm.MethodName)) ∈ mTb := mTm 365 (by decide +kernel) (by decide +kernel)
theorem lk_421 : (Jvm.Cond.methodLink "NeverBelieved$Scroll" (90 : Nat) ({ cls := "NeverBelieved$Scroll", name := "mostOf", desc := "(C)I" } : Jvm.MethodName)) ∈ mTb := mTm 421 (by decide +kernel) (by decide +kernel)
theorem lk_425 : (Jvm.Cond.methodLink "NeverBelieved$Scroll" (94 : Nat) ({ cls := "NeverBelieved$Scroll", name := "countIn", desc := "(I)V" } : Jvm.MethodName)) ∈ mTb := mTm 425 (by decide +kernel) (by decide +kernel)
theorem lk_339 : (Jvm.Cond.methodLink "NeverBelieved$Scroll" (98 : Nat) ({ cls := "NeverBelieved$Scroll", name := "textOf", desc := "(I)Ljava/lang/String;" } : Jvm.MethodName)) ∈ mTb := mTm 339 (by decide +kernel) (by decide +kernel)
theorem lk_351 : (Jvm.Cond.methodLink "NeverBelieved$Scroll" (101 : Nat) ({ cls := "NeverBelieved$Scroll", name := "isToken", desc := "(Ljava/lang/String;)Z" } : Jvm.MethodName)) ∈ mTb := mTm 351 (by decide +kernel) (by decide +kernel)
theorem lk_407 : (Jvm.Cond.methodLink "NeverBelieved$Scroll" (131 : Nat) ({ cls := "NeverBelieved$Scroll", name := "isOfFact", desc := "(I)Z" } : Jvm.MethodName)) ∈ mTb := mTm 407 (by decide +kernel) (by decide +kernel)
theorem lk_251 : (Jvm.Cond.methodLink "NeverBelieved$Seer" (3 : Nat) ({ cls := "java/lang/Object", name := "<init>", desc := "()V" } : Jvm.MethodName)) ∈ mTb := mTm 251 (by decide +kernel) (by decide +kernel)
theorem lk_672 : (Jvm.Cond.methodLink "NeverBelieved$Seer" (26 : Nat) ({ cls := "NeverBelieved$Foresight", name := "look", desc := "(IJ)V" } : Jvm.MethodName)) ∈ mTb := mTm 672 (by decide +kernel) (by decide +kernel)
theorem lk_673 : (Jvm.Cond.methodLink "NeverBelieved$Seer" (32 : Nat) ({ cls := "NeverBelieved$Foresight", name := "sumIfSaidTo", desc := "(I)I" } : Jvm.MethodName)) ∈ mTb := mTm 673 (by decide +kernel) (by decide +kernel)
theorem lk_677 : (Jvm.Cond.methodLink "NeverBelieved$Seer" (53 : Nat) ({ cls := "NeverBelieved$Foresight", name := "comeTo", desc := "(I)Z" } : Jvm.MethodName)) ∈ mTb := mTm 677 (by decide +kernel) (by decide +kernel)
theorem lk_685 : (Jvm.Cond.methodLink "NeverBelieved$Seer" (57 : Nat) ({ cls := "NeverBelieved$Foresight", name := "listen", desc := "()V" } : Jvm.MethodName)) ∈ mTb := mTm 685 (by decide +kernel) (by decide +kernel)
theorem lk_686 : (Jvm.Cond.methodLink "NeverBelieved$Seer" (60 : Nat) ({ cls := "NeverBelieved$Foresight", name := "isSoSaidTo", desc := "(I)Z" } : Jvm.MethodName)) ∈ mTb := mTm 686 (by decide +kernel) (by decide +kernel)
theorem lk_687 : (Jvm.Cond.methodLink "NeverBelieved$Seer" (67 : Nat) ({ cls := "NeverBelieved$Sentence", name := "number", desc := "()I" } : Jvm.MethodName)) ∈ mTb := mTm 687 (by decide +kernel) (by decide +kernel)
theorem lk_699 : (Jvm.Cond.methodLink "NeverBelieved$Seer" (76 : Nat) ({ cls := "NeverBelieved$Seer", name := "startCounting", desc := "()V" } : Jvm.MethodName)) ∈ mTb := mTm 699 (by decide +kernel) (by decide +kernel)
theorem lk_703 : (Jvm.Cond.methodLink "NeverBelieved$Seer" (79 : Nat) ({ cls := "NeverBelieved$Foresight", name := "movesIfSaidTo", desc := "(I)Z" } : Jvm.MethodName)) ∈ mTb := mTm 703 (by decide +kernel) (by decide +kernel)
theorem lk_708 : (Jvm.Cond.methodLink "NeverBelieved$Seer" (82 : Nat) ({ cls := "NeverBelieved$Seer", name := "countIn", desc := "(I)V" } : Jvm.MethodName)) ∈ mTb := mTm 708 (by decide +kernel) (by decide +kernel)
theorem lk_720 : (Jvm.Cond.methodLink "NeverBelieved$Seer" (86 : Nat) ({ cls := "NeverBelieved$Foresight", name := "doesDeedIfTold", desc := "(I)Z" } : Jvm.MethodName)) ∈ mTb := mTm 720 (by decide +kernel) (by decide +kernel)
theorem lk_732 : (Jvm.Cond.methodLink "NeverBelieved$Seer" (89 : Nat) ({ cls := "NeverBelieved$Seer", name := "stance", desc := "(JIII)J" } : Jvm.MethodName)) ∈ mTb := mTm 732 (by decide +kernel) (by decide +kernel)
theorem lk_738 : (Jvm.Cond.methodLink "NeverBelieved$Seer" (93 : Nat) ({ cls := "NeverBelieved$Foresight", name := "sumIfHeld", desc := "(J)I" } : Jvm.MethodName)) ∈ mTb := mTm 738 (by decide +kernel) (by decide +kernel)
theorem lk_735 : (Jvm.Cond.methodLink "NeverBelieved$Seer" (97 : Nat) ({ cls := "NeverBelieved$Minds", name := "mindOf", desc := "(JI)I" } : Jvm.MethodName)) ∈ mTb := mTm 735 (by decide +kernel) (by decide +kernel)
theorem lk_736 : (Jvm.Cond.methodLink "NeverBelieved$Seer" (103 : Nat) ({ cls := "NeverBelieved$Minds", name := "hold", desc := "(III)I" } : Jvm.MethodName)) ∈ mTb := mTm 736 (by decide +kernel) (by decide +kernel)
theorem lk_737 : (Jvm.Cond.methodLink "NeverBelieved$Seer" (107 : Nat) ({ cls := "NeverBelieved$Minds", name := "withMind", desc := "(JII)J" } : Jvm.MethodName)) ∈ mTb := mTm 737 (by decide +kernel) (by decide +kernel)
theorem lk_762 : (Jvm.Cond.methodLink "NeverBelieved$Seer" (111 : Nat) ({ cls := "NeverBelieved$Foresight", name := "truthIfSaidTo", desc := "(I)I" } : Jvm.MethodName)) ∈ mTb := mTm 762 (by decide +kernel) (by decide +kernel)
theorem lk_784 : (Jvm.Cond.methodLink "NeverBelieved$Seer" (114 : Nat) ({ cls := "NeverBelieved$Seer", name := "sumOfPlan", desc := "(IZ)I" } : Jvm.MethodName)) ∈ mTb := mTm 784 (by decide +kernel) (by decide +kernel)
theorem lk_789 : (Jvm.Cond.methodLink "NeverBelieved$Seer" (118 : Nat) ({ cls := "NeverBelieved$Sentence", name := "placeOfSingle", desc := "(I)I" } : Jvm.MethodName)) ∈ mTb := mTm 789 (by decide +kernel) (by decide +kernel)
theorem lk_788 : (Jvm.Cond.methodLink "NeverBelieved$Seer" (121 : Nat) ({ cls := "NeverBelieved$Foresight", name := "mindsIfSaidTo", desc := "(I)J" } : Jvm.MethodName)) ∈ mTb := mTm 788 (by decide +kernel) (by decide +kernel)
theorem lk_792 : (Jvm.Cond.methodLink "NeverBelieved$Seer" (125 : Nat) ({ cls := "java/lang/Math", name := "max", desc := "(II)I" } : Jvm.MethodName)) ∈ mTb := mTm 792 (by decide +kernel) (by decide +kernel)
theorem lk_806 : (Jvm.Cond.methodLink "NeverBelieved$Seer" (134 : Nat) ({ cls := "NeverBelieved$Seer", name := "seekBest", desc := "(IJ)V" } : Jvm.MethodName)) ∈ mTb := mTm 806 (by decide +kernel) (by decide +kernel)
theorem lk_807 : (Jvm.Cond.methodLink "NeverBelieved$Seer" (137 : Nat) ({ cls := "NeverBelieved$City", name := "doers", desc := "(J)I" } : Jvm.MethodName)) ∈ mTb := mTm 807 (by decide +kernel) (by decide +kernel)
theorem lk_808 : (Jvm.Cond.methodLink "NeverBelieved$Seer" (140 : Nat) ({ cls := "NeverBelieved$City", name := "dawn", desc := "(II)I" } : Jvm.MethodName)) ∈ mTb := mTm 808 (by decide +kernel) (by decide +kernel)
theorem lk_809 : (Jvm.Cond.methodLink "NeverBelieved$Seer" (143 : Nat) ({ cls := "NeverBelieved$City", name := "sumOf", desc := "(I)I" } : Jvm.MethodName)) ∈ mTb := mTm 809 (by decide +kernel) (by decide +kernel)
theorem lk_192 : (Jvm.Cond.methodLink "NeverBelieved$Sentence" (3 : Nat) ({ cls := "java/lang/Object", name := "<init>", desc := "()V" } : Jvm.MethodName)) ∈ mTb := mTm 192 (by decide +kernel) (by decide +kernel)
theorem lk_559 : (Jvm.Cond.methodLink "NeverBelieved$Sentence" (9 : Nat) ({ cls := "NeverBelieved$Sentence", name := "isPair", desc := "(I)Z" } : Jvm.MethodName)) ∈ mTb := mTm 559 (by decide +kernel) (by decide +kernel)
theorem lk_569 : (Jvm.Cond.methodLink "NeverBelieved$Sentence" (29 : Nat) ({ cls := "NeverBelieved$Minds", name := "hold", desc := "(III)I" } : Jvm.MethodName)) ∈ mTb := mTm 569 (by decide +kernel) (by decide +kernel)
theorem lk_572 : (Jvm.Cond.methodLink "NeverBelieved$Sentence" (35 : Nat) ({ cls := "NeverBelieved$Sentence", name := "oneAtLeast", desc := "(III)I" } : Jvm.MethodName)) ∈ mTb := mTm 572 (by decide +kernel) (by decide +kernel)
theorem lk_576 : (Jvm.Cond.methodLink "NeverBelieved$Sentence" (38 : Nat) ({ cls := "NeverBelieved$Minds", name := "holds", desc := "(III)Z" } : Jvm.MethodName)) ∈ mTb := mTm 576 (by decide +kernel) (by decide +kernel)
theorem lk_20 : (Jvm.Cond.methodLink "NeverBelievedLaw" (9 : Nat) ({ cls := "NeverBelieved", name := "<init>", desc := "()V" } : Jvm.MethodName)) ∈ mTb := mTm 20 (by decide +kernel) (by decide +kernel)
theorem lk_825 : (Jvm.Cond.methodLink "NeverBelievedLaw" (12 : Nat) ({ cls := "NeverBelievedModel", name := "<init>", desc := "()V" } : Jvm.MethodName)) ∈ mTb := mTm 825 (by decide +kernel) (by decide +kernel)
theorem lk_304 : (Jvm.Cond.methodLink "NeverBelievedLaw" (13 : Nat) ({ cls := "NeverBelieved", name := "write", desc := "(I)I" } : Jvm.MethodName)) ∈ mTb := mTm 304 (by decide +kernel) (by decide +kernel)
theorem lk_952 : (Jvm.Cond.methodLink "NeverBelievedLaw" (17 : Nat) ({ cls := "NeverBelievedModel", name := "write", desc := "(I)I" } : Jvm.MethodName)) ∈ mTb := mTm 952 (by decide +kernel) (by decide +kernel)
theorem lk_312 : (Jvm.Cond.methodLink "NeverBelievedLaw" (18 : Nat) ({ cls := "NeverBelieved", name := "erase", desc := "()I" } : Jvm.MethodName)) ∈ mTb := mTm 312 (by decide +kernel) (by decide +kernel)
theorem lk_959 : (Jvm.Cond.methodLink "NeverBelievedLaw" (22 : Nat) ({ cls := "NeverBelievedModel", name := "erase", desc := "()I" } : Jvm.MethodName)) ∈ mTb := mTm 959 (by decide +kernel) (by decide +kernel)
theorem lk_316 : (Jvm.Cond.methodLink "NeverBelievedLaw" (23 : Nat) ({ cls := "NeverBelieved", name := "fault", desc := "()I" } : Jvm.MethodName)) ∈ mTb := mTm 316 (by decide +kernel) (by decide +kernel)
theorem lk_963 : (Jvm.Cond.methodLink "NeverBelievedLaw" (26 : Nat) ({ cls := "NeverBelievedModel", name := "fault", desc := "()I" } : Jvm.MethodName)) ∈ mTb := mTm 963 (by decide +kernel) (by decide +kernel)
theorem lk_430 : (Jvm.Cond.methodLink "NeverBelievedLaw" (27 : Nat) ({ cls := "NeverBelieved", name := "city", desc := "()I" } : Jvm.MethodName)) ∈ mTb := mTm 430 (by decide +kernel) (by decide +kernel)
theorem lk_1010 : (Jvm.Cond.methodLink "NeverBelievedLaw" (30 : Nat) ({ cls := "NeverBelievedModel", name := "city", desc := "()I" } : Jvm.MethodName)) ∈ mTb := mTm 1010 (by decide +kernel) (by decide +kernel)
theorem lk_462 : (Jvm.Cond.methodLink "NeverBelievedLaw" (31 : Nat) ({ cls := "NeverBelieved", name := "fact", desc := "(II)I" } : Jvm.MethodName)) ∈ mTb := mTm 462 (by decide +kernel) (by decide +kernel)
theorem lk_1018 : (Jvm.Cond.methodLink "NeverBelievedLaw" (35 : Nat) ({ cls := "NeverBelievedModel", name := "fact", desc := "(II)I" } : Jvm.MethodName)) ∈ mTb := mTm 1018 (by decide +kernel) (by decide +kernel)
theorem lk_470 : (Jvm.Cond.methodLink "NeverBelievedLaw" (36 : Nat) ({ cls := "NeverBelieved", name := "one", desc := "(II)I" } : Jvm.MethodName)) ∈ mTb := mTm 470 (by decide +kernel) (by decide +kernel)
theorem lk_1026 : (Jvm.Cond.methodLink "NeverBelievedLaw" (39 : Nat) ({ cls := "NeverBelievedModel", name := "one", desc := "(II)I" } : Jvm.MethodName)) ∈ mTb := mTm 1026 (by decide +kernel) (by decide +kernel)
theorem lk_478 : (Jvm.Cond.methodLink "NeverBelievedLaw" (40 : Nat) ({ cls := "NeverBelieved", name := "cause", desc := "(II)I" } : Jvm.MethodName)) ∈ mTb := mTm 478 (by decide +kernel) (by decide +kernel)
theorem lk_1034 : (Jvm.Cond.methodLink "NeverBelievedLaw" (43 : Nat) ({ cls := "NeverBelievedModel", name := "cause", desc := "(II)I" } : Jvm.MethodName)) ∈ mTb := mTm 1034 (by decide +kernel) (by decide +kernel)
theorem lk_482 : (Jvm.Cond.methodLink "NeverBelievedLaw" (44 : Nat) ({ cls := "NeverBelieved", name := "belief", desc := "(II)I" } : Jvm.MethodName)) ∈ mTb := mTm 482 (by decide +kernel) (by decide +kernel)
theorem lk_1038 : (Jvm.Cond.methodLink "NeverBelievedLaw" (47 : Nat) ({ cls := "NeverBelievedModel", name := "belief", desc := "(II)I" } : Jvm.MethodName)) ∈ mTb := mTm 1038 (by decide +kernel) (by decide +kernel)
theorem lk_492 : (Jvm.Cond.methodLink "NeverBelievedLaw" (48 : Nat) ({ cls := "NeverBelieved", name := "as", desc := "(II)I" } : Jvm.MethodName)) ∈ mTb := mTm 492 (by decide +kernel) (by decide +kernel)
theorem lk_1042 : (Jvm.Cond.methodLink "NeverBelievedLaw" (51 : Nat) ({ cls := "NeverBelievedModel", name := "as", desc := "(II)I" } : Jvm.MethodName)) ∈ mTb := mTm 1042 (by decide +kernel) (by decide +kernel)
theorem lk_505 : (Jvm.Cond.methodLink "NeverBelievedLaw" (52 : Nat) ({ cls := "NeverBelieved", name := "sayingAs", desc := "(II)I" } : Jvm.MethodName)) ∈ mTb := mTm 505 (by decide +kernel) (by decide +kernel)
theorem lk_1054 : (Jvm.Cond.methodLink "NeverBelievedLaw" (55 : Nat) ({ cls := "NeverBelievedModel", name := "sayingAs", desc := "(II)I" } : Jvm.MethodName)) ∈ mTb := mTm 1054 (by decide +kernel) (by decide +kernel)
theorem lk_516 : (Jvm.Cond.methodLink "NeverBelievedLaw" (56 : Nat) ({ cls := "NeverBelieved", name := "so", desc := "(IIIII)I" } : Jvm.MethodName)) ∈ mTb := mTm 516 (by decide +kernel) (by decide +kernel)
theorem lk_1058 : (Jvm.Cond.methodLink "NeverBelievedLaw" (60 : Nat) ({ cls := "NeverBelievedModel", name := "so", desc := "(IIIII)I" } : Jvm.MethodName)) ∈ mTb := mTm 1058 (by decide +kernel) (by decide +kernel)
theorem lk_603 : (Jvm.Cond.methodLink "NeverBelievedLaw" (61 : Nat) ({ cls := "NeverBelieved", name := "say", desc := "(IIIIII)I" } : Jvm.MethodName)) ∈ mTb := mTm 603 (by decide +kernel) (by decide +kernel)
theorem lk_1103 : (Jvm.Cond.methodLink "NeverBelievedLaw" (65 : Nat) ({ cls := "NeverBelievedModel", name := "say", desc := "(IIIIII)I" } : Jvm.MethodName)) ∈ mTb := mTm 1103 (by decide +kernel) (by decide +kernel)
theorem lk_631 : (Jvm.Cond.methodLink "NeverBelievedLaw" (66 : Nat) ({ cls := "NeverBelieved", name := "night", desc := "()I" } : Jvm.MethodName)) ∈ mTb := mTm 631 (by decide +kernel) (by decide +kernel)
theorem lk_1115 : (Jvm.Cond.methodLink "NeverBelievedLaw" (69 : Nat) ({ cls := "NeverBelievedModel", name := "night", desc := "()I" } : Jvm.MethodName)) ∈ mTb := mTm 1115 (by decide +kernel) (by decide +kernel)
theorem lk_638 : (Jvm.Cond.methodLink "NeverBelievedLaw" (70 : Nat) ({ cls := "NeverBelieved", name := "undo", desc := "()I" } : Jvm.MethodName)) ∈ mTb := mTm 638 (by decide +kernel) (by decide +kernel)
theorem lk_1123 : (Jvm.Cond.methodLink "NeverBelievedLaw" (73 : Nat) ({ cls := "NeverBelievedModel", name := "undo", desc := "()I" } : Jvm.MethodName)) ∈ mTb := mTm 1123 (by decide +kernel) (by decide +kernel)
theorem lk_650 : (Jvm.Cond.methodLink "NeverBelievedLaw" (74 : Nat) ({ cls := "NeverBelieved", name := "keep", desc := "(I)I" } : Jvm.MethodName)) ∈ mTb := mTm 650 (by decide +kernel) (by decide +kernel)
theorem lk_1127 : (Jvm.Cond.methodLink "NeverBelievedLaw" (77 : Nat) ({ cls := "NeverBelievedModel", name := "keep", desc := "(I)I" } : Jvm.MethodName)) ∈ mTb := mTm 1127 (by decide +kernel) (by decide +kernel)
theorem lk_655 : (Jvm.Cond.methodLink "NeverBelievedLaw" (78 : Nat) ({ cls := "NeverBelieved", name := "back", desc := "(I)I" } : Jvm.MethodName)) ∈ mTb := mTm 655 (by decide +kernel) (by decide +kernel)
theorem lk_1131 : (Jvm.Cond.methodLink "NeverBelievedLaw" (81 : Nat) ({ cls := "NeverBelievedModel", name := "back", desc := "(I)I" } : Jvm.MethodName)) ∈ mTb := mTm 1131 (by decide +kernel) (by decide +kernel)
theorem lk_660 : (Jvm.Cond.methodLink "NeverBelievedLaw" (82 : Nat) ({ cls := "NeverBelieved", name := "coming", desc := "(II)I" } : Jvm.MethodName)) ∈ mTb := mTm 660 (by decide +kernel) (by decide +kernel)
theorem lk_1135 : (Jvm.Cond.methodLink "NeverBelievedLaw" (85 : Nat) ({ cls := "NeverBelievedModel", name := "coming", desc := "(II)I" } : Jvm.MethodName)) ∈ mTb := mTm 1135 (by decide +kernel) (by decide +kernel)
theorem lk_664 : (Jvm.Cond.methodLink "NeverBelievedLaw" (86 : Nat) ({ cls := "NeverBelieved", name := "best", desc := "(I)I" } : Jvm.MethodName)) ∈ mTb := mTm 664 (by decide +kernel) (by decide +kernel)
theorem lk_1139 : (Jvm.Cond.methodLink "NeverBelievedLaw" (89 : Nat) ({ cls := "NeverBelievedModel", name := "best", desc := "(I)I" } : Jvm.MethodName)) ∈ mTb := mTm 1139 (by decide +kernel) (by decide +kernel)
theorem lk_691 : (Jvm.Cond.methodLink "NeverBelievedLaw" (90 : Nat) ({ cls := "NeverBelieved", name := "empty", desc := "(II)I" } : Jvm.MethodName)) ∈ mTb := mTm 691 (by decide +kernel) (by decide +kernel)
theorem lk_1155 : (Jvm.Cond.methodLink "NeverBelievedLaw" (93 : Nat) ({ cls := "NeverBelievedModel", name := "empty", desc := "(II)I" } : Jvm.MethodName)) ∈ mTb := mTm 1155 (by decide +kernel) (by decide +kernel)
theorem lk_712 : (Jvm.Cond.methodLink "NeverBelievedLaw" (94 : Nat) ({ cls := "NeverBelieved", name := "said", desc := "(III)I" } : Jvm.MethodName)) ∈ mTb := mTm 712 (by decide +kernel) (by decide +kernel)
theorem lk_1163 : (Jvm.Cond.methodLink "NeverBelievedLaw" (98 : Nat) ({ cls := "NeverBelievedModel", name := "said", desc := "(III)I" } : Jvm.MethodName)) ∈ mTb := mTm 1163 (by decide +kernel) (by decide +kernel)
theorem lk_724 : (Jvm.Cond.methodLink "NeverBelievedLaw" (99 : Nat) ({ cls := "NeverBelieved", name := "rests", desc := "(IIIII)I" } : Jvm.MethodName)) ∈ mTb := mTm 724 (by decide +kernel) (by decide +kernel)
theorem lk_1167 : (Jvm.Cond.methodLink "NeverBelievedLaw" (102 : Nat) ({ cls := "NeverBelievedModel", name := "rests", desc := "(IIIII)I" } : Jvm.MethodName)) ∈ mTb := mTm 1167 (by decide +kernel) (by decide +kernel)
theorem lk_742 : (Jvm.Cond.methodLink "NeverBelievedLaw" (103 : Nat) ({ cls := "NeverBelieved", name := "bet", desc := "(II)I" } : Jvm.MethodName)) ∈ mTb := mTm 742 (by decide +kernel) (by decide +kernel)
theorem lk_1175 : (Jvm.Cond.methodLink "NeverBelievedLaw" (106 : Nat) ({ cls := "NeverBelievedModel", name := "bet", desc := "(II)I" } : Jvm.MethodName)) ∈ mTb := mTm 1175 (by decide +kernel) (by decide +kernel)
theorem lk_750 : (Jvm.Cond.methodLink "NeverBelievedLaw" (107 : Nat) ({ cls := "NeverBelieved", name := "call", desc := "()I" } : Jvm.MethodName)) ∈ mTb := mTm 750 (by decide +kernel) (by decide +kernel)
theorem lk_1179 : (Jvm.Cond.methodLink "NeverBelievedLaw" (110 : Nat) ({ cls := "NeverBelievedModel", name := "call", desc := "()I" } : Jvm.MethodName)) ∈ mTb := mTm 1179 (by decide +kernel) (by decide +kernel)
theorem lk_754 : (Jvm.Cond.methodLink "NeverBelievedLaw" (111 : Nat) ({ cls := "NeverBelieved", name := "sure", desc := "(I)I" } : Jvm.MethodName)) ∈ mTb := mTm 754 (by decide +kernel) (by decide +kernel)
theorem lk_1183 : (Jvm.Cond.methodLink "NeverBelievedLaw" (114 : Nat) ({ cls := "NeverBelievedModel", name := "sure", desc := "(I)I" } : Jvm.MethodName)) ∈ mTb := mTm 1183 (by decide +kernel) (by decide +kernel)
theorem lk_776 : (Jvm.Cond.methodLink "NeverBelievedLaw" (115 : Nat) ({ cls := "NeverBelieved", name := "plan", desc := "(II)I" } : Jvm.MethodName)) ∈ mTb := mTm 776 (by decide +kernel) (by decide +kernel)
theorem lk_1192 : (Jvm.Cond.methodLink "NeverBelievedLaw" (118 : Nat) ({ cls := "NeverBelievedModel", name := "plan", desc := "(II)I" } : Jvm.MethodName)) ∈ mTb := mTm 1192 (by decide +kernel) (by decide +kernel)
theorem lk_795 : (Jvm.Cond.methodLink "NeverBelievedLaw" (119 : Nat) ({ cls := "NeverBelieved", name := "sieges", desc := "(III)I" } : Jvm.MethodName)) ∈ mTb := mTm 795 (by decide +kernel) (by decide +kernel)
theorem lk_1208 : (Jvm.Cond.methodLink "NeverBelievedLaw" (122 : Nat) ({ cls := "NeverBelievedModel", name := "sieges", desc := "(III)I" } : Jvm.MethodName)) ∈ mTb := mTm 1208 (by decide +kernel) (by decide +kernel)
theorem lk_810 : (Jvm.Cond.methodLink "NeverBelievedLaw" (123 : Nat) ({ cls := "NeverBelieved", name := "count", desc := "(I)I" } : Jvm.MethodName)) ∈ mTb := mTm 810 (by decide +kernel) (by decide +kernel)
theorem lk_1219 : (Jvm.Cond.methodLink "NeverBelievedLaw" (126 : Nat) ({ cls := "NeverBelievedModel", name := "count", desc := "(I)I" } : Jvm.MethodName)) ∈ mTb := mTm 1219 (by decide +kernel) (by decide +kernel)
theorem lk_828 : (Jvm.Cond.methodLink "NeverBelievedModel" (1 : Nat) ({ cls := "java/lang/Object", name := "<init>", desc := "()V" } : Jvm.MethodName)) ∈ mTb := mTm 828 (by decide +kernel) (by decide +kernel)
theorem lk_829 : (Jvm.Cond.methodLink "NeverBelievedModel" (56 : Nat) ({ cls := "NeverBelievedModel", name := "begin", desc := "()V" } : Jvm.MethodName)) ∈ mTb := mTm 829 (by decide +kernel) (by decide +kernel)
theorem lk_956 : (Jvm.Cond.methodLink "NeverBelievedModel" (69 : Nat) ({ cls := "NeverBelievedModel", name := "in", desc := "(III)Z" } : Jvm.MethodName)) ∈ mTb := mTm 956 (by decide +kernel) (by decide +kernel)
theorem lk_975 : (Jvm.Cond.methodLink "NeverBelievedModel" (110 : Nat) ({ cls := "NeverBelievedModel", name := "nextToken", desc := "()V" } : Jvm.MethodName)) ∈ mTb := mTm 975 (by decide +kernel) (by decide +kernel)
theorem lk_998 : (Jvm.Cond.methodLink "NeverBelievedModel" (113 : Nat) ({ cls := "NeverBelievedModel", name := "fails", desc := "()Z" } : Jvm.MethodName)) ∈ mTb := mTm 998 (by decide +kernel) (by decide +kernel)
theorem lk_1002 : (Jvm.Cond.methodLink "NeverBelievedModel" (138 : Nat) ({ cls := "NeverBelievedModel", name := "isNumber", desc := "(II)Z" } : Jvm.MethodName)) ∈ mTb := mTm 1002 (by decide +kernel) (by decide +kernel)
theorem lk_985 : (Jvm.Cond.methodLink "NeverBelievedModel" (142 : Nat) ({ cls := "NeverBelievedModel", name := "sortOf", desc := "()I" } : Jvm.MethodName)) ∈ mTb := mTm 985 (by decide +kernel) (by decide +kernel)
theorem lk_1006 : (Jvm.Cond.methodLink "NeverBelievedModel" (149 : Nat) ({ cls := "NeverBelievedModel", name := "isDeed", desc := "(I)Z" } : Jvm.MethodName)) ∈ mTb := mTm 1006 (by decide +kernel) (by decide +kernel)
theorem lk_971 : (Jvm.Cond.methodLink "NeverBelievedModel" (162 : Nat) ({ cls := "NeverBelievedModel", name := "isLine", desc := "(I)Z" } : Jvm.MethodName)) ∈ mTb := mTm 971 (by decide +kernel) (by decide +kernel)
theorem lk_967 : (Jvm.Cond.methodLink "NeverBelievedModel" (165 : Nat) ({ cls := "NeverBelievedModel", name := "isRead", desc := "()Z" } : Jvm.MethodName)) ∈ mTb := mTm 967 (by decide +kernel) (by decide +kernel)
theorem lk_1014 : (Jvm.Cond.methodLink "NeverBelievedModel" (168 : Nat) ({ cls := "NeverBelievedModel", name := "doLine", desc := "(I)V" } : Jvm.MethodName)) ∈ mTb := mTm 1014 (by decide +kernel) (by decide +kernel)
theorem lk_1089 : (Jvm.Cond.methodLink "NeverBelievedModel" (172 : Nat) ({ cls := "NeverBelievedModel", name := "has", desc := "(II)Z" } : Jvm.MethodName)) ∈ mTb := mTm 1089 (by decide +kernel) (by decide +kernel)
theorem lk_1022 : (Jvm.Cond.methodLink "NeverBelievedModel" (175 : Nat) ({ cls := "NeverBelievedModel", name := "isFact", desc := "(I)Z" } : Jvm.MethodName)) ∈ mTb := mTm 1022 (by decide +kernel) (by decide +kernel)
theorem lk_1030 : (Jvm.Cond.methodLink "NeverBelievedModel" (178 : Nat) ({ cls := "NeverBelievedModel", name := "isOne", desc := "(I)Z" } : Jvm.MethodName)) ∈ mTb := mTm 1030 (by decide +kernel) (by decide +kernel)
theorem lk_1046 : (Jvm.Cond.methodLink "NeverBelievedModel" (181 : Nat) ({ cls := "NeverBelievedModel", name := "kindOf", desc := "(I)I" } : Jvm.MethodName)) ∈ mTb := mTm 1046 (by decide +kernel) (by decide +kernel)
theorem lk_1050 : (Jvm.Cond.methodLink "NeverBelievedModel" (185 : Nat) ({ cls := "NeverBelievedModel", name := "trusts", desc := "(I)Z" } : Jvm.MethodName)) ∈ mTb := mTm 1050 (by decide +kernel) (by decide +kernel)
theorem lk_1100 : (Jvm.Cond.methodLink "NeverBelievedModel" (188 : Nat) ({ cls := "NeverBelievedModel", name := "become", desc := "([III)V" } : Jvm.MethodName)) ∈ mTb := mTm 1100 (by decide +kernel) (by decide +kernel)
theorem lk_1092 : (Jvm.Cond.methodLink "NeverBelievedModel" (207 : Nat) ({ cls := "NeverBelievedModel", name := "hears", desc := "([IIZ)V" } : Jvm.MethodName)) ∈ mTb := mTm 1092 (by decide +kernel) (by decide +kernel)
theorem lk_1082 : (Jvm.Cond.methodLink "NeverBelievedModel" (211 : Nat) ({ cls := "NeverBelievedModel", name := "copy", desc := "([II[II)V" } : Jvm.MethodName)) ∈ mTb := mTm 1082 (by decide +kernel) (by decide +kernel)
theorem lk_1085 : (Jvm.Cond.methodLink "NeverBelievedModel" (215 : Nat) ({ cls := "NeverBelievedModel", name := "hearAll", desc := "([II)V" } : Jvm.MethodName)) ∈ mTb := mTm 1085 (by decide +kernel) (by decide +kernel)
theorem lk_1096 : (Jvm.Cond.methodLink "NeverBelievedModel" (219 : Nat) ({ cls := "NeverBelievedModel", name := "pass", desc := "([I)V" } : Jvm.MethodName)) ∈ mTb := mTm 1096 (by decide +kernel) (by decide +kernel)
theorem lk_1070 : (Jvm.Cond.methodLink "NeverBelievedModel" (223 : Nat) ({ cls := "NeverBelievedModel", name := "lay", desc := "(IIIII)V" } : Jvm.MethodName)) ∈ mTb := mTm 1070 (by decide +kernel) (by decide +kernel)
theorem lk_1062 : (Jvm.Cond.methodLink "NeverBelievedModel" (227 : Nat) ({ cls := "NeverBelievedModel", name := "barred", desc := "(IIIII)I" } : Jvm.MethodName)) ∈ mTb := mTm 1062 (by decide +kernel) (by decide +kernel)
theorem lk_1066 : (Jvm.Cond.methodLink "NeverBelievedModel" (231 : Nat) ({ cls := "NeverBelievedModel", name := "layTold", desc := "(IIIII)V" } : Jvm.MethodName)) ∈ mTb := mTm 1066 (by decide +kernel) (by decide +kernel)
theorem lk_1074 : (Jvm.Cond.methodLink "NeverBelievedModel" (234 : Nat) ({ cls := "NeverBelievedModel", name := "everybody", desc := "()I" } : Jvm.MethodName)) ∈ mTb := mTm 1074 (by decide +kernel) (by decide +kernel)
theorem lk_1078 : (Jvm.Cond.methodLink "NeverBelievedModel" (237 : Nat) ({ cls := "NeverBelievedModel", name := "isSo", desc := "([II)Z" } : Jvm.MethodName)) ∈ mTb := mTm 1078 (by decide +kernel) (by decide +kernel)
theorem lk_1107 : (Jvm.Cond.methodLink "NeverBelievedModel" (241 : Nat) ({ cls := "NeverBelievedModel", name := "note", desc := "()V" } : Jvm.MethodName)) ∈ mTb := mTm 1107 (by decide +kernel) (by decide +kernel)
theorem lk_1111 : (Jvm.Cond.methodLink "NeverBelievedModel" (244 : Nat) ({ cls := "NeverBelievedModel", name := "changed", desc := "([I[I)I" } : Jvm.MethodName)) ∈ mTb := mTm 1111 (by decide +kernel) (by decide +kernel)
theorem lk_1119 : (Jvm.Cond.methodLink "NeverBelievedModel" (248 : Nat) ({ cls := "NeverBelievedModel", name := "sumOf", desc := "(I)I" } : Jvm.MethodName)) ∈ mTb := mTm 1119 (by decide +kernel) (by decide +kernel)
theorem lk_1148 : (Jvm.Cond.methodLink "NeverBelievedModel" (261 : Nat) ({ cls := "NeverBelievedModel", name := "isSentence", desc := "(I)Z" } : Jvm.MethodName)) ∈ mTb := mTm 1148 (by decide +kernel) (by decide +kernel)
theorem lk_1152 : (Jvm.Cond.methodLink "NeverBelievedModel" (264 : Nat) ({ cls := "NeverBelievedModel", name := "nextNumber", desc := "(I)I" } : Jvm.MethodName)) ∈ mTb := mTm 1152 (by decide +kernel) (by decide +kernel)
theorem lk_1143 : (Jvm.Cond.methodLink "NeverBelievedModel" (267 : Nat) ({ cls := "NeverBelievedModel", name := "layBest", desc := "([I)V" } : Jvm.MethodName)) ∈ mTb := mTm 1143 (by decide +kernel) (by decide +kernel)
theorem lk_1159 : (Jvm.Cond.methodLink "NeverBelievedModel" (270 : Nat) ({ cls := "NeverBelievedModel", name := "askOf", desc := "(III)I" } : Jvm.MethodName)) ∈ mTb := mTm 1159 (by decide +kernel) (by decide +kernel)
theorem lk_1171 : (Jvm.Cond.methodLink "NeverBelievedModel" (274 : Nat) ({ cls := "NeverBelievedModel", name := "sumBy", desc := "(IIIII)I" } : Jvm.MethodName)) ∈ mTb := mTm 1171 (by decide +kernel) (by decide +kernel)
theorem lk_1187 : (Jvm.Cond.methodLink "NeverBelievedModel" (277 : Nat) ({ cls := "NeverBelievedModel", name := "layCanBe", desc := "()V" } : Jvm.MethodName)) ∈ mTb := mTm 1187 (by decide +kernel) (by decide +kernel)
theorem lk_1204 : (Jvm.Cond.methodLink "NeverBelievedModel" (281 : Nat) ({ cls := "NeverBelievedModel", name := "nextPlain", desc := "(I)I" } : Jvm.MethodName)) ∈ mTb := mTm 1204 (by decide +kernel) (by decide +kernel)
theorem lk_1200 : (Jvm.Cond.methodLink "NeverBelievedModel" (285 : Nat) ({ cls := "NeverBelievedModel", name := "mostNext", desc := "([I)I" } : Jvm.MethodName)) ∈ mTb := mTm 1200 (by decide +kernel) (by decide +kernel)
theorem lk_1196 : (Jvm.Cond.methodLink "NeverBelievedModel" (289 : Nat) ({ cls := "NeverBelievedModel", name := "worthOf", desc := "([II)I" } : Jvm.MethodName)) ∈ mTb := mTm 1196 (by decide +kernel) (by decide +kernel)
theorem lk_1215 : (Jvm.Cond.methodLink "NeverBelievedModel" (299 : Nat) ({ cls := "NeverBelievedModel", name := "isSaved", desc := "(II)Z" } : Jvm.MethodName)) ∈ mTb := mTm 1215 (by decide +kernel) (by decide +kernel)
theorem lk_359 : (Jvm.Cond.methodLink "java/lang/String" (335 : Nat) ({ cls := "java/lang/String", name := "coder", desc := "()B" } : Jvm.MethodName)) ∈ mTb := mTm 359 (by decide +kernel) (by decide +kernel)
theorem lk_369 : (Jvm.Cond.methodLink "java/lang/String" (492 : Nat) ({ cls := "java/lang/String", name := "isLatin1", desc := "()Z" } : Jvm.MethodName)) ∈ mTb := mTm 369 (by decide +kernel) (by decide +kernel)
theorem lk_373 : (Jvm.Cond.methodLink "java/lang/String" (495 : Nat) ({ cls := "java/lang/StringLatin1", name := "charAt", desc := "([BI)C" } : Jvm.MethodName)) ∈ mTb := mTm 373 (by decide +kernel) (by decide +kernel)
theorem lk_384 : (Jvm.Cond.methodLink "java/lang/String" (498 : Nat) ({ cls := "java/lang/StringUTF16", name := "charAt", desc := "([BI)C" } : Jvm.MethodName)) ∈ mTb := mTm 384 (by decide +kernel) (by decide +kernel)
theorem lk_381 : (Jvm.Cond.methodLink "java/lang/String" (1059 : Nat) ({ cls := "jdk/internal/util/Preconditions", name := "checkIndex", desc := "(IILjava/util/function/BiFunction;)I" } : Jvm.MethodName)) ∈ mTb := mTm 381 (by decide +kernel) (by decide +kernel)
theorem lk_376 : (Jvm.Cond.methodLink "java/lang/StringLatin1" (9 : Nat) ({ cls := "java/lang/String", name := "checkIndex", desc := "(II)V" } : Jvm.MethodName)) ∈ mTb := mTm 376 (by decide +kernel) (by decide +kernel)
theorem lk_390 : (Jvm.Cond.methodLink "java/lang/StringUTF16" (48 : Nat) ({ cls := "java/lang/StringUTF16", name := "length", desc := "([B)I" } : Jvm.MethodName)) ∈ mTb := mTm 390 (by decide +kernel) (by decide +kernel)
theorem lk_387 : (Jvm.Cond.methodLink "java/lang/StringUTF16" (67 : Nat) ({ cls := "java/lang/StringUTF16", name := "checkIndex", desc := "(I[B)V" } : Jvm.MethodName)) ∈ mTb := mTm 387 (by decide +kernel) (by decide +kernel)
theorem lk_394 : (Jvm.Cond.methodLink "java/lang/StringUTF16" (71 : Nat) ({ cls := "java/lang/StringUTF16", name := "getChar", desc := "([BI)C" } : Jvm.MethodName)) ∈ mTb := mTm 394 (by decide +kernel) (by decide +kernel)
theorem lk_393 : (Jvm.Cond.methodLink "java/lang/StringUTF16" (414 : Nat) ({ cls := "java/lang/String", name := "checkIndex", desc := "(II)V" } : Jvm.MethodName)) ∈ mTb := mTm 393 (by decide +kernel) (by decide +kernel)
theorem fl_285 : mFld "NeverBelieved" 10 7 0 := ⟨RX8, TX8, 6, rfl, by decide, uX8, mTm 285 (by decide +kernel) (by decide +kernel)⟩
theorem fl_286 : mFld "NeverBelieved" 19 7 1 := ⟨RX8, TX8, 6, rfl, by decide, uX8, mTm 286 (by decide +kernel) (by decide +kernel)⟩
theorem fl_287 : mFld "NeverBelieved" 26 7 2 := ⟨RX8, TX8, 6, rfl, by decide, uX8, mTm 287 (by decide +kernel) (by decide +kernel)⟩
theorem fl_288 : mFld "NeverBelieved" 33 7 3 := ⟨RX8, TX8, 6, rfl, by decide, uX8, mTm 288 (by decide +kernel) (by decide +kernel)⟩
theorem fl_289 : mFld "NeverBelieved" 42 7 4 := ⟨RX8, TX8, 6, rfl, by decide, uX8, mTm 289 (by decide +kernel) (by decide +kernel)⟩
theorem fl_290 : mFld "NeverBelieved" 51 7 5 := ⟨RX8, TX8, 6, rfl, by decide, uX8, mTm 290 (by decide +kernel) (by decide +kernel)⟩
theorem fl_84 : mFld "NeverBelieved" 59 4 1 := ⟨RX5, TX5, 10, rfl, by decide, uX5, mTm 84 (by decide +kernel) (by decide +kernel)⟩
theorem fp_84 : mFldP "NeverBelieved" 59 4 1 .int := ⟨RX5, TX5, 10, tyX5, rfl, by decide, uX5, mTm 84 (by decide +kernel) (by decide +kernel), tyX5_ok, nmX5, rfl, by decide +kernel⟩
theorem fl_88 : mFld "NeverBelieved" 67 4 3 := ⟨RX5, TX5, 10, rfl, by decide, uX5, mTm 88 (by decide +kernel) (by decide +kernel)⟩
theorem fp_88 : mFldP "NeverBelieved" 67 4 3 .int := ⟨RX5, TX5, 10, tyX5, rfl, by decide, uX5, mTm 88 (by decide +kernel) (by decide +kernel), tyX5_ok, nmX5, rfl, by decide +kernel⟩
theorem fl_86 : mFld "NeverBelieved" 70 4 2 := ⟨RX5, TX5, 10, rfl, by decide, uX5, mTm 86 (by decide +kernel) (by decide +kernel)⟩
theorem fl_47 : mFld "NeverBelieved" 78 1 3 := ⟨RX1, TX1, 8, rfl, by decide, uX1, mTm 47 (by decide +kernel) (by decide +kernel)⟩
theorem fp_47 : mFldP "NeverBelieved" 78 1 3 .int := ⟨RX1, TX1, 8, tyX1, rfl, by decide, uX1, mTm 47 (by decide +kernel) (by decide +kernel), tyX1_ok, nmX1, rfl, by decide +kernel⟩
theorem fl_163 : mFld "NeverBelieved" 85 0 0 := ⟨RX0, TX0, 5, rfl, by decide, uX0, mTm 163 (by decide +kernel) (by decide +kernel)⟩
theorem fp_163 : mFldP "NeverBelieved" 85 0 0 .int := ⟨RX0, TX0, 5, tyX0, rfl, by decide, uX0, mTm 163 (by decide +kernel) (by decide +kernel), tyX0_ok, nmX0, rfl, by decide +kernel⟩
theorem fl_123 : mFld "NeverBelieved" 91 2 0 := ⟨RX2, TX2, 9, rfl, by decide, uX2, mTm 123 (by decide +kernel) (by decide +kernel)⟩
theorem fp_123 : mFldP "NeverBelieved" 91 2 0 .int := ⟨RX2, TX2, 9, tyX2, rfl, by decide, uX2, mTm 123 (by decide +kernel) (by decide +kernel), tyX2_ok, nmX2, rfl, by decide +kernel⟩
theorem fl_52 : mFld "NeverBelieved" 94 1 5 := ⟨RX1, TX1, 8, rfl, by decide, uX1, mTm 52 (by decide +kernel) (by decide +kernel)⟩
theorem fl_54 : mFld "NeverBelieved" 100 1 6 := ⟨RX1, TX1, 8, rfl, by decide, uX1, mTm 54 (by decide +kernel) (by decide +kernel)⟩
theorem fl_46 : mFld "NeverBelieved" 103 1 2 := ⟨RX1, TX1, 8, rfl, by decide, uX1, mTm 46 (by decide +kernel) (by decide +kernel)⟩
theorem fp_46 : mFldP "NeverBelieved" 103 1 2 .int := ⟨RX1, TX1, 8, tyX1, rfl, by decide, uX1, mTm 46 (by decide +kernel) (by decide +kernel), tyX1_ok, nmX1, rfl, by decide +kernel⟩
theorem fl_56 : mFld "NeverBelieved" 106 1 7 := ⟨RX1, TX1, 8, rfl, by decide, uX1, mTm 56 (by decide +kernel) (by decide +kernel)⟩
theorem fl_129 : mFld "NeverBelieved" 109 2 3 := ⟨RX2, TX2, 9, rfl, by decide, uX2, mTm 129 (by decide +kernel) (by decide +kernel)⟩
theorem fp_129 : mFldP "NeverBelieved" 109 2 3 .long := ⟨RX2, TX2, 9, tyX2, rfl, by decide, uX2, mTm 129 (by decide +kernel) (by decide +kernel), tyX2_ok, nmX2, rfl, by decide +kernel⟩
theorem gs_496 : (Jvm.Cond.fieldLink "NeverBelieved" (123 : Nat) "NeverBelieved" "OVER_PEOPLE" "[I") ∈ mTb := mTm 496 (by decide +kernel) (by decide +kernel)
theorem gs_509 : (Jvm.Cond.fieldLink "NeverBelieved" (134 : Nat) "NeverBelieved" "PLACE_OF_SAYING" "[I") ∈ mTb := mTm 509 (by decide +kernel) (by decide +kernel)
theorem gs_511 : (Jvm.Cond.fieldLink "NeverBelieved" (137 : Nat) "NeverBelieved" "OVER_SAYINGS" "[I") ∈ mTb := mTm 511 (by decide +kernel) (by decide +kernel)
theorem fl_213 : mFld "NeverBelieved" 153 3 1 := ⟨RX3, TX3, 11, rfl, by decide, uX3, mTm 213 (by decide +kernel) (by decide +kernel)⟩
theorem fl_125 : mFld "NeverBelieved" 188 2 1 := ⟨RX2, TX2, 9, rfl, by decide, uX2, mTm 125 (by decide +kernel) (by decide +kernel)⟩
theorem fp_125 : mFldP "NeverBelieved" 188 2 1 .int := ⟨RX2, TX2, 9, tyX2, rfl, by decide, uX2, mTm 125 (by decide +kernel) (by decide +kernel), tyX2_ok, nmX2, rfl, by decide +kernel⟩
theorem fl_127 : mFld "NeverBelieved" 207 2 2 := ⟨RX2, TX2, 9, rfl, by decide, uX2, mTm 127 (by decide +kernel) (by decide +kernel)⟩
theorem fp_127 : mFldP "NeverBelieved" 207 2 2 .int := ⟨RX2, TX2, 9, tyX2, rfl, by decide, uX2, mTm 127 (by decide +kernel) (by decide +kernel), tyX2_ok, nmX2, rfl, by decide +kernel⟩
theorem fl_131 : mFld "NeverBelieved" 212 2 4 := ⟨RX2, TX2, 9, rfl, by decide, uX2, mTm 131 (by decide +kernel) (by decide +kernel)⟩
theorem fp_131 : mFldP "NeverBelieved" 212 2 4 .int := ⟨RX2, TX2, 9, tyX2, rfl, by decide, uX2, mTm 131 (by decide +kernel) (by decide +kernel), tyX2_ok, nmX2, rfl, by decide +kernel⟩
theorem fl_256 : mFld "NeverBelieved" 221 5 3 := ⟨RX6, TX6, 9, rfl, by decide, uX6, mTm 256 (by decide +kernel) (by decide +kernel)⟩
theorem fp_256 : mFldP "NeverBelieved" 221 5 3 .int := ⟨RX6, TX6, 9, tyX6, rfl, by decide, uX6, mTm 256 (by decide +kernel) (by decide +kernel), tyX6_ok, nmX6, rfl, by decide +kernel⟩
theorem fl_258 : mFld "NeverBelieved" 224 5 4 := ⟨RX6, TX6, 9, rfl, by decide, uX6, mTm 258 (by decide +kernel) (by decide +kernel)⟩
theorem fp_258 : mFldP "NeverBelieved" 224 5 4 .int := ⟨RX6, TX6, 9, tyX6, rfl, by decide, uX6, mTm 258 (by decide +kernel) (by decide +kernel), tyX6_ok, nmX6, rfl, by decide +kernel⟩
theorem fl_260 : mFld "NeverBelieved" 227 5 5 := ⟨RX6, TX6, 9, rfl, by decide, uX6, mTm 260 (by decide +kernel) (by decide +kernel)⟩
theorem fp_260 : mFldP "NeverBelieved" 227 5 5 .int := ⟨RX6, TX6, 9, tyX6, rfl, by decide, uX6, mTm 260 (by decide +kernel) (by decide +kernel), tyX6_ok, nmX6, rfl, by decide +kernel⟩
theorem fl_262 : mFld "NeverBelieved" 233 5 6 := ⟨RX6, TX6, 9, rfl, by decide, uX6, mTm 262 (by decide +kernel) (by decide +kernel)⟩
theorem fp_262 : mFldP "NeverBelieved" 233 5 6 .int := ⟨RX6, TX6, 9, tyX6, rfl, by decide, uX6, mTm 262 (by decide +kernel) (by decide +kernel), tyX6_ok, nmX6, rfl, by decide +kernel⟩
theorem fl_264 : mFld "NeverBelieved" 234 5 7 := ⟨RX6, TX6, 9, rfl, by decide, uX6, mTm 264 (by decide +kernel) (by decide +kernel)⟩
theorem fp_264 : mFldP "NeverBelieved" 234 5 7 .int := ⟨RX6, TX6, 9, tyX6, rfl, by decide, uX6, mTm 264 (by decide +kernel) (by decide +kernel), tyX6_ok, nmX6, rfl, by decide +kernel⟩
theorem fl_169 : mFld "NeverBelieved" 256 0 4 := ⟨RX0, TX0, 5, rfl, by decide, uX0, mTm 169 (by decide +kernel) (by decide +kernel)⟩
theorem fp_169 : mFldP "NeverBelieved" 256 0 4 .int := ⟨RX0, TX0, 5, tyX0, rfl, by decide, uX0, mTm 169 (by decide +kernel) (by decide +kernel), tyX0_ok, nmX0, rfl, by decide +kernel⟩
theorem fl_167 : mFld "NeverBelieved" 259 0 3 := ⟨RX0, TX0, 5, rfl, by decide, uX0, mTm 167 (by decide +kernel) (by decide +kernel)⟩
theorem fp_167 : mFldP "NeverBelieved" 259 0 3 .int := ⟨RX0, TX0, 5, tyX0, rfl, by decide, uX0, mTm 167 (by decide +kernel) (by decide +kernel), tyX0_ok, nmX0, rfl, by decide +kernel⟩
theorem fl_38 : mFld "NeverBelieved" 266 1 0 := ⟨RX1, TX1, 8, rfl, by decide, uX1, mTm 38 (by decide +kernel) (by decide +kernel)⟩
theorem fp_38 : mFldP "NeverBelieved" 266 1 0 .int := ⟨RX1, TX1, 8, tyX1, rfl, by decide, uX1, mTm 38 (by decide +kernel) (by decide +kernel), tyX1_ok, nmX1, rfl, by decide +kernel⟩
theorem fl_43 : mFld "NeverBelieved" 279 1 1 := ⟨RX1, TX1, 8, rfl, by decide, uX1, mTm 43 (by decide +kernel) (by decide +kernel)⟩
theorem fp_43 : mFldP "NeverBelieved" 279 1 1 .int := ⟨RX1, TX1, 8, tyX1, rfl, by decide, uX1, mTm 43 (by decide +kernel) (by decide +kernel), tyX1_ok, nmX1, rfl, by decide +kernel⟩
theorem fl_164 : mFld "NeverBelieved$Bets" 9 0 1 := ⟨RX0, TX0, 5, rfl, by decide, uX0, mTm 164 (by decide +kernel) (by decide +kernel)⟩
theorem fl_165 : mFld "NeverBelieved$Bets" 13 0 2 := ⟨RX0, TX0, 5, rfl, by decide, uX0, mTm 165 (by decide +kernel) (by decide +kernel)⟩
theorem fl_162 : mFld "NeverBelieved$Bets" 16 0 0 := ⟨RX0, TX0, 5, rfl, by decide, uX0, mTm 162 (by decide +kernel) (by decide +kernel)⟩
theorem fp_162 : mFldP "NeverBelieved$Bets" 16 0 0 .int := ⟨RX0, TX0, 5, tyX0, rfl, by decide, uX0, mTm 162 (by decide +kernel) (by decide +kernel), tyX0_ok, nmX0, rfl, by decide +kernel⟩
theorem fl_166 : mFld "NeverBelieved$Bets" 20 0 3 := ⟨RX0, TX0, 5, rfl, by decide, uX0, mTm 166 (by decide +kernel) (by decide +kernel)⟩
theorem fp_166 : mFldP "NeverBelieved$Bets" 20 0 3 .int := ⟨RX0, TX0, 5, tyX0, rfl, by decide, uX0, mTm 166 (by decide +kernel) (by decide +kernel), tyX0_ok, nmX0, rfl, by decide +kernel⟩
theorem fl_168 : mFld "NeverBelieved$Bets" 23 0 4 := ⟨RX0, TX0, 5, rfl, by decide, uX0, mTm 168 (by decide +kernel) (by decide +kernel)⟩
theorem fp_168 : mFldP "NeverBelieved$Bets" 23 0 4 .int := ⟨RX0, TX0, 5, tyX0, rfl, by decide, uX0, mTm 168 (by decide +kernel) (by decide +kernel), tyX0_ok, nmX0, rfl, by decide +kernel⟩
theorem fl_51 : mFld "NeverBelieved$City" 11 1 5 := ⟨RX1, TX1, 8, rfl, by decide, uX1, mTm 51 (by decide +kernel) (by decide +kernel)⟩
theorem fl_53 : mFld "NeverBelieved$City" 14 1 6 := ⟨RX1, TX1, 8, rfl, by decide, uX1, mTm 53 (by decide +kernel) (by decide +kernel)⟩
theorem fl_55 : mFld "NeverBelieved$City" 17 1 7 := ⟨RX1, TX1, 8, rfl, by decide, uX1, mTm 55 (by decide +kernel) (by decide +kernel)⟩
theorem fl_34 : mFld "NeverBelieved$City" 20 1 0 := ⟨RX1, TX1, 8, rfl, by decide, uX1, mTm 34 (by decide +kernel) (by decide +kernel)⟩
theorem fp_34 : mFldP "NeverBelieved$City" 20 1 0 .int := ⟨RX1, TX1, 8, tyX1, rfl, by decide, uX1, mTm 34 (by decide +kernel) (by decide +kernel), tyX1_ok, nmX1, rfl, by decide +kernel⟩
theorem fl_41 : mFld "NeverBelieved$City" 24 1 1 := ⟨RX1, TX1, 8, rfl, by decide, uX1, mTm 41 (by decide +kernel) (by decide +kernel)⟩
theorem fp_41 : mFldP "NeverBelieved$City" 24 1 1 .int := ⟨RX1, TX1, 8, tyX1, rfl, by decide, uX1, mTm 41 (by decide +kernel) (by decide +kernel), tyX1_ok, nmX1, rfl, by decide +kernel⟩
theorem fl_45 : mFld "NeverBelieved$City" 32 1 2 := ⟨RX1, TX1, 8, rfl, by decide, uX1, mTm 45 (by decide +kernel) (by decide +kernel)⟩
theorem fp_45 : mFldP "NeverBelieved$City" 32 1 2 .int := ⟨RX1, TX1, 8, tyX1, rfl, by decide, uX1, mTm 45 (by decide +kernel) (by decide +kernel), tyX1_ok, nmX1, rfl, by decide +kernel⟩
theorem fl_48 : mFld "NeverBelieved$City" 51 1 3 := ⟨RX1, TX1, 8, rfl, by decide, uX1, mTm 48 (by decide +kernel) (by decide +kernel)⟩
theorem fp_48 : mFldP "NeverBelieved$City" 51 1 3 .int := ⟨RX1, TX1, 8, tyX1, rfl, by decide, uX1, mTm 48 (by decide +kernel) (by decide +kernel), tyX1_ok, nmX1, rfl, by decide +kernel⟩
theorem fl_50 : mFld "NeverBelieved$City" 54 1 4 := ⟨RX1, TX1, 8, rfl, by decide, uX1, mTm 50 (by decide +kernel) (by decide +kernel)⟩
theorem fp_50 : mFldP "NeverBelieved$City" 54 1 4 .int := ⟨RX1, TX1, 8, tyX1, rfl, by decide, uX1, mTm 50 (by decide +kernel) (by decide +kernel), tyX1_ok, nmX1, rfl, by decide +kernel⟩
theorem fl_133 : mFld "NeverBelieved$Days" 9 2 6 := ⟨RX2, TX2, 9, rfl, by decide, uX2, mTm 133 (by decide +kernel) (by decide +kernel)⟩
theorem fl_134 : mFld "NeverBelieved$Days" 13 2 7 := ⟨RX2, TX2, 9, rfl, by decide, uX2, mTm 134 (by decide +kernel) (by decide +kernel)⟩
theorem fl_135 : mFld "NeverBelieved$Days" 17 2 8 := ⟨RX2, TX2, 9, rfl, by decide, uX2, mTm 135 (by decide +kernel) (by decide +kernel)⟩
theorem fl_122 : mFld "NeverBelieved$Days" 20 2 0 := ⟨RX2, TX2, 9, rfl, by decide, uX2, mTm 122 (by decide +kernel) (by decide +kernel)⟩
theorem fp_122 : mFldP "NeverBelieved$Days" 20 2 0 .int := ⟨RX2, TX2, 9, tyX2, rfl, by decide, uX2, mTm 122 (by decide +kernel) (by decide +kernel), tyX2_ok, nmX2, rfl, by decide +kernel⟩
theorem fl_128 : mFld "NeverBelieved$Days" 24 2 3 := ⟨RX2, TX2, 9, rfl, by decide, uX2, mTm 128 (by decide +kernel) (by decide +kernel)⟩
theorem fp_128 : mFldP "NeverBelieved$Days" 24 2 3 .long := ⟨RX2, TX2, 9, tyX2, rfl, by decide, uX2, mTm 128 (by decide +kernel) (by decide +kernel), tyX2_ok, nmX2, rfl, by decide +kernel⟩
theorem fl_124 : mFld "NeverBelieved$Days" 28 2 1 := ⟨RX2, TX2, 9, rfl, by decide, uX2, mTm 124 (by decide +kernel) (by decide +kernel)⟩
theorem fp_124 : mFldP "NeverBelieved$Days" 28 2 1 .int := ⟨RX2, TX2, 9, tyX2, rfl, by decide, uX2, mTm 124 (by decide +kernel) (by decide +kernel), tyX2_ok, nmX2, rfl, by decide +kernel⟩
theorem fl_126 : mFld "NeverBelieved$Days" 31 2 2 := ⟨RX2, TX2, 9, rfl, by decide, uX2, mTm 126 (by decide +kernel) (by decide +kernel)⟩
theorem fp_126 : mFldP "NeverBelieved$Days" 31 2 2 .int := ⟨RX2, TX2, 9, tyX2, rfl, by decide, uX2, mTm 126 (by decide +kernel) (by decide +kernel), tyX2_ok, nmX2, rfl, by decide +kernel⟩
theorem fl_130 : mFld "NeverBelieved$Days" 34 2 4 := ⟨RX2, TX2, 9, rfl, by decide, uX2, mTm 130 (by decide +kernel) (by decide +kernel)⟩
theorem fp_130 : mFldP "NeverBelieved$Days" 34 2 4 .int := ⟨RX2, TX2, 9, tyX2, rfl, by decide, uX2, mTm 130 (by decide +kernel) (by decide +kernel), tyX2_ok, nmX2, rfl, by decide +kernel⟩
theorem fl_132 : mFld "NeverBelieved$Days" 37 2 5 := ⟨RX2, TX2, 9, rfl, by decide, uX2, mTm 132 (by decide +kernel) (by decide +kernel)⟩
theorem fp_132 : mFldP "NeverBelieved$Days" 37 2 5 .int := ⟨RX2, TX2, 9, tyX2, rfl, by decide, uX2, mTm 132 (by decide +kernel) (by decide +kernel), tyX2_ok, nmX2, rfl, by decide +kernel⟩
theorem fl_211 : mFld "NeverBelieved$Foresight" 10 3 1 := ⟨RX3, TX3, 11, rfl, by decide, uX3, mTm 211 (by decide +kernel) (by decide +kernel)⟩
theorem fl_216 : mFld "NeverBelieved$Foresight" 18 3 4 := ⟨RX3, TX3, 11, rfl, by decide, uX3, mTm 216 (by decide +kernel) (by decide +kernel)⟩
theorem fl_217 : mFld "NeverBelieved$Foresight" 22 3 5 := ⟨RX3, TX3, 11, rfl, by decide, uX3, mTm 217 (by decide +kernel) (by decide +kernel)⟩
theorem fl_218 : mFld "NeverBelieved$Foresight" 25 3 6 := ⟨RX3, TX3, 11, rfl, by decide, uX3, mTm 218 (by decide +kernel) (by decide +kernel)⟩
theorem fl_219 : mFld "NeverBelieved$Foresight" 28 3 7 := ⟨RX3, TX3, 11, rfl, by decide, uX3, mTm 219 (by decide +kernel) (by decide +kernel)⟩
theorem fl_210 : mFld "NeverBelieved$Foresight" 31 3 0 := ⟨RX3, TX3, 11, rfl, by decide, uX3, mTm 210 (by decide +kernel) (by decide +kernel)⟩
theorem fl_214 : mFld "NeverBelieved$Foresight" 35 3 2 := ⟨RX3, TX3, 11, rfl, by decide, uX3, mTm 214 (by decide +kernel) (by decide +kernel)⟩
theorem fp_214 : mFldP "NeverBelieved$Foresight" 35 3 2 .int := ⟨RX3, TX3, 11, tyX3, rfl, by decide, uX3, mTm 214 (by decide +kernel) (by decide +kernel), tyX3_ok, nmX3, rfl, by decide +kernel⟩
theorem fl_215 : mFld "NeverBelieved$Foresight" 39 3 3 := ⟨RX3, TX3, 11, rfl, by decide, uX3, mTm 215 (by decide +kernel) (by decide +kernel)⟩
theorem fp_215 : mFldP "NeverBelieved$Foresight" 39 3 3 .long := ⟨RX3, TX3, 11, tyX3, rfl, by decide, uX3, mTm 215 (by decide +kernel) (by decide +kernel), tyX3_ok, nmX3, rfl, by decide +kernel⟩
theorem fl_222 : mFld "NeverBelieved$Foresight" 47 3 10 := ⟨RX3, TX3, 11, rfl, by decide, uX3, mTm 222 (by decide +kernel) (by decide +kernel)⟩
theorem fp_222 : mFldP "NeverBelieved$Foresight" 47 3 10 .int := ⟨RX3, TX3, 11, tyX3, rfl, by decide, uX3, mTm 222 (by decide +kernel) (by decide +kernel), tyX3_ok, nmX3, rfl, by decide +kernel⟩
theorem fl_39 : mFld "NeverBelieved$Foresight" 50 1 1 := ⟨RX1, TX1, 8, rfl, by decide, uX1, mTm 39 (by decide +kernel) (by decide +kernel)⟩
theorem fp_39 : mFldP "NeverBelieved$Foresight" 50 1 1 .int := ⟨RX1, TX1, 8, tyX1, rfl, by decide, uX1, mTm 39 (by decide +kernel) (by decide +kernel), tyX1_ok, nmX1, rfl, by decide +kernel⟩
theorem fl_35 : mFld "NeverBelieved$Foresight" 61 1 0 := ⟨RX1, TX1, 8, rfl, by decide, uX1, mTm 35 (by decide +kernel) (by decide +kernel)⟩
theorem fp_35 : mFldP "NeverBelieved$Foresight" 61 1 0 .int := ⟨RX1, TX1, 8, tyX1, rfl, by decide, uX1, mTm 35 (by decide +kernel) (by decide +kernel), tyX1_ok, nmX1, rfl, by decide +kernel⟩
theorem fl_193 : mFld "NeverBelieved$Foresight" 68 6 0 := ⟨RX7, TX7, 5, rfl, by decide, uX7, mTm 193 (by decide +kernel) (by decide +kernel)⟩
theorem fp_193 : mFldP "NeverBelieved$Foresight" 68 6 0 .int := ⟨RX7, TX7, 5, tyX7, rfl, by decide, uX7, mTm 193 (by decide +kernel) (by decide +kernel), tyX7_ok, nmX7, rfl, by decide +kernel⟩
theorem fl_220 : mFld "NeverBelieved$Foresight" 75 3 8 := ⟨RX3, TX3, 11, rfl, by decide, uX3, mTm 220 (by decide +kernel) (by decide +kernel)⟩
theorem fp_220 : mFldP "NeverBelieved$Foresight" 75 3 8 .int := ⟨RX3, TX3, 11, tyX3, rfl, by decide, uX3, mTm 220 (by decide +kernel) (by decide +kernel), tyX3_ok, nmX3, rfl, by decide +kernel⟩
theorem fl_221 : mFld "NeverBelieved$Foresight" 78 3 9 := ⟨RX3, TX3, 11, rfl, by decide, uX3, mTm 221 (by decide +kernel) (by decide +kernel)⟩
theorem fp_221 : mFldP "NeverBelieved$Foresight" 78 3 9 .int := ⟨RX3, TX3, 11, tyX3, rfl, by decide, uX3, mTm 221 (by decide +kernel) (by decide +kernel), tyX3_ok, nmX3, rfl, by decide +kernel⟩
theorem fl_49 : mFld "NeverBelieved$Foresight" 99 1 4 := ⟨RX1, TX1, 8, rfl, by decide, uX1, mTm 49 (by decide +kernel) (by decide +kernel)⟩
theorem fp_49 : mFldP "NeverBelieved$Foresight" 99 1 4 .int := ⟨RX1, TX1, 8, tyX1, rfl, by decide, uX1, mTm 49 (by decide +kernel) (by decide +kernel), tyX1_ok, nmX1, rfl, by decide +kernel⟩
theorem fl_82 : mFld "NeverBelieved$Scroll" 11 4 0 := ⟨RX5, TX5, 10, rfl, by decide, uX5, mTm 82 (by decide +kernel) (by decide +kernel)⟩
theorem fl_85 : mFld "NeverBelieved$Scroll" 17 4 2 := ⟨RX5, TX5, 10, rfl, by decide, uX5, mTm 85 (by decide +kernel) (by decide +kernel)⟩
theorem fl_83 : mFld "NeverBelieved$Scroll" 20 4 1 := ⟨RX5, TX5, 10, rfl, by decide, uX5, mTm 83 (by decide +kernel) (by decide +kernel)⟩
theorem fp_83 : mFldP "NeverBelieved$Scroll" 20 4 1 .int := ⟨RX5, TX5, 10, tyX5, rfl, by decide, uX5, mTm 83 (by decide +kernel) (by decide +kernel), tyX5_ok, nmX5, rfl, by decide +kernel⟩
theorem fl_36 : mFld "NeverBelieved$Scroll" 24 1 0 := ⟨RX1, TX1, 8, rfl, by decide, uX1, mTm 36 (by decide +kernel) (by decide +kernel)⟩
theorem fp_36 : mFldP "NeverBelieved$Scroll" 24 1 0 .int := ⟨RX1, TX1, 8, tyX1, rfl, by decide, uX1, mTm 36 (by decide +kernel) (by decide +kernel), tyX1_ok, nmX1, rfl, by decide +kernel⟩
theorem fl_92 : mFld "NeverBelieved$Scroll" 29 4 7 := ⟨RX5, TX5, 10, rfl, by decide, uX5, mTm 92 (by decide +kernel) (by decide +kernel)⟩
theorem fp_92 : mFldP "NeverBelieved$Scroll" 29 4 7 .int := ⟨RX5, TX5, 10, tyX5, rfl, by decide, uX5, mTm 92 (by decide +kernel) (by decide +kernel), tyX5_ok, nmX5, rfl, by decide +kernel⟩
theorem fl_42 : mFld "NeverBelieved$Scroll" 32 1 1 := ⟨RX1, TX1, 8, rfl, by decide, uX1, mTm 42 (by decide +kernel) (by decide +kernel)⟩
theorem fp_42 : mFldP "NeverBelieved$Scroll" 32 1 1 .int := ⟨RX1, TX1, 8, tyX1, rfl, by decide, uX1, mTm 42 (by decide +kernel) (by decide +kernel), tyX1_ok, nmX1, rfl, by decide +kernel⟩
theorem fl_93 : mFld "NeverBelieved$Scroll" 35 4 8 := ⟨RX5, TX5, 10, rfl, by decide, uX5, mTm 93 (by decide +kernel) (by decide +kernel)⟩
theorem fp_93 : mFldP "NeverBelieved$Scroll" 35 4 8 .int := ⟨RX5, TX5, 10, tyX5, rfl, by decide, uX5, mTm 93 (by decide +kernel) (by decide +kernel), tyX5_ok, nmX5, rfl, by decide +kernel⟩
theorem fl_44 : mFld "NeverBelieved$Scroll" 38 1 2 := ⟨RX1, TX1, 8, rfl, by decide, uX1, mTm 44 (by decide +kernel) (by decide +kernel)⟩
theorem fp_44 : mFldP "NeverBelieved$Scroll" 38 1 2 .int := ⟨RX1, TX1, 8, tyX1, rfl, by decide, uX1, mTm 44 (by decide +kernel) (by decide +kernel), tyX1_ok, nmX1, rfl, by decide +kernel⟩
theorem fl_94 : mFld "NeverBelieved$Scroll" 41 4 9 := ⟨RX5, TX5, 10, rfl, by decide, uX5, mTm 94 (by decide +kernel) (by decide +kernel)⟩
theorem fp_94 : mFldP "NeverBelieved$Scroll" 41 4 9 .int := ⟨RX5, TX5, 10, tyX5, rfl, by decide, uX5, mTm 94 (by decide +kernel) (by decide +kernel), tyX5_ok, nmX5, rfl, by decide +kernel⟩
theorem fl_87 : mFld "NeverBelieved$Scroll" 44 4 3 := ⟨RX5, TX5, 10, rfl, by decide, uX5, mTm 87 (by decide +kernel) (by decide +kernel)⟩
theorem fp_87 : mFldP "NeverBelieved$Scroll" 44 4 3 .int := ⟨RX5, TX5, 10, tyX5, rfl, by decide, uX5, mTm 87 (by decide +kernel) (by decide +kernel), tyX5_ok, nmX5, rfl, by decide +kernel⟩
theorem fl_90 : mFld "NeverBelieved$Scroll" 47 4 5 := ⟨RX5, TX5, 10, rfl, by decide, uX5, mTm 90 (by decide +kernel) (by decide +kernel)⟩
theorem fp_90 : mFldP "NeverBelieved$Scroll" 47 4 5 .int := ⟨RX5, TX5, 10, tyX5, rfl, by decide, uX5, mTm 90 (by decide +kernel) (by decide +kernel), tyX5_ok, nmX5, rfl, by decide +kernel⟩
theorem fl_89 : mFld "NeverBelieved$Scroll" 57 4 4 := ⟨RX5, TX5, 10, rfl, by decide, uX5, mTm 89 (by decide +kernel) (by decide +kernel)⟩
theorem fp_89 : mFldP "NeverBelieved$Scroll" 57 4 4 .int := ⟨RX5, TX5, 10, tyX5, rfl, by decide, uX5, mTm 89 (by decide +kernel) (by decide +kernel), tyX5_ok, nmX5, rfl, by decide +kernel⟩
theorem fl_91 : mFld "NeverBelieved$Scroll" 60 4 6 := ⟨RX5, TX5, 10, rfl, by decide, uX5, mTm 91 (by decide +kernel) (by decide +kernel)⟩
theorem fp_91 : mFldP "NeverBelieved$Scroll" 60 4 6 .int := ⟨RX5, TX5, 10, tyX5, rfl, by decide, uX5, mTm 91 (by decide +kernel) (by decide +kernel), tyX5_ok, nmX5, rfl, by decide +kernel⟩
theorem fl_265 : mFld "NeverBelieved$Seer" 9 5 8 := ⟨RX6, TX6, 9, rfl, by decide, uX6, mTm 265 (by decide +kernel) (by decide +kernel)⟩
theorem fl_252 : mFld "NeverBelieved$Seer" 15 5 0 := ⟨RX6, TX6, 9, rfl, by decide, uX6, mTm 252 (by decide +kernel) (by decide +kernel)⟩
theorem fl_253 : mFld "NeverBelieved$Seer" 19 5 1 := ⟨RX6, TX6, 9, rfl, by decide, uX6, mTm 253 (by decide +kernel) (by decide +kernel)⟩
theorem fl_254 : mFld "NeverBelieved$Seer" 23 5 2 := ⟨RX6, TX6, 9, rfl, by decide, uX6, mTm 254 (by decide +kernel) (by decide +kernel)⟩
theorem fl_255 : mFld "NeverBelieved$Seer" 36 5 3 := ⟨RX6, TX6, 9, rfl, by decide, uX6, mTm 255 (by decide +kernel) (by decide +kernel)⟩
theorem fp_255 : mFldP "NeverBelieved$Seer" 36 5 3 .int := ⟨RX6, TX6, 9, tyX6, rfl, by decide, uX6, mTm 255 (by decide +kernel) (by decide +kernel), tyX6_ok, nmX6, rfl, by decide +kernel⟩
theorem fl_257 : mFld "NeverBelieved$Seer" 40 5 4 := ⟨RX6, TX6, 9, rfl, by decide, uX6, mTm 257 (by decide +kernel) (by decide +kernel)⟩
theorem fp_257 : mFldP "NeverBelieved$Seer" 40 5 4 .int := ⟨RX6, TX6, 9, tyX6, rfl, by decide, uX6, mTm 257 (by decide +kernel) (by decide +kernel), tyX6_ok, nmX6, rfl, by decide +kernel⟩
theorem fl_259 : mFld "NeverBelieved$Seer" 43 5 5 := ⟨RX6, TX6, 9, rfl, by decide, uX6, mTm 259 (by decide +kernel) (by decide +kernel)⟩
theorem fp_259 : mFldP "NeverBelieved$Seer" 43 5 5 .int := ⟨RX6, TX6, 9, tyX6, rfl, by decide, uX6, mTm 259 (by decide +kernel) (by decide +kernel), tyX6_ok, nmX6, rfl, by decide +kernel⟩
theorem fl_40 : mFld "NeverBelieved$Seer" 46 1 1 := ⟨RX1, TX1, 8, rfl, by decide, uX1, mTm 40 (by decide +kernel) (by decide +kernel)⟩
theorem fp_40 : mFldP "NeverBelieved$Seer" 46 1 1 .int := ⟨RX1, TX1, 8, tyX1, rfl, by decide, uX1, mTm 40 (by decide +kernel) (by decide +kernel), tyX1_ok, nmX1, rfl, by decide +kernel⟩
theorem fl_212 : mFld "NeverBelieved$Seer" 63 3 1 := ⟨RX3, TX3, 11, rfl, by decide, uX3, mTm 212 (by decide +kernel) (by decide +kernel)⟩
theorem fl_261 : mFld "NeverBelieved$Seer" 70 5 6 := ⟨RX6, TX6, 9, rfl, by decide, uX6, mTm 261 (by decide +kernel) (by decide +kernel)⟩
theorem fp_261 : mFldP "NeverBelieved$Seer" 70 5 6 .int := ⟨RX6, TX6, 9, tyX6, rfl, by decide, uX6, mTm 261 (by decide +kernel) (by decide +kernel), tyX6_ok, nmX6, rfl, by decide +kernel⟩
theorem fl_263 : mFld "NeverBelieved$Seer" 73 5 7 := ⟨RX6, TX6, 9, rfl, by decide, uX6, mTm 263 (by decide +kernel) (by decide +kernel)⟩
theorem fp_263 : mFldP "NeverBelieved$Seer" 73 5 7 .int := ⟨RX6, TX6, 9, tyX6, rfl, by decide, uX6, mTm 263 (by decide +kernel) (by decide +kernel), tyX6_ok, nmX6, rfl, by decide +kernel⟩
theorem fl_37 : mFld "NeverBelieved$Seer" 131 1 0 := ⟨RX1, TX1, 8, rfl, by decide, uX1, mTm 37 (by decide +kernel) (by decide +kernel)⟩
theorem fp_37 : mFldP "NeverBelieved$Seer" 131 1 0 .int := ⟨RX1, TX1, 8, tyX1, rfl, by decide, uX1, mTm 37 (by decide +kernel) (by decide +kernel), tyX1_ok, nmX1, rfl, by decide +kernel⟩
theorem fl_194 : mFld "NeverBelieved$Sentence" 13 6 0 := ⟨RX7, TX7, 5, rfl, by decide, uX7, mTm 194 (by decide +kernel) (by decide +kernel)⟩
theorem fp_194 : mFldP "NeverBelieved$Sentence" 13 6 0 .int := ⟨RX7, TX7, 5, tyX7, rfl, by decide, uX7, mTm 194 (by decide +kernel) (by decide +kernel), tyX7_ok, nmX7, rfl, by decide +kernel⟩
theorem fl_195 : mFld "NeverBelieved$Sentence" 17 6 1 := ⟨RX7, TX7, 5, rfl, by decide, uX7, mTm 195 (by decide +kernel) (by decide +kernel)⟩
theorem fp_195 : mFldP "NeverBelieved$Sentence" 17 6 1 .int := ⟨RX7, TX7, 5, tyX7, rfl, by decide, uX7, mTm 195 (by decide +kernel) (by decide +kernel), tyX7_ok, nmX7, rfl, by decide +kernel⟩
theorem fl_196 : mFld "NeverBelieved$Sentence" 20 6 2 := ⟨RX7, TX7, 5, rfl, by decide, uX7, mTm 196 (by decide +kernel) (by decide +kernel)⟩
theorem fp_196 : mFldP "NeverBelieved$Sentence" 20 6 2 .int := ⟨RX7, TX7, 5, tyX7, rfl, by decide, uX7, mTm 196 (by decide +kernel) (by decide +kernel), tyX7_ok, nmX7, rfl, by decide +kernel⟩
theorem fl_197 : mFld "NeverBelieved$Sentence" 23 6 3 := ⟨RX7, TX7, 5, rfl, by decide, uX7, mTm 197 (by decide +kernel) (by decide +kernel)⟩
theorem fp_197 : mFldP "NeverBelieved$Sentence" 23 6 3 .int := ⟨RX7, TX7, 5, tyX7, rfl, by decide, uX7, mTm 197 (by decide +kernel) (by decide +kernel), tyX7_ok, nmX7, rfl, by decide +kernel⟩
theorem fl_198 : mFld "NeverBelieved$Sentence" 26 6 4 := ⟨RX7, TX7, 5, rfl, by decide, uX7, mTm 198 (by decide +kernel) (by decide +kernel)⟩
theorem fp_198 : mFldP "NeverBelieved$Sentence" 26 6 4 .int := ⟨RX7, TX7, 5, tyX7, rfl, by decide, uX7, mTm 198 (by decide +kernel) (by decide +kernel), tyX7_ok, nmX7, rfl, by decide +kernel⟩
theorem fl_834 : mFld "NeverBelievedModel" 7 8 1 := ⟨RX9, TX9, 39, rfl, by decide, uX9, mTm 834 (by decide +kernel) (by decide +kernel)⟩
theorem fl_836 : mFld "NeverBelievedModel" 13 8 3 := ⟨RX9, TX9, 39, rfl, by decide, uX9, mTm 836 (by decide +kernel) (by decide +kernel)⟩
theorem fl_838 : mFld "NeverBelievedModel" 16 8 5 := ⟨RX9, TX9, 39, rfl, by decide, uX9, mTm 838 (by decide +kernel) (by decide +kernel)⟩
theorem fl_840 : mFld "NeverBelievedModel" 19 8 7 := ⟨RX9, TX9, 39, rfl, by decide, uX9, mTm 840 (by decide +kernel) (by decide +kernel)⟩
theorem fl_851 : mFld "NeverBelievedModel" 22 8 18 := ⟨RX9, TX9, 39, rfl, by decide, uX9, mTm 851 (by decide +kernel) (by decide +kernel)⟩
theorem fl_852 : mFld "NeverBelievedModel" 25 8 19 := ⟨RX9, TX9, 39, rfl, by decide, uX9, mTm 852 (by decide +kernel) (by decide +kernel)⟩
theorem fl_853 : mFld "NeverBelievedModel" 28 8 20 := ⟨RX9, TX9, 39, rfl, by decide, uX9, mTm 853 (by decide +kernel) (by decide +kernel)⟩
theorem fl_854 : mFld "NeverBelievedModel" 31 8 21 := ⟨RX9, TX9, 39, rfl, by decide, uX9, mTm 854 (by decide +kernel) (by decide +kernel)⟩
theorem fl_855 : mFld "NeverBelievedModel" 34 8 22 := ⟨RX9, TX9, 39, rfl, by decide, uX9, mTm 855 (by decide +kernel) (by decide +kernel)⟩
theorem fl_856 : mFld "NeverBelievedModel" 37 8 23 := ⟨RX9, TX9, 39, rfl, by decide, uX9, mTm 856 (by decide +kernel) (by decide +kernel)⟩
theorem fl_857 : mFld "NeverBelievedModel" 40 8 24 := ⟨RX9, TX9, 39, rfl, by decide, uX9, mTm 857 (by decide +kernel) (by decide +kernel)⟩
theorem fl_858 : mFld "NeverBelievedModel" 44 8 25 := ⟨RX9, TX9, 39, rfl, by decide, uX9, mTm 858 (by decide +kernel) (by decide +kernel)⟩
theorem fl_860 : mFld "NeverBelievedModel" 47 8 27 := ⟨RX9, TX9, 39, rfl, by decide, uX9, mTm 860 (by decide +kernel) (by decide +kernel)⟩
theorem fl_870 : mFld "NeverBelievedModel" 50 8 37 := ⟨RX9, TX9, 39, rfl, by decide, uX9, mTm 870 (by decide +kernel) (by decide +kernel)⟩
theorem fl_871 : mFld "NeverBelievedModel" 53 8 38 := ⟨RX9, TX9, 39, rfl, by decide, uX9, mTm 871 (by decide +kernel) (by decide +kernel)⟩
theorem fl_833 : mFld "NeverBelievedModel" 59 8 0 := ⟨RX9, TX9, 39, rfl, by decide, uX9, mTm 833 (by decide +kernel) (by decide +kernel)⟩
theorem fp_833 : mFldP "NeverBelievedModel" 59 8 0 .int := ⟨RX9, TX9, 39, tyX9, rfl, by decide, uX9, mTm 833 (by decide +kernel) (by decide +kernel), tyX9_ok, nmX9, rfl, by decide +kernel⟩
theorem fl_859 : mFld "NeverBelievedModel" 63 8 26 := ⟨RX9, TX9, 39, rfl, by decide, uX9, mTm 859 (by decide +kernel) (by decide +kernel)⟩
theorem fp_859 : mFldP "NeverBelievedModel" 63 8 26 .int := ⟨RX9, TX9, 39, tyX9, rfl, by decide, uX9, mTm 859 (by decide +kernel) (by decide +kernel), tyX9_ok, nmX9, rfl, by decide +kernel⟩
theorem fl_861 : mFld "NeverBelievedModel" 66 8 28 := ⟨RX9, TX9, 39, rfl, by decide, uX9, mTm 861 (by decide +kernel) (by decide +kernel)⟩
theorem fp_861 : mFldP "NeverBelievedModel" 66 8 28 .int := ⟨RX9, TX9, 39, tyX9, rfl, by decide, uX9, mTm 861 (by decide +kernel) (by decide +kernel), tyX9_ok, nmX9, rfl, by decide +kernel⟩
theorem fl_835 : mFld "NeverBelievedModel" 73 8 2 := ⟨RX9, TX9, 39, rfl, by decide, uX9, mTm 835 (by decide +kernel) (by decide +kernel)⟩
theorem fp_835 : mFldP "NeverBelievedModel" 73 8 2 .int := ⟨RX9, TX9, 39, tyX9, rfl, by decide, uX9, mTm 835 (by decide +kernel) (by decide +kernel), tyX9_ok, nmX9, rfl, by decide +kernel⟩
theorem fl_839 : mFld "NeverBelievedModel" 76 8 6 := ⟨RX9, TX9, 39, rfl, by decide, uX9, mTm 839 (by decide +kernel) (by decide +kernel)⟩
theorem fp_839 : mFldP "NeverBelievedModel" 76 8 6 .int := ⟨RX9, TX9, 39, tyX9, rfl, by decide, uX9, mTm 839 (by decide +kernel) (by decide +kernel), tyX9_ok, nmX9, rfl, by decide +kernel⟩
theorem fl_841 : mFld "NeverBelievedModel" 79 8 8 := ⟨RX9, TX9, 39, rfl, by decide, uX9, mTm 841 (by decide +kernel) (by decide +kernel)⟩
theorem fp_841 : mFldP "NeverBelievedModel" 79 8 8 .int := ⟨RX9, TX9, 39, tyX9, rfl, by decide, uX9, mTm 841 (by decide +kernel) (by decide +kernel), tyX9_ok, nmX9, rfl, by decide +kernel⟩
theorem fl_842 : mFld "NeverBelievedModel" 82 8 9 := ⟨RX9, TX9, 39, rfl, by decide, uX9, mTm 842 (by decide +kernel) (by decide +kernel)⟩
theorem fp_842 : mFldP "NeverBelievedModel" 82 8 9 .int := ⟨RX9, TX9, 39, tyX9, rfl, by decide, uX9, mTm 842 (by decide +kernel) (by decide +kernel), tyX9_ok, nmX9, rfl, by decide +kernel⟩
theorem fl_844 : mFld "NeverBelievedModel" 85 8 11 := ⟨RX9, TX9, 39, rfl, by decide, uX9, mTm 844 (by decide +kernel) (by decide +kernel)⟩
theorem fp_844 : mFldP "NeverBelievedModel" 85 8 11 .int := ⟨RX9, TX9, 39, tyX9, rfl, by decide, uX9, mTm 844 (by decide +kernel) (by decide +kernel), tyX9_ok, nmX9, rfl, by decide +kernel⟩
theorem fl_845 : mFld "NeverBelievedModel" 88 8 12 := ⟨RX9, TX9, 39, rfl, by decide, uX9, mTm 845 (by decide +kernel) (by decide +kernel)⟩
theorem fp_845 : mFldP "NeverBelievedModel" 88 8 12 .int := ⟨RX9, TX9, 39, tyX9, rfl, by decide, uX9, mTm 845 (by decide +kernel) (by decide +kernel), tyX9_ok, nmX9, rfl, by decide +kernel⟩
theorem fl_843 : mFld "NeverBelievedModel" 93 8 10 := ⟨RX9, TX9, 39, rfl, by decide, uX9, mTm 843 (by decide +kernel) (by decide +kernel)⟩
theorem fp_843 : mFldP "NeverBelievedModel" 93 8 10 .long := ⟨RX9, TX9, 39, tyX9, rfl, by decide, uX9, mTm 843 (by decide +kernel) (by decide +kernel), tyX9_ok, nmX9, rfl, by decide +kernel⟩
theorem fl_846 : mFld "NeverBelievedModel" 107 8 13 := ⟨RX9, TX9, 39, rfl, by decide, uX9, mTm 846 (by decide +kernel) (by decide +kernel)⟩
theorem fp_846 : mFldP "NeverBelievedModel" 107 8 13 .int := ⟨RX9, TX9, 39, tyX9, rfl, by decide, uX9, mTm 846 (by decide +kernel) (by decide +kernel), tyX9_ok, nmX9, rfl, by decide +kernel⟩
theorem fl_848 : mFld "NeverBelievedModel" 135 8 15 := ⟨RX9, TX9, 39, rfl, by decide, uX9, mTm 848 (by decide +kernel) (by decide +kernel)⟩
theorem fp_848 : mFldP "NeverBelievedModel" 135 8 15 .int := ⟨RX9, TX9, 39, tyX9, rfl, by decide, uX9, mTm 848 (by decide +kernel) (by decide +kernel), tyX9_ok, nmX9, rfl, by decide +kernel⟩
theorem fl_849 : mFld "NeverBelievedModel" 146 8 16 := ⟨RX9, TX9, 39, rfl, by decide, uX9, mTm 849 (by decide +kernel) (by decide +kernel)⟩
theorem fp_849 : mFldP "NeverBelievedModel" 146 8 16 .int := ⟨RX9, TX9, 39, tyX9, rfl, by decide, uX9, mTm 849 (by decide +kernel) (by decide +kernel), tyX9_ok, nmX9, rfl, by decide +kernel⟩
theorem fl_850 : mFld "NeverBelievedModel" 153 8 17 := ⟨RX9, TX9, 39, rfl, by decide, uX9, mTm 850 (by decide +kernel) (by decide +kernel)⟩
theorem fp_850 : mFldP "NeverBelievedModel" 153 8 17 .int := ⟨RX9, TX9, 39, tyX9, rfl, by decide, uX9, mTm 850 (by decide +kernel) (by decide +kernel), tyX9_ok, nmX9, rfl, by decide +kernel⟩
theorem fl_847 : mFld "NeverBelievedModel" 156 8 14 := ⟨RX9, TX9, 39, rfl, by decide, uX9, mTm 847 (by decide +kernel) (by decide +kernel)⟩
theorem fp_847 : mFldP "NeverBelievedModel" 156 8 14 .int := ⟨RX9, TX9, 39, tyX9, rfl, by decide, uX9, mTm 847 (by decide +kernel) (by decide +kernel), tyX9_ok, nmX9, rfl, by decide +kernel⟩
theorem fl_837 : mFld "NeverBelievedModel" 159 8 4 := ⟨RX9, TX9, 39, rfl, by decide, uX9, mTm 837 (by decide +kernel) (by decide +kernel)⟩
theorem fp_837 : mFldP "NeverBelievedModel" 159 8 4 .int := ⟨RX9, TX9, 39, tyX9, rfl, by decide, uX9, mTm 837 (by decide +kernel) (by decide +kernel), tyX9_ok, nmX9, rfl, by decide +kernel⟩
theorem fl_862 : mFld "NeverBelievedModel" 192 8 29 := ⟨RX9, TX9, 39, rfl, by decide, uX9, mTm 862 (by decide +kernel) (by decide +kernel)⟩
theorem fp_862 : mFldP "NeverBelievedModel" 192 8 29 .int := ⟨RX9, TX9, 39, tyX9, rfl, by decide, uX9, mTm 862 (by decide +kernel) (by decide +kernel), tyX9_ok, nmX9, rfl, by decide +kernel⟩
theorem fl_863 : mFld "NeverBelievedModel" 195 8 30 := ⟨RX9, TX9, 39, rfl, by decide, uX9, mTm 863 (by decide +kernel) (by decide +kernel)⟩
theorem fp_863 : mFldP "NeverBelievedModel" 195 8 30 .int := ⟨RX9, TX9, 39, tyX9, rfl, by decide, uX9, mTm 863 (by decide +kernel) (by decide +kernel), tyX9_ok, nmX9, rfl, by decide +kernel⟩
theorem fl_864 : mFld "NeverBelievedModel" 198 8 31 := ⟨RX9, TX9, 39, rfl, by decide, uX9, mTm 864 (by decide +kernel) (by decide +kernel)⟩
theorem fp_864 : mFldP "NeverBelievedModel" 198 8 31 .int := ⟨RX9, TX9, 39, tyX9, rfl, by decide, uX9, mTm 864 (by decide +kernel) (by decide +kernel), tyX9_ok, nmX9, rfl, by decide +kernel⟩
theorem fl_865 : mFld "NeverBelievedModel" 201 8 32 := ⟨RX9, TX9, 39, rfl, by decide, uX9, mTm 865 (by decide +kernel) (by decide +kernel)⟩
theorem fp_865 : mFldP "NeverBelievedModel" 201 8 32 .int := ⟨RX9, TX9, 39, tyX9, rfl, by decide, uX9, mTm 865 (by decide +kernel) (by decide +kernel), tyX9_ok, nmX9, rfl, by decide +kernel⟩
theorem fl_866 : mFld "NeverBelievedModel" 204 8 33 := ⟨RX9, TX9, 39, rfl, by decide, uX9, mTm 866 (by decide +kernel) (by decide +kernel)⟩
theorem fp_866 : mFldP "NeverBelievedModel" 204 8 33 .int := ⟨RX9, TX9, 39, tyX9, rfl, by decide, uX9, mTm 866 (by decide +kernel) (by decide +kernel), tyX9_ok, nmX9, rfl, by decide +kernel⟩
theorem fl_867 : mFld "NeverBelievedModel" 251 8 34 := ⟨RX9, TX9, 39, rfl, by decide, uX9, mTm 867 (by decide +kernel) (by decide +kernel)⟩
theorem fp_867 : mFldP "NeverBelievedModel" 251 8 34 .int := ⟨RX9, TX9, 39, tyX9, rfl, by decide, uX9, mTm 867 (by decide +kernel) (by decide +kernel), tyX9_ok, nmX9, rfl, by decide +kernel⟩
theorem fl_868 : mFld "NeverBelievedModel" 254 8 35 := ⟨RX9, TX9, 39, rfl, by decide, uX9, mTm 868 (by decide +kernel) (by decide +kernel)⟩
theorem fp_868 : mFldP "NeverBelievedModel" 254 8 35 .int := ⟨RX9, TX9, 39, tyX9, rfl, by decide, uX9, mTm 868 (by decide +kernel) (by decide +kernel), tyX9_ok, nmX9, rfl, by decide +kernel⟩
theorem fl_869 : mFld "NeverBelievedModel" 257 8 36 := ⟨RX9, TX9, 39, rfl, by decide, uX9, mTm 869 (by decide +kernel) (by decide +kernel)⟩
theorem fp_869 : mFldP "NeverBelievedModel" 257 8 36 .int := ⟨RX9, TX9, 39, tyX9, rfl, by decide, uX9, mTm 869 (by decide +kernel) (by decide +kernel), tyX9_ok, nmX9, rfl, by decide +kernel⟩
theorem gs_1223 : (Jvm.Cond.fieldLink "java/lang/String" (9 : Nat) "java/lang/String" "value" "[B") ∈ mTb := mTm 1223 (by decide +kernel) (by decide +kernel)
theorem gs_1224 : (Jvm.Cond.fieldLink "java/lang/String" (15 : Nat) "java/lang/String" "coder" "B") ∈ mTb := mTm 1224 (by decide +kernel) (by decide +kernel)
theorem gs_363 : (Jvm.Cond.fieldLink "java/lang/String" (38 : Nat) "java/lang/String" "COMPACT_STRINGS" "Z") ∈ mTb := mTm 363 (by decide +kernel) (by decide +kernel)
theorem gs_379 : (Jvm.Cond.fieldLink "java/lang/String" (1053 : Nat) "jdk/internal/util/Preconditions" "SIOOBE_FORMATTER" "Ljava/util/function/BiFunction;") ∈ mTb := mTm 379 (by decide +kernel) (by decide +kernel)
theorem gs_397 : (Jvm.Cond.fieldLink "java/lang/StringUTF16" (44 : Nat) "java/lang/StringUTF16" "$assertionsDisabled" "Z") ∈ mTb := mTm 397 (by decide +kernel) (by decide +kernel)
theorem gs_399 : (Jvm.Cond.fieldLink "java/lang/StringUTF16" (59 : Nat) "java/lang/StringUTF16" "HI_BYTE_SHIFT" "I") ∈ mTb := mTm 399 (by decide +kernel) (by decide +kernel)
theorem gs_401 : (Jvm.Cond.fieldLink "java/lang/StringUTF16" (63 : Nat) "java/lang/StringUTF16" "LO_BYTE_SHIFT" "I") ∈ mTb := mTm 401 (by decide +kernel) (by decide +kernel)
theorem kc_1147_260 : (Jvm.Cond.constant "NeverBelievedModel" (260 : Nat) (46000 : Int32)) ∈ mTb := mTm 1147 (by decide +kernel) (by decide +kernel)
theorem kc_1191_280 : (Jvm.Cond.constant "NeverBelievedModel" (280 : Nat) (99999 : Int32)) ∈ mTb := mTm 1191 (by decide +kernel) (by decide +kernel)
theorem kc_1207_284 : (Jvm.Cond.constant "NeverBelievedModel" (284 : Nat) (40000 : Int32)) ∈ mTb := mTm 1207 (by decide +kernel) (by decide +kernel)
theorem kc_820_265 : (Jvm.Cond.constant "java/lang/Integer" (265 : Nat) (1431655765 : Int32)) ∈ mTb := mTm 820 (by decide +kernel) (by decide +kernel)
theorem kc_821_266 : (Jvm.Cond.constant "java/lang/Integer" (266 : Nat) (858993459 : Int32)) ∈ mTb := mTm 821 (by decide +kernel) (by decide +kernel)
theorem kc_822_267 : (Jvm.Cond.constant "java/lang/Integer" (267 : Nat) (252645135 : Int32)) ∈ mTb := mTm 822 (by decide +kernel) (by decide +kernel)
theorem kl_799 : (Jvm.Cond.constantLong "NeverBelieved" (269 : Nat) (7919 : Int64)) ∈ mTb := mTm 799 (by decide +kernel) (by decide +kernel)
theorem kl_800 : (Jvm.Cond.constantLong "NeverBelieved" (271 : Nat) (6151 : Int64)) ∈ mTb := mTm 800 (by decide +kernel) (by decide +kernel)
theorem kl_801 : (Jvm.Cond.constantLong "NeverBelieved" (273 : Nat) (65521 : Int64)) ∈ mTb := mTm 801 (by decide +kernel) (by decide +kernel)
theorem kl_614 : (Jvm.Cond.constantLong "NeverBelieved$Minds" (9 : Nat) (4095 : Int64)) ∈ mTb := mTm 614 (by decide +kernel) (by decide +kernel)
theorem kl_615 : (Jvm.Cond.constantLong "NeverBelieved$Minds" (11 : Nat) (-1 : Int64)) ∈ mTb := mTm 615 (by decide +kernel) (by decide +kernel)
theorem kl_979 : (Jvm.Cond.constantLong "NeverBelievedModel" (91 : Nat) (-2 : Int64)) ∈ mTb := mTm 979 (by decide +kernel) (by decide +kernel)
theorem kl_980 : (Jvm.Cond.constantLong "NeverBelievedModel" (97 : Nat) (27 : Int64)) ∈ mTb := mTm 980 (by decide +kernel) (by decide +kernel)
theorem kl_981 : (Jvm.Cond.constantLong "NeverBelievedModel" (99 : Nat) (96 : Int64)) ∈ mTb := mTm 981 (by decide +kernel) (by decide +kernel)
theorem kl_982 : (Jvm.Cond.constantLong "NeverBelievedModel" (101 : Nat) (-4 : Int64)) ∈ mTb := mTm 982 (by decide +kernel) (by decide +kernel)
theorem kl_983 : (Jvm.Cond.constantLong "NeverBelievedModel" (103 : Nat) (-1 : Int64)) ∈ mTb := mTm 983 (by decide +kernel) (by decide +kernel)
theorem kl_984 : (Jvm.Cond.constantLong "NeverBelievedModel" (105 : Nat) (-3 : Int64)) ∈ mTb := mTm 984 (by decide +kernel) (by decide +kernel)
theorem kl_989 : (Jvm.Cond.constantLong "NeverBelievedModel" (117 : Nat) (149125 : Int64)) ∈ mTb := mTm 989 (by decide +kernel) (by decide +kernel)
theorem kl_990 : (Jvm.Cond.constantLong "NeverBelievedModel" (119 : Nat) (1489 : Int64)) ∈ mTb := mTm 990 (by decide +kernel) (by decide +kernel)
theorem kl_991 : (Jvm.Cond.constantLong "NeverBelievedModel" (121 : Nat) (1776129921 : Int64)) ∈ mTb := mTm 991 (by decide +kernel) (by decide +kernel)
theorem kl_992 : (Jvm.Cond.constantLong "NeverBelievedModel" (123 : Nat) (1758676 : Int64)) ∈ mTb := mTm 992 (by decide +kernel) (by decide +kernel)
theorem kl_993 : (Jvm.Cond.constantLong "NeverBelievedModel" (125 : Nat) (165590316 : Int64)) ∈ mTb := mTm 993 (by decide +kernel) (by decide +kernel)
theorem kl_994 : (Jvm.Cond.constantLong "NeverBelievedModel" (127 : Nat) (1965486658967694 : Int64)) ∈ mTb := mTm 994 (by decide +kernel) (by decide +kernel)
theorem kl_995 : (Jvm.Cond.constantLong "NeverBelievedModel" (129 : Nat) (1629833 : Int64)) ∈ mTb := mTm 995 (by decide +kernel) (by decide +kernel)
theorem kl_996 : (Jvm.Cond.constantLong "NeverBelievedModel" (131 : Nat) (66175 : Int64)) ∈ mTb := mTm 996 (by decide +kernel) (by decide +kernel)
theorem kl_997 : (Jvm.Cond.constantLong "NeverBelievedModel" (133 : Nat) (10497936 : Int64)) ∈ mTb := mTm 997 (by decide +kernel) (by decide +kernel)
theorem kl_1212 : (Jvm.Cond.constantLong "NeverBelievedModel" (293 : Nat) (7919 : Int64)) ∈ mTb := mTm 1212 (by decide +kernel) (by decide +kernel)
theorem kl_1213 : (Jvm.Cond.constantLong "NeverBelievedModel" (295 : Nat) (6151 : Int64)) ∈ mTb := mTm 1213 (by decide +kernel) (by decide +kernel)
theorem kl_1214 : (Jvm.Cond.constantLong "NeverBelievedModel" (297 : Nat) (65521 : Int64)) ∈ mTb := mTm 1214 (by decide +kernel) (by decide +kernel)
theorem icm1 : Int32.ofInt (-1) = -1 := by decide
theorem ic0 : Int32.ofInt 0 = 0 := by decide
theorem ic1 : Int32.ofInt 1 = 1 := by decide
theorem ic2 : Int32.ofInt 2 = 2 := by decide
theorem ic3 : Int32.ofInt 3 = 3 := by decide
theorem ic4 : Int32.ofInt 4 = 4 := by decide
theorem ic5 : Int32.ofInt 5 = 5 := by decide
theorem ic7 : Int32.ofInt 7 = 7 := by decide
theorem bpm5 : (Int8.ofInt (-5)).toInt32 = -5 := by decide
theorem bpm4 : (Int8.ofInt (-4)).toInt32 = -4 := by decide
theorem bpm3 : (Int8.ofInt (-3)).toInt32 = -3 := by decide
theorem bpm2 : (Int8.ofInt (-2)).toInt32 = -2 := by decide
theorem bp6 : (Int8.ofInt 6).toInt32 = 6 := by decide
theorem bp7 : (Int8.ofInt 7).toInt32 = 7 := by decide
theorem bp8 : (Int8.ofInt 8).toInt32 = 8 := by decide
theorem bp9 : (Int8.ofInt 9).toInt32 = 9 := by decide
theorem bp10 : (Int8.ofInt 10).toInt32 = 10 := by decide
theorem bp11 : (Int8.ofInt 11).toInt32 = 11 := by decide
theorem bp12 : (Int8.ofInt 12).toInt32 = 12 := by decide
theorem bp14 : (Int8.ofInt 14).toInt32 = 14 := by decide
theorem bp16 : (Int8.ofInt 16).toInt32 = 16 := by decide
theorem bp18 : (Int8.ofInt 18).toInt32 = 18 := by decide
theorem bp20 : (Int8.ofInt 20).toInt32 = 20 := by decide
theorem bp24 : (Int8.ofInt 24).toInt32 = 24 := by decide
theorem bp30 : (Int8.ofInt 30).toInt32 = 30 := by decide
theorem bp31 : (Int8.ofInt 31).toInt32 = 31 := by decide
theorem bp32 : (Int8.ofInt 32).toInt32 = 32 := by decide
theorem bp40 : (Int8.ofInt 40).toInt32 = 40 := by decide
theorem bp48 : (Int8.ofInt 48).toInt32 = 48 := by decide
theorem bp57 : (Int8.ofInt 57).toInt32 = 57 := by decide
theorem bp59 : (Int8.ofInt 59).toInt32 = 59 := by decide
theorem bp63 : (Int8.ofInt 63).toInt32 = 63 := by decide
theorem bp64 : (Int8.ofInt 64).toInt32 = 64 := by decide
theorem bp84 : (Int8.ofInt 84).toInt32 = 84 := by decide
theorem bp97 : (Int8.ofInt 97).toInt32 = 97 := by decide
theorem bp99 : (Int8.ofInt 99).toInt32 = 99 := by decide
theorem bp100 : (Int8.ofInt 100).toInt32 = 100 := by decide
theorem bp122 : (Int8.ofInt 122).toInt32 = 122 := by decide
theorem sp144 : (Int16.ofInt 144).toInt32 = 144 := by decide
theorem sp160 : (Int16.ofInt 160).toInt32 = 160 := by decide
theorem sp224 : (Int16.ofInt 224).toInt32 = 224 := by decide
theorem sp255 : (Int16.ofInt 255).toInt32 = 255 := by decide
theorem sp256 : (Int16.ofInt 256).toInt32 = 256 := by decide
theorem sp500 : (Int16.ofInt 500).toInt32 = 500 := by decide
theorem sp720 : (Int16.ofInt 720).toInt32 = 720 := by decide
theorem sp999 : (Int16.ofInt 999).toInt32 = 999 := by decide
theorem sp1000 : (Int16.ofInt 1000).toInt32 = 1000 := by decide
theorem sp4095 : (Int16.ofInt 4095).toInt32 = 4095 := by decide
theorem sp9999 : (Int16.ofInt 9999).toInt32 = 9999 := by decide
theorem sp10000 : (Int16.ofInt 10000).toInt32 = 10000 := by decide
theorem sh0 : mSh[0]? = some (.inr (7, [(2, 1), (2, 22), (2, 39), (2, 43), (2, 46), (2, 58)])) := rfl
theorem sh1 : mSh[1]? = some (.inr (1, [(0, 0), (0, 0), (0, 0), (0, 0), (0, 0), (2, 2), (2, 9), (2, 15)])) := rfl
theorem sh2 : mSh[2]? = some (.inl (3, 6, [3, 4, 5, 6, 7, 8])) := rfl
theorem sh3 : mSh[3]? = some (.inl (0, 2, [])) := rfl
theorem sh4 : mSh[4]? = some (.inl (0, 2, [])) := rfl
theorem sh5 : mSh[5]? = some (.inl (0, 2, [])) := rfl
theorem sh6 : mSh[6]? = some (.inl (0, 2, [])) := rfl
theorem sh7 : mSh[7]? = some (.inl (0, 2, [])) := rfl
theorem sh8 : mSh[8]? = some (.inl (0, 2, [])) := rfl
theorem sh9 : mSh[9]? = some (.inl (3, 5, [10, 11, 12, 13, 14])) := rfl
theorem sh10 : mSh[10]? = some (.inl (0, 6, [])) := rfl
theorem sh11 : mSh[11]? = some (.inl (0, 6, [])) := rfl
theorem sh12 : mSh[12]? = some (.inl (0, 6, [])) := rfl
theorem sh13 : mSh[13]? = some (.inl (0, 6, [])) := rfl
theorem sh14 : mSh[14]? = some (.inl (0, 6, [])) := rfl
theorem sh15 : mSh[15]? = some (.inl (3, 6, [16, 17, 18, 19, 20, 21])) := rfl
theorem sh16 : mSh[16]? = some (.inl (0, 4, [])) := rfl
theorem sh17 : mSh[17]? = some (.inl (0, 4, [])) := rfl
theorem sh18 : mSh[18]? = some (.inl (0, 4, [])) := rfl
theorem sh19 : mSh[19]? = some (.inl (0, 4, [])) := rfl
theorem sh20 : mSh[20]? = some (.inl (0, 4, [])) := rfl
theorem sh21 : mSh[21]? = some (.inl (0, 4, [])) := rfl
theorem sh22 : mSh[22]? = some (.inr (4, [(2, 23), (0, 0), (2, 24), (0, 0), (0, 0), (0, 0), (0, 0), (0, 0), (0, 0), (0, 0)])) := rfl
theorem sh23 : mSh[23]? = some (.inl (0, 160, [])) := rfl
theorem sh24 : mSh[24]? = some (.inl (3, 14, [25, 26, 27, 28, 29, 30, 31, 32, 33, 34, 35, 36, 37, 38])) := rfl
theorem sh25 : mSh[25]? = some (.inl (0, 6, [])) := rfl
theorem sh26 : mSh[26]? = some (.inl (0, 6, [])) := rfl
theorem sh27 : mSh[27]? = some (.inl (0, 6, [])) := rfl
theorem sh28 : mSh[28]? = some (.inl (0, 6, [])) := rfl
theorem sh29 : mSh[29]? = some (.inl (0, 6, [])) := rfl
theorem sh30 : mSh[30]? = some (.inl (0, 6, [])) := rfl
theorem sh31 : mSh[31]? = some (.inl (0, 6, [])) := rfl
theorem sh32 : mSh[32]? = some (.inl (0, 6, [])) := rfl
theorem sh33 : mSh[33]? = some (.inl (0, 6, [])) := rfl
theorem sh34 : mSh[34]? = some (.inl (0, 6, [])) := rfl
theorem sh35 : mSh[35]? = some (.inl (0, 6, [])) := rfl
theorem sh36 : mSh[36]? = some (.inl (0, 6, [])) := rfl
theorem sh37 : mSh[37]? = some (.inl (0, 6, [])) := rfl
theorem sh38 : mSh[38]? = some (.inl (0, 6, [])) := rfl
theorem sh39 : mSh[39]? = some (.inr (2, [(0, 0), (0, 0), (0, 0), (1, 0), (0, 0), (0, 0), (2, 40), (2, 41), (2, 42)])) := rfl
theorem sh40 : mSh[40]? = some (.inl (0, 10, [])) := rfl
theorem sh41 : mSh[41]? = some (.inl (2, 10, [])) := rfl
theorem sh42 : mSh[42]? = some (.inl (0, 10, [])) := rfl
theorem sh43 : mSh[43]? = some (.inr (0, [(0, 0), (2, 44), (2, 45), (0, 0), (0, 0)])) := rfl
theorem sh44 : mSh[44]? = some (.inl (0, 5, [])) := rfl
theorem sh45 : mSh[45]? = some (.inl (0, 5, [])) := rfl
theorem sh46 : mSh[46]? = some (.inr (3, [(2, 1), (2, 47), (0, 0), (1, 0), (2, 48), (2, 49), (2, 50), (2, 51), (0, 0), (0, 0), (0, 0)])) := rfl
theorem sh47 : mSh[47]? = some (.inr (6, [(0, 0), (0, 0), (0, 0), (0, 0), (0, 0)])) := rfl
theorem sh48 : mSh[48]? = some (.inl (0, 32, [])) := rfl
theorem sh49 : mSh[49]? = some (.inl (0, 32, [])) := rfl
theorem sh50 : mSh[50]? = some (.inl (0, 5, [])) := rfl
theorem sh51 : mSh[51]? = some (.inl (0, 5, [])) := rfl
theorem sh52 : mSh[52]? = some (.inr (3, [(2, 1), (2, 53), (0, 0), (1, 0), (2, 54), (2, 55), (2, 56), (2, 57), (0, 0), (0, 0), (0, 0)])) := rfl
theorem sh53 : mSh[53]? = some (.inr (6, [(0, 0), (0, 0), (0, 0), (0, 0), (0, 0)])) := rfl
theorem sh54 : mSh[54]? = some (.inl (0, 32, [])) := rfl
theorem sh55 : mSh[55]? = some (.inl (0, 32, [])) := rfl
theorem sh56 : mSh[56]? = some (.inl (0, 5, [])) := rfl
theorem sh57 : mSh[57]? = some (.inl (0, 5, [])) := rfl
theorem sh58 : mSh[58]? = some (.inr (5, [(2, 1), (2, 46), (2, 52), (0, 0), (0, 0), (0, 0), (0, 0), (0, 0), (2, 59)])) := rfl
theorem sh59 : mSh[59]? = some (.inl (0, 4, [])) := rfl
theorem sh60 : mSh[60]? = some (.inr (8, [(0, 0), (2, 61), (0, 0), (2, 62), (0, 0), (2, 63), (0, 0), (2, 64), (0, 0), (0, 0), (1, 0), (0, 0), (0, 0), (0, 0), (0, 0), (0, 0), (0, 0), (0, 0), (2, 65), (2, 66), (2, 67), (2, 68), (2, 69), (2, 70), (2, 71), (2, 72), (0, 0), (2, 73), (0, 0), (0, 0), (0, 0), (0, 0), (0, 0), (0, 0), (0, 0), (0, 0), (0, 0), (2, 74), (2, 75)])) := rfl
theorem sh61 : mSh[61]? = some (.inl (0, 18, [])) := rfl
theorem sh62 : mSh[62]? = some (.inl (0, 30, [])) := rfl
theorem sh63 : mSh[63]? = some (.inl (0, 24, [])) := rfl
theorem sh64 : mSh[64]? = some (.inl (0, 160, [])) := rfl
theorem sh65 : mSh[65]? = some (.inl (0, 84, [])) := rfl
theorem sh66 : mSh[66]? = some (.inl (0, 32, [])) := rfl
theorem sh67 : mSh[67]? = some (.inl (0, 32, [])) := rfl
theorem sh68 : mSh[68]? = some (.inl (0, 32, [])) := rfl
theorem sh69 : mSh[69]? = some (.inl (0, 32, [])) := rfl
theorem sh70 : mSh[70]? = some (.inl (0, 64, [])) := rfl
theorem sh71 : mSh[71]? = some (.inl (1, 2, [])) := rfl
theorem sh72 : mSh[72]? = some (.inl (0, 256, [])) := rfl
theorem sh73 : mSh[73]? = some (.inl (0, 10, [])) := rfl
theorem sh74 : mSh[74]? = some (.inl (1, 64, [])) := rfl
theorem sh75 : mSh[75]? = some (.inl (0, 32, [])) := rfl
theorem shF {b : Nat} (h : b = 46 ∨ b = 52) : mSh[b]? = some (.inr (3, [(2, 1), (2, b + 1), (0, 0), (1, 0), (2, b + 2), (2, b + 3), (2, b + 4), (2, b + 5), (0, 0), (0, 0), (0, 0)])) := by rcases h with rfl | rfl <;> rfl
theorem shF1 {b : Nat} (h : b = 46 ∨ b = 52) : mSh[b + 1]? = some (.inr (6, [(0, 0), (0, 0), (0, 0), (0, 0), (0, 0)])) := by rcases h with rfl | rfl <;> rfl
theorem shF2 {b : Nat} (h : b = 46 ∨ b = 52) : mSh[b + 2]? = some (.inl (0, 32, [])) := by rcases h with rfl | rfl <;> rfl
theorem shF3 {b : Nat} (h : b = 46 ∨ b = 52) : mSh[b + 3]? = some (.inl (0, 32, [])) := by rcases h with rfl | rfl <;> rfl
theorem shF4 {b : Nat} (h : b = 46 ∨ b = 52) : mSh[b + 4]? = some (.inl (0, 5, [])) := by rcases h with rfl | rfl <;> rfl
theorem shF5 {b : Nat} (h : b = 46 ∨ b = 52) : mSh[b + 5]? = some (.inl (0, 5, [])) := by rcases h with rfl | rfl <;> rfl
theorem shS {c : Nat} (h : c = 47 ∨ c = 53) : mSh[c]? = some (.inr (6, [(0, 0), (0, 0), (0, 0), (0, 0), (0, 0)])) := by rcases h with rfl | rfl <;> rfl
