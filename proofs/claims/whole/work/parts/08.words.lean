section JW
def iX0_motiveOf : jm_I := (yX0_motiveOf, cX0_motiveOf, 5, some .int)
def iX0_lowestKey : jm_I := (yX0_lowestKey, cX0_lowestKey, 3, some .int)
def iX0_highestKey : jm_I := (yX0_highestKey, cX0_highestKey, 3, some .int)
def iX0_howManyKeys : jm_I := (yX0_howManyKeys, cX0_howManyKeys, 3, some .int)
def iX0_canSing : jm_I := (yX0_canSing, cX0_canSing, 4, some .boolean)
def iX0_slipOf : jm_I := (yX0_slipOf, cX0_slipOf, 5, some .int)
def iX0_shakeOf : jm_I := (yX0_shakeOf, cX0_shakeOf, 3, some .int)
def iX0_weightOf : jm_I := (yX0_weightOf, cX0_weightOf, 5, some .int)
def iX0_weightOfTestimony : jm_I := (yX0_weightOfTestimony, cX0_weightOfTestimony, 3, some .int)
def iX0_setTerms : jm_I := (yX0_setTerms, cX0_setTerms, 3, none)
def iX1_copyFrom : jm_I := (yX1_copyFrom, cX1_copyFrom, 2, none)
def iX1_draw : jm_I := (yX1_draw, cX1_draw, 2, some .int)
def iX1_isTestimony : jm_I := (yX1_isTestimony, cX1_isTestimony, 2, some .boolean)
def iX1_ofTestimony : jm_I := (yX1_ofTestimony, cX1_ofTestimony, 3, some .int)
def iX1_hasRoom : jm_I := (yX1_hasRoom, cX1_hasRoom, 2, some .boolean)
def iX1_addBar : jm_I := (yX1_addBar, cX1_addBar, 2, none)
def iX1_addTestimony : jm_I := (yX1_addTestimony, cX1_addTestimony, 6, none)
def iX1_barOf : jm_I := (yX1_barOf, cX1_barOf, 4, some .int)
def iX1_sungBy : jm_I := (yX1_sungBy, cX1_sungBy, 4, some .int)
def iX1_howManyHoarse : jm_I := (yX1_howManyHoarse, cX1_howManyHoarse, 4, some .int)
def iX1_strikeOut : jm_I := (yX1_strikeOut, cX1_strikeOut, 2, none)
def iX1_write : jm_I := (yX1_write, cX1_write, 6, none)
def iX2_canBeCalled : jm_I := (yX2_canBeCalled, cX2_canBeCalled, 5, some .boolean)
def iX2_barsOf : jm_I := (yX2_barsOf, cX2_barsOf, 5, some .int)
def iX2_sing : jm_I := (yX2_sing, cX2_sing, 7, some .int)
def iX2_singNotes : jm_I := (yX2_singNotes, cX2_singNotes, 9, some .int)
def iX2_crossExamine : jm_I := (yX2_crossExamine, cX2_crossExamine, 2, none)
def iX2_loseNerve : jm_I := (yX2_loseNerve, cX2_loseNerve, 3, none)
def iX2_restOneDay : jm_I := (yX2_restOneDay, cX2_restOneDay, 2, none)
def iX2_goThrough : jm_I := (yX2_goThrough, cX2_goThrough, 4, some .int)
def iX3_copyFrom : jm_I := (yX3_copyFrom, cX3_copyFrom, 2, none)
def iX3_clear : jm_I := (yX3_clear, cX3_clear, 1, none)
def iX3_addOrder : jm_I := (yX3_addOrder, cX3_addOrder, 3, some .boolean)
def iX3_openLine : jm_I := (yX3_openLine, cX3_openLine, 2, none)
def iX3_openCondition : jm_I := (yX3_openCondition, cX3_openCondition, 1, none)
def iX3_closeLine : jm_I := (yX3_closeLine, cX3_closeLine, 1, none)
def iX3_tell : jm_I := (yX3_tell, cX3_tell, 6, some .int)
def iX3_worth : jm_I := (yX3_worth, cX3_worth, 8, some .int)
def iX3_joined : jm_I := (yX3_joined, cX3_joined, 3, some .int)
def iX4_readLines : jm_I := (yX4_readLines, cX4_readLines, 3, some .boolean)
def iX4_readCondition : jm_I := (yX4_readCondition, cX4_readCondition, 5, some .boolean)
def iX4_readTest : jm_I := (yX4_readTest, cX4_readTest, 4, some .boolean)
def iX4_comparisonOf : jm_I := (yX4_comparisonOf, cX4_comparisonOf, 1, some .int)
def iX4_readSum : jm_I := (yX4_readSum, cX4_readSum, 3, some .boolean)
def iX4_readProduct : jm_I := (yX4_readProduct, cX4_readProduct, 3, some .boolean)
def iX4_readUnit : jm_I := (yX4_readUnit, cX4_readUnit, 2, some .boolean)
def iX5_copyFrom : jm_I := (yX5_copyFrom, cX5_copyFrom, 2, none)
def iX5_stepOf : jm_I := (yX5_stepOf, cX5_stepOf, 4, some .int)
def iX5_rise : jm_I := (yX5_rise, cX5_rise, 5, some .int)
def iX5_fall : jm_I := (yX5_fall, cX5_fall, 5, some .int)
def iX5_readFrom : jm_I := (yX5_readFrom, cX5_readFrom, 3, some .boolean)
def iX5_readLine : jm_I := (yX5_readLine, cX5_readLine, 4, some .boolean)
def iX5_readSteps : jm_I := (yX5_readSteps, cX5_readSteps, 5, some .boolean)
def iX5_readStep : jm_I := (yX5_readStep, cX5_readStep, 3, some .int)
def iX6_copyFrom : jm_I := (yX6_copyFrom, cX6_copyFrom, 2, none)
def iX6_rests : jm_I := (yX6_rests, cX6_rests, 3, some .int)
def iX6_readFrom : jm_I := (yX6_readFrom, cX6_readFrom, 4, some .boolean)
def iX6_readEnd : jm_I := (yX6_readEnd, cX6_readEnd, 2, some .boolean)
def iX6_readDeed : jm_I := (yX6_readDeed, cX6_readDeed, 3, some .boolean)
def iX6_readCall : jm_I := (yX6_readCall, cX6_readCall, 5, some .boolean)
def iX6_readCross : jm_I := (yX6_readCross, cX6_readCross, 3, some .boolean)
def iX6_readAgain : jm_I := (yX6_readAgain, cX6_readAgain, 2, some .boolean)
def iX6_closeAgain : jm_I := (yX6_closeAgain, cX6_closeAgain, 6, some .boolean)
def iX6_copyDeed : jm_I := (yX6_copyDeed, cX6_copyDeed, 3, none)
def iX6_addDeed : jm_I := (yX6_addDeed, cX6_addDeed, 5, none)
def iX7_hasRoom : jm_I := (yX7_hasRoom, cX7_hasRoom, 2, some .boolean)
def iX7_addNumber : jm_I := (yX7_addNumber, cX7_addNumber, 3, none)
def iX7_clearFault : jm_I := (yX7_clearFault, cX7_clearFault, 1, none)
def iX7_refuse : jm_I := (yX7_refuse, cX7_refuse, 2, some .boolean)
def iX7_kind : jm_I := (yX7_kind, cX7_kind, 1, some .int)
def iX7_skip : jm_I := (yX7_skip, cX7_skip, 1, none)
def iX7_take : jm_I := (yX7_take, cX7_take, 2, some .boolean)
def iX7_isNumberWithin : jm_I := (yX7_isNumberWithin, cX7_isNumberWithin, 3, some .boolean)
def iX7_number : jm_I := (yX7_number, cX7_number, 3, some .int)
def iX7_cutIntoTokens : jm_I := (yX7_cutIntoTokens, cX7_cutIntoTokens, 6, none)
def iX7_addToken : jm_I := (yX7_addToken, cX7_addToken, 2, none)
def iX7_sortOf : jm_I := (yX7_sortOf, cX7_sortOf, 1, some .int)
def iX7_kindOf : jm_I := (yX7_kindOf, cX7_kindOf, 5, some .int)
def iX7_wordOf : jm_I := (yX7_wordOf, cX7_wordOf, 6, some .int)
def iX7_isSpelled : jm_I := (yX7_isSpelled, cX7_isSpelled, 7, some .boolean)
def iX8_copyFrom : jm_I := (yX8_copyFrom, cX8_copyFrom, 2, none)
def iX8_isWitness : jm_I := (yX8_isWitness, cX8_isWitness, 2, some .boolean)
def iX8_addWitness : jm_I := (yX8_addWitness, cX8_addWitness, 6, some .int)
def iX8_claimOf : jm_I := (yX8_claimOf, cX8_claimOf, 3, some .int)
def iX8_sounds : jm_I := (yX8_sounds, cX8_sounds, 3, some .boolean)
def iX8_barsSound : jm_I := (yX8_barsSound, cX8_barsSound, 3, some .boolean)
def iX9_weightFor : jm_I := (yX9_weightFor, cX9_weightFor, 3, some .int)
def iX9_weighAll : jm_I := (yX9_weighAll, cX9_weighAll, 4, none)
def iX9_finding : jm_I := (yX9_finding, cX9_finding, 3, some .int)
def iX9_missingFor : jm_I := (yX9_missingFor, cX9_missingFor, 4, some .int)
def iX9_fewestCallers : jm_I := (yX9_fewestCallers, cX9_fewestCallers, 9, some .int)
def iX9_callable : jm_I := (yX9_callable, cX9_callable, 6, some .int)
def iX9_sumOf : jm_I := (yX9_sumOf, cX9_sumOf, 4, some .int)
def iX9_largestChoir : jm_I := (yX9_largestChoir, cX9_largestChoir, 3, some .int)
def iX9_opponentsOf : jm_I := (yX9_opponentsOf, cX9_opponentsOf, 5, some .int)
def iX9_areUnlike : jm_I := (yX9_areUnlike, cX9_areUnlike, 2, some .boolean)
def iX9_agree : jm_I := (yX9_agree, cX9_agree, 3, some .boolean)
def iX9_worldsWith : jm_I := (yX9_worldsWith, cX9_worldsWith, 4, some .int)
def iX9_tellLiars : jm_I := (yX9_tellLiars, cX9_tellLiars, 3, none)
def iX9_countWorlds : jm_I := (yX9_countWorlds, cX9_countWorlds, 7, some .int)
def iX9_sureFacts : jm_I := (yX9_sureFacts, cX9_sureFacts, 4, some .int)
def iX9_factToAsk : jm_I := (yX9_factToAsk, cX9_factToAsk, 4, some .int)
def iX9_mostAlike : jm_I := (yX9_mostAlike, cX9_mostAlike, 4, some .int)
def iX10_likelyWithin : jm_I := (yX10_likelyWithin, cX10_likelyWithin, 8, some .int)
def iX10_addChance : jm_I := (yX10_addChance, cX10_addChance, 3, none)
def iX10_motivesHeard : jm_I := (yX10_motivesHeard, cX10_motivesHeard, 9, some .int)
def iX10_fewestUnlike : jm_I := (yX10_fewestUnlike, cX10_fewestUnlike, 5, some .int)
def iX10_unlikeFrom : jm_I := (yX10_unlikeFrom, cX10_unlikeFrom, 6, some .int)
def iX10_soundingBars : jm_I := (yX10_soundingBars, cX10_soundingBars, 6, some .int)
def iX10_soundingBehind : jm_I := (yX10_soundingBehind, cX10_soundingBehind, 5, some .int)
def iX10_bestKey : jm_I := (yX10_bestKey, cX10_bestKey, 10, some .int)
def iX10_soundingFrom : jm_I := (yX10_soundingFrom, cX10_soundingFrom, 7, some .int)
def iX10_chordOf : jm_I := (yX10_chordOf, cX10_chordOf, 14, some .int)
def iX10_chosen : jm_I := (yX10_chosen, cX10_chosen, 4, some .int)
def iX10_tellSounds : jm_I := (yX10_tellSounds, cX10_tellSounds, 5, none)
def iX10_rangeOf : jm_I := (yX10_rangeOf, cX10_rangeOf, 2, some .long)
def iX10_has : jm_I := (yX10_has, cX10_has, 3, some .boolean)
def iX10_lowestOf : jm_I := (yX10_lowestOf, cX10_lowestOf, 3, some .int)
def iX11_state : jm_I := (yX11_state, cX11_state, 3, some .int)
def iX11_witness : jm_I := (yX11_witness, cX11_witness, 5, some .int)
def iX11_claim : jm_I := (yX11_claim, cX11_claim, 4, some .boolean)
def iX11_set : jm_I := (yX11_set, cX11_set, 5, some .boolean)
def iX11_feed : jm_I := (yX11_feed, cX11_feed, 6, some .int)
def iX11_end : jm_I := (yX11_end, cX11_end, 2, some .boolean)
def iX11_text : jm_I := (yX11_text, cX11_text, 2, some .int)
def iX11_fault : jm_I := (yX11_fault, cX11_fault, 2, some .int)
def iX11_call : jm_I := (yX11_call, cX11_call, 4, some .int)
def iX11_cross : jm_I := (yX11_cross, cX11_cross, 2, some .int)
def iX11_strike : jm_I := (yX11_strike, cX11_strike, 2, some .boolean)
def iX11_days : jm_I := (yX11_days, cX11_days, 3, some .int)
def iX11_trial : jm_I := (yX11_trial, cX11_trial, 1, some .int)
def iX11_of : jm_I := (yX11_of, cX11_of, 3, some .int)
def iX11_testimony : jm_I := (yX11_testimony, cX11_testimony, 3, some .int)
def iX11_bar : jm_I := (yX11_bar, cX11_bar, 2, some .int)
def iX11_motive : jm_I := (yX11_motive, cX11_motive, 4, some .int)
def iX11_book : jm_I := (yX11_book, cX11_book, 3, some .int)
def iX11_keys : jm_I := (yX11_keys, cX11_keys, 6, some .int)
def iX11_fair : jm_I := (yX11_fair, cX11_fair, 6, some .int)
def iX11_heard : jm_I := (yX11_heard, cX11_heard, 2, some .int)
def iX11_read : jm_I := (yX11_read, cX11_read, 3, some .int)
def iX11_duet : jm_I := (yX11_duet, cX11_duet, 3, some .int)
def iX11_best : jm_I := (yX11_best, cX11_best, 6, some .int)
def iX11_canon : jm_I := (yX11_canon, cX11_canon, 3, some .int)
def iX11_weighed : jm_I := (yX11_weighed, cX11_weighed, 3, some .int)
def iX11_found : jm_I := (yX11_found, cX11_found, 2, some .int)
def iX11_calls : jm_I := (yX11_calls, cX11_calls, 5, some .int)
def iX11_choir : jm_I := (yX11_choir, cX11_choir, 3, some .int)
def iX11_worlds : jm_I := (yX11_worlds, cX11_worlds, 3, some .int)
def iX11_chord : jm_I := (yX11_chord, cX11_chord, 8, some .int)
def iX11_undo : jm_I := (yX11_undo, cX11_undo, 1, some .boolean)
def iX11_image : jm_I := (yX11_image, cX11_image, 2, some .boolean)
def iX11_look : jm_I := (yX11_look, cX11_look, 2, some .int)
def iX11_setOfBench : jm_I := (yX11_setOfBench, cX11_setOfBench, 3, some .boolean)
def iX11_setOfWitness : jm_I := (yX11_setOfWitness, cX11_setOfWitness, 4, some .boolean)
def iX11_adoptMotives : jm_I := (yX11_adoptMotives, cX11_adoptMotives, 1, some .int)
def iX11_adoptLaw : jm_I := (yX11_adoptLaw, cX11_adoptLaw, 1, some .int)
def iX11_adoptPlan : jm_I := (yX11_adoptPlan, cX11_adoptPlan, 1, some .int)
def iX11_keepCourt : jm_I := (yX11_keepCourt, cX11_keepCourt, 2, none)
def iX11_forgetDeeds : jm_I := (yX11_forgetDeeds, cX11_forgetDeeds, 1, none)
def iX11_isWithin : jm_I := (yX11_isWithin, cX11_isWithin, 3, some .boolean)
def iX11_isNote : jm_I := (yX11_isNote, cX11_isNote, 1, some .boolean)
def iX11_isFact : jm_I := (yX11_isFact, cX11_isFact, 1, some .boolean)
def iX11_isValue : jm_I := (yX11_isValue, cX11_isValue, 1, some .boolean)
def iX11_held : jm_I := (yX11_held, cX11_held, 2, some .int)
def iX12_isIn : jm_I := (yX12_isIn, cX12_isIn, 4, some .boolean)
def iX12_held : jm_I := (yX12_held, cX12_held, 4, some .int)
def iX12_greater : jm_I := (yX12_greater, cX12_greater, 3, some .int)
def iX12_lesser : jm_I := (yX12_lesser, cX12_lesser, 3, some .int)
def iX12_far : jm_I := (yX12_far, cX12_far, 3, some .int)
def iX12_onesOf : jm_I := (yX12_onesOf, cX12_onesOf, 4, some .int)
def iX12_keepsAhead : jm_I := (yX12_keepsAhead, cX12_keepsAhead, 2, none)
def iX12_undo : jm_I := (yX12_undo, cX12_undo, 2, some .boolean)
def iX12_state : jm_I := (yX12_state, cX12_state, 3, some .int)
def iX12_draw : jm_I := (yX12_draw, cX12_draw, 2, some .int)
def iX12_soundNow : jm_I := (yX12_soundNow, cX12_soundNow, 1, some .int)
def iX12_needNow : jm_I := (yX12_needNow, cX12_needNow, 1, some .int)
def iX12_flatsNow : jm_I := (yX12_flatsNow, cX12_flatsNow, 1, some .int)
def iX12_isWitness : jm_I := (yX12_isWitness, cX12_isWitness, 2, some .boolean)
def iX12_isFact : jm_I := (yX12_isFact, cX12_isFact, 2, some .boolean)
def iX12_nerveOf : jm_I := (yX12_nerveOf, cX12_nerveOf, 2, some .int)
def iX12_nerveBe : jm_I := (yX12_nerveBe, cX12_nerveBe, 3, none)
def iX12_claimOf : jm_I := (yX12_claimOf, cX12_claimOf, 3, some .int)
def iX12_witness : jm_I := (yX12_witness, cX12_witness, 6, some .int)
def iX12_claim : jm_I := (yX12_claim, cX12_claim, 4, some .boolean)
def iX12_canSet : jm_I := (yX12_canSet, cX12_canSet, 4, some .boolean)
def iX12_set : jm_I := (yX12_set, cX12_set, 4, some .boolean)
def iX12_types : jm_I := (yX12_types, cX12_types, 3, none)
def iX12_feed : jm_I := (yX12_feed, cX12_feed, 6, some .int)
def iX12_end : jm_I := (yX12_end, cX12_end, 2, some .boolean)
def iX12_raw : jm_I := (yX12_raw, cX12_raw, 2, some .int)
def iX12_isLetter : jm_I := (yX12_isLetter, cX12_isLetter, 2, some .boolean)
def iX12_isDigit : jm_I := (yX12_isDigit, cX12_isDigit, 2, some .boolean)
def iX12_isMarkSign : jm_I := (yX12_isMarkSign, cX12_isMarkSign, 2, some .boolean)
def iX12_wordAt : jm_I := (yX12_wordAt, cX12_wordAt, 6, some .int)
def iX12_reads : jm_I := (yX12_reads, cX12_reads, 2, none)
def iX12_errs : jm_I := (yX12_errs, cX12_errs, 2, some .int)
def iX12_isWord : jm_I := (yX12_isWord, cX12_isWord, 2, some .boolean)
def iX12_isSign : jm_I := (yX12_isSign, cX12_isSign, 2, some .boolean)
def iX12_emits : jm_I := (yX12_emits, cX12_emits, 3, none)
def iX12_canAsk : jm_I := (yX12_canAsk, cX12_canAsk, 2, some .boolean)
def iX12_readUnit : jm_I := (yX12_readUnit, cX12_readUnit, 2, some .int)
def iX12_readProduct : jm_I := (yX12_readProduct, cX12_readProduct, 2, some .int)
def iX12_readSum : jm_I := (yX12_readSum, cX12_readSum, 2, some .int)
def iX12_readCompared : jm_I := (yX12_readCompared, cX12_readCompared, 2, some .int)
def iX12_waits : jm_I := (yX12_waits, cX12_waits, 2, none)
def iX12_settles : jm_I := (yX12_settles, cX12_settles, 2, none)
def iX12_readAny : jm_I := (yX12_readAny, cX12_readAny, 4, some .int)
def iX12_isLineWord : jm_I := (yX12_isLineWord, cX12_isLineWord, 1, some .boolean)
def iX12_readLaw : jm_I := (yX12_readLaw, cX12_readLaw, 3, some .int)
def iX12_takesLaw : jm_I := (yX12_takesLaw, cX12_takesLaw, 3, none)
def iX12_readNumber : jm_I := (yX12_readNumber, cX12_readNumber, 4, some .int)
def iX12_readMark : jm_I := (yX12_readMark, cX12_readMark, 2, some .int)
def iX12_readTold : jm_I := (yX12_readTold, cX12_readTold, 4, some .int)
def iX12_readStep : jm_I := (yX12_readStep, cX12_readStep, 5, some .int)
def iX12_readMotive : jm_I := (yX12_readMotive, cX12_readMotive, 4, some .int)
def iX12_readMotives : jm_I := (yX12_readMotives, cX12_readMotives, 2, some .int)
def iX12_emitsStep : jm_I := (yX12_emitsStep, cX12_emitsStep, 6, none)
def iX12_readCall : jm_I := (yX12_readCall, cX12_readCall, 4, some .int)
def iX12_readCross : jm_I := (yX12_readCross, cX12_readCross, 2, some .int)
def iX12_readAgain : jm_I := (yX12_readAgain, cX12_readAgain, 2, some .int)
def iX12_readOther : jm_I := (yX12_readOther, cX12_readOther, 2, some .int)
def iX12_readSteps : jm_I := (yX12_readSteps, cX12_readSteps, 2, some .int)
def iX12_laysDeeds : jm_I := (yX12_laysDeeds, cX12_laysDeeds, 6, some .int)
def iX12_readsText : jm_I := (yX12_readsText, cX12_readsText, 2, some .int)
def iX12_takesOther : jm_I := (yX12_takesOther, cX12_takesOther, 4, none)
def iX12_text : jm_I := (yX12_text, cX12_text, 3, some .int)
def iX12_fault : jm_I := (yX12_fault, cX12_fault, 2, some .int)
def iX12_twoOf : jm_I := (yX12_twoOf, cX12_twoOf, 4, some .int)
def iX12_runs : jm_I := (yX12_runs, cX12_runs, 6, some .int)
def iX12_lineOf : jm_I := (yX12_lineOf, cX12_lineOf, 4, some .int)
def iX12_ofTestimony : jm_I := (yX12_ofTestimony, cX12_ofTestimony, 3, some .int)
def iX12_isTestimony : jm_I := (yX12_isTestimony, cX12_isTestimony, 2, some .boolean)
def iX12_isStruck : jm_I := (yX12_isStruck, cX12_isStruck, 2, some .boolean)
def iX12_sungBy : jm_I := (yX12_sungBy, cX12_sungBy, 4, some .int)
def iX12_notes : jm_I := (yX12_notes, cX12_notes, 6, none)
def iX12_asks : jm_I := (yX12_asks, cX12_asks, 5, none)
def iX12_lawTells : jm_I := (yX12_lawTells, cX12_lawTells, 5, some .int)
def iX12_slipOf : jm_I := (yX12_slipOf, cX12_slipOf, 6, some .int)
def iX12_shakeOf : jm_I := (yX12_shakeOf, cX12_shakeOf, 4, some .int)
def iX12_weighOf : jm_I := (yX12_weighOf, cX12_weighOf, 6, some .int)
def iX12_notesOf : jm_I := (yX12_notesOf, cX12_notesOf, 2, some .int)
def iX12_stepOf : jm_I := (yX12_stepOf, cX12_stepOf, 3, some .int)
def iX12_aboveOf : jm_I := (yX12_aboveOf, cX12_aboveOf, 5, some .int)
def iX12_canSing : jm_I := (yX12_canSing, cX12_canSing, 6, some .boolean)
def iX12_motiveOf : jm_I := (yX12_motiveOf, cX12_motiveOf, 3, some .int)
def iX12_isSung : jm_I := (yX12_isSung, cX12_isSung, 4, some .boolean)
def iX12_barsFor : jm_I := (yX12_barsFor, cX12_barsFor, 3, some .int)
def iX12_canCall : jm_I := (yX12_canCall, cX12_canCall, 4, some .boolean)
def iX12_bars : jm_I := (yX12_bars, cX12_bars, 2, none)
def iX12_sings : jm_I := (yX12_sings, cX12_sings, 11, some .int)
def iX12_crosses : jm_I := (yX12_crosses, cX12_crosses, 2, some .int)
def iX12_hoarseMany : jm_I := (yX12_hoarseMany, cX12_hoarseMany, 3, some .int)
def iX12_restsDay : jm_I := (yX12_restsDay, cX12_restsDay, 2, none)
def iX12_call : jm_I := (yX12_call, cX12_call, 4, some .int)
def iX12_cross : jm_I := (yX12_cross, cX12_cross, 2, some .int)
def iX12_strike : jm_I := (yX12_strike, cX12_strike, 2, some .boolean)
def iX12_days : jm_I := (yX12_days, cX12_days, 3, some .int)
def iX12_ofDeed : jm_I := (yX12_ofDeed, cX12_ofDeed, 3, some .int)
def iX12_restsOfTrial : jm_I := (yX12_restsOfTrial, cX12_restsOfTrial, 3, some .int)
def iX12_isDone : jm_I := (yX12_isDone, cX12_isDone, 3, some .boolean)
def iX12_trial : jm_I := (yX12_trial, cX12_trial, 3, some .int)
def iX12_of : jm_I := (yX12_of, cX12_of, 3, some .int)
def iX12_testimony : jm_I := (yX12_testimony, cX12_testimony, 3, some .int)
def iX12_bar : jm_I := (yX12_bar, cX12_bar, 2, some .int)
def iX12_motive : jm_I := (yX12_motive, cX12_motive, 3, some .int)
def iX12_book : jm_I := (yX12_book, cX12_book, 3, some .int)
def iX12_findsKeys : jm_I := (yX12_findsKeys, cX12_findsKeys, 4, none)
def iX12_keys : jm_I := (yX12_keys, cX12_keys, 4, some .int)
def iX12_fair : jm_I := (yX12_fair, cX12_fair, 9, some .int)
def iX12_heard : jm_I := (yX12_heard, cX12_heard, 2, some .int)
def iX12_unlikeTo : jm_I := (yX12_unlikeTo, cX12_unlikeTo, 6, some .int)
def iX12_read : jm_I := (yX12_read, cX12_read, 6, some .int)
def iX12_doSound : jm_I := (yX12_doSound, cX12_doSound, 3, some .boolean)
def iX12_duet : jm_I := (yX12_duet, cX12_duet, 5, some .int)
def iX12_soundsWith : jm_I := (yX12_soundsWith, cX12_soundsWith, 6, some .int)
def iX12_best : jm_I := (yX12_best, cX12_best, 9, some .int)
def iX12_canon : jm_I := (yX12_canon, cX12_canon, 5, some .int)
def iX12_weighedFor : jm_I := (yX12_weighedFor, cX12_weighedFor, 5, some .int)
def iX12_isFoundWith : jm_I := (yX12_isFoundWith, cX12_isFoundWith, 6, some .boolean)
def iX12_weighed : jm_I := (yX12_weighed, cX12_weighed, 3, some .int)
def iX12_found : jm_I := (yX12_found, cX12_found, 3, some .int)
def iX12_singersFor : jm_I := (yX12_singersFor, cX12_singersFor, 5, some .int)
def iX12_calls : jm_I := (yX12_calls, cX12_calls, 9, some .int)
def iX12_doAgree : jm_I := (yX12_doAgree, cX12_doAgree, 4, some .boolean)
def iX12_isChoir : jm_I := (yX12_isChoir, cX12_isChoir, 4, some .boolean)
def iX12_choir : jm_I := (yX12_choir, cX12_choir, 4, some .int)
def iX12_valueIn : jm_I := (yX12_valueIn, cX12_valueIn, 3, some .int)
def iX12_liarsIn : jm_I := (yX12_liarsIn, cX12_liarsIn, 6, some .int)
def iX12_findsWorlds : jm_I := (yX12_findsWorlds, cX12_findsWorlds, 5, some .int)
def iX12_mostIn : jm_I := (yX12_mostIn, cX12_mostIn, 4, some .int)
def iX12_worlds : jm_I := (yX12_worlds, cX12_worlds, 7, some .int)
def iX12_isUnlike : jm_I := (yX12_isUnlike, cX12_isUnlike, 5, some .boolean)
def iX12_areWitnesses : jm_I := (yX12_areWitnesses, cX12_areWitnesses, 5, some .boolean)
def iX12_chord : jm_I := (yX12_chord, cX12_chord, 12, some .int)
def iX12_keeps : jm_I := (yX12_keeps, cX12_keeps, 2, some .int)
def iX12_keepsLaw : jm_I := (yX12_keepsLaw, cX12_keepsLaw, 2, none)
def iX12_keepsTold : jm_I := (yX12_keepsTold, cX12_keepsTold, 2, none)
def iX12_image : jm_I := (yX12_image, cX12_image, 3, some .boolean)
def iX12_look : jm_I := (yX12_look, cX12_look, 2, some .int)
def iJ0_charAt_5068e : jm_I := (yJ0_charAt_5068e, cJ0_charAt_5068e, 2, some .char)
def iJ0_length_8abf5 : jm_I := (yJ0_length_8abf5, cJ0_length_8abf5, 1, some .int)
def iJ13_bitCount_95d88 : jm_I := (yJ13_bitCount_95d88, cJ13_bitCount_95d88, 2, some .int)
def iJ6_bitCount_0f7a4 : jm_I := (yJ6_bitCount_0f7a4, cJ6_bitCount_0f7a4, 1, some .int)
theorem cwX0_motiveOf : jm_cw iX0_motiveOf 2 := ⟨jm_tw (n := 776) (by decide +kernel) rfl, jm_tw (n := 8) (by decide +kernel) rfl, ⟨by decide +kernel, by decide +kernel, by decide +kernel⟩, by decide⟩
theorem vwX0_motiveOf : Cond.instanceMethod iX0_motiveOf.1 ∈ jm_T ∧ Cond.selects iX0_motiveOf.1.cls iX0_motiveOf.1 iX0_motiveOf.1 ∈ jm_T := ⟨jm_tw (n := 774) (by decide +kernel) rfl, jm_tw (n := 775) (by decide +kernel) rfl⟩
theorem cwX0_lowestKey : jm_cw iX0_lowestKey 2 := ⟨jm_tw (n := 790) (by decide +kernel) rfl, jm_tw (n := 8) (by decide +kernel) rfl, ⟨by decide +kernel, by decide +kernel, by decide +kernel⟩, by decide⟩
theorem vwX0_lowestKey : Cond.instanceMethod iX0_lowestKey.1 ∈ jm_T ∧ Cond.selects iX0_lowestKey.1.cls iX0_lowestKey.1 iX0_lowestKey.1 ∈ jm_T := ⟨jm_tw (n := 788) (by decide +kernel) rfl, jm_tw (n := 789) (by decide +kernel) rfl⟩
theorem cwX0_highestKey : jm_cw iX0_highestKey 2 := ⟨jm_tw (n := 806) (by decide +kernel) rfl, jm_tw (n := 8) (by decide +kernel) rfl, ⟨by decide +kernel, by decide +kernel, by decide +kernel⟩, by decide⟩
theorem vwX0_highestKey : Cond.instanceMethod iX0_highestKey.1 ∈ jm_T ∧ Cond.selects iX0_highestKey.1.cls iX0_highestKey.1 iX0_highestKey.1 ∈ jm_T := ⟨jm_tw (n := 804) (by decide +kernel) rfl, jm_tw (n := 805) (by decide +kernel) rfl⟩
theorem cwX0_howManyKeys : jm_cw iX0_howManyKeys 2 := ⟨jm_tw (n := 991) (by decide +kernel) rfl, jm_tw (n := 8) (by decide +kernel) rfl, ⟨by decide +kernel, by decide +kernel, by decide +kernel⟩, by decide⟩
theorem vwX0_howManyKeys : Cond.instanceMethod iX0_howManyKeys.1 ∈ jm_T ∧ Cond.selects iX0_howManyKeys.1.cls iX0_howManyKeys.1 iX0_howManyKeys.1 ∈ jm_T := ⟨jm_tw (n := 989) (by decide +kernel) rfl, jm_tw (n := 990) (by decide +kernel) rfl⟩
theorem cwX0_canSing : jm_cw iX0_canSing 3 := ⟨jm_tw (n := 786) (by decide +kernel) rfl, jm_tw (n := 8) (by decide +kernel) rfl, ⟨by decide +kernel, by decide +kernel, by decide +kernel⟩, by decide⟩
theorem vwX0_canSing : Cond.instanceMethod iX0_canSing.1 ∈ jm_T ∧ Cond.selects iX0_canSing.1.cls iX0_canSing.1 iX0_canSing.1 ∈ jm_T := ⟨jm_tw (n := 784) (by decide +kernel) rfl, jm_tw (n := 785) (by decide +kernel) rfl⟩
theorem cwX0_slipOf : jm_cw iX0_slipOf 4 := ⟨jm_tw (n := 853) (by decide +kernel) rfl, jm_tw (n := 8) (by decide +kernel) rfl, ⟨by decide +kernel, by decide +kernel, by decide +kernel⟩, by decide⟩
theorem vwX0_slipOf : Cond.instanceMethod iX0_slipOf.1 ∈ jm_T ∧ Cond.selects iX0_slipOf.1.cls iX0_slipOf.1 iX0_slipOf.1 ∈ jm_T := ⟨jm_tw (n := 851) (by decide +kernel) rfl, jm_tw (n := 852) (by decide +kernel) rfl⟩
theorem cwX0_shakeOf : jm_cw iX0_shakeOf 2 := ⟨jm_tw (n := 885) (by decide +kernel) rfl, jm_tw (n := 8) (by decide +kernel) rfl, ⟨by decide +kernel, by decide +kernel, by decide +kernel⟩, by decide⟩
theorem vwX0_shakeOf : Cond.instanceMethod iX0_shakeOf.1 ∈ jm_T ∧ Cond.selects iX0_shakeOf.1.cls iX0_shakeOf.1 iX0_shakeOf.1 ∈ jm_T := ⟨jm_tw (n := 883) (by decide +kernel) rfl, jm_tw (n := 884) (by decide +kernel) rfl⟩
theorem cwX0_weightOf : jm_cw iX0_weightOf 3 := ⟨jm_tw (n := 969) (by decide +kernel) rfl, jm_tw (n := 8) (by decide +kernel) rfl, ⟨by decide +kernel, by decide +kernel, by decide +kernel⟩, by decide⟩
theorem vwX0_weightOf : Cond.instanceMethod iX0_weightOf.1 ∈ jm_T ∧ Cond.selects iX0_weightOf.1.cls iX0_weightOf.1 iX0_weightOf.1 ∈ jm_T := ⟨jm_tw (n := 967) (by decide +kernel) rfl, jm_tw (n := 968) (by decide +kernel) rfl⟩
theorem cwX0_weightOfTestimony : jm_cw iX0_weightOfTestimony 1 := ⟨jm_tw (n := 964) (by decide +kernel) rfl, jm_tw (n := 8) (by decide +kernel) rfl, ⟨by decide +kernel, by decide +kernel, by decide +kernel⟩, by decide⟩
theorem vwX0_weightOfTestimony : Cond.instanceMethod iX0_weightOfTestimony.1 ∈ jm_T ∧ Cond.selects iX0_weightOfTestimony.1.cls iX0_weightOfTestimony.1 iX0_weightOfTestimony.1 ∈ jm_T := ⟨jm_tw (n := 962) (by decide +kernel) rfl, jm_tw (n := 963) (by decide +kernel) rfl⟩
theorem cwX0_setTerms : jm_cw iX0_setTerms 2 := ⟨jm_tw (n := 857) (by decide +kernel) rfl, jm_tw (n := 8) (by decide +kernel) rfl, ⟨by decide +kernel, by decide +kernel, by decide +kernel⟩, by decide⟩
theorem vwX0_setTerms : Cond.instanceMethod iX0_setTerms.1 ∈ jm_T ∧ Cond.selects iX0_setTerms.1.cls iX0_setTerms.1 iX0_setTerms.1 ∈ jm_T := ⟨jm_tw (n := 856) (by decide +kernel) rfl, jm_tp (n := 28) (q := (yX0_setTerms, _)) (by rfl)⟩
theorem cwX1_copyFrom : jm_cw iX1_copyFrom 1 := ⟨jm_tw (n := 827) (by decide +kernel) rfl, jm_tw (n := 7) (by decide +kernel) rfl, ⟨by decide +kernel, by decide +kernel, by decide +kernel⟩, by decide⟩
theorem vwX1_copyFrom : Cond.instanceMethod iX1_copyFrom.1 ∈ jm_T ∧ Cond.selects iX1_copyFrom.1.cls iX1_copyFrom.1 iX1_copyFrom.1 ∈ jm_T := ⟨jm_tw (n := 825) (by decide +kernel) rfl, jm_tw (n := 826) (by decide +kernel) rfl⟩
theorem cwX1_draw : jm_cw iX1_draw 1 := ⟨jm_tw (n := 847) (by decide +kernel) rfl, jm_tw (n := 7) (by decide +kernel) rfl, ⟨by decide +kernel, by decide +kernel, by decide +kernel⟩, by decide⟩
theorem vwX1_draw : Cond.instanceMethod iX1_draw.1 ∈ jm_T ∧ Cond.selects iX1_draw.1.cls iX1_draw.1 iX1_draw.1 ∈ jm_T := ⟨jm_tw (n := 845) (by decide +kernel) rfl, jm_tw (n := 846) (by decide +kernel) rfl⟩
theorem cwX1_isTestimony : jm_cw iX1_isTestimony 1 := ⟨jm_tw (n := 914) (by decide +kernel) rfl, jm_tw (n := 7) (by decide +kernel) rfl, ⟨by decide +kernel, by decide +kernel, by decide +kernel⟩, by decide⟩
theorem vwX1_isTestimony : Cond.instanceMethod iX1_isTestimony.1 ∈ jm_T ∧ Cond.selects iX1_isTestimony.1.cls iX1_isTestimony.1 iX1_isTestimony.1 ∈ jm_T := ⟨jm_tw (n := 912) (by decide +kernel) rfl, jm_tw (n := 913) (by decide +kernel) rfl⟩
theorem cwX1_ofTestimony : jm_cw iX1_ofTestimony 2 := ⟨jm_tw (n := 865) (by decide +kernel) rfl, jm_tw (n := 7) (by decide +kernel) rfl, ⟨by decide +kernel, by decide +kernel, by decide +kernel⟩, by decide⟩
theorem vwX1_ofTestimony : Cond.instanceMethod iX1_ofTestimony.1 ∈ jm_T ∧ Cond.selects iX1_ofTestimony.1.cls iX1_ofTestimony.1 iX1_ofTestimony.1 ∈ jm_T := ⟨jm_tw (n := 863) (by decide +kernel) rfl, jm_tw (n := 864) (by decide +kernel) rfl⟩
theorem cwX1_hasRoom : jm_cw iX1_hasRoom 1 := ⟨jm_tw (n := 819) (by decide +kernel) rfl, jm_tw (n := 7) (by decide +kernel) rfl, ⟨by decide +kernel, by decide +kernel, by decide +kernel⟩, by decide⟩
theorem vwX1_hasRoom : Cond.instanceMethod iX1_hasRoom.1 ∈ jm_T ∧ Cond.selects iX1_hasRoom.1.cls iX1_hasRoom.1 iX1_hasRoom.1 ∈ jm_T := ⟨jm_tw (n := 817) (by decide +kernel) rfl, jm_tw (n := 818) (by decide +kernel) rfl⟩
theorem cwX1_addBar : jm_cw iX1_addBar 1 := ⟨jm_tw (n := 843) (by decide +kernel) rfl, jm_tw (n := 7) (by decide +kernel) rfl, ⟨by decide +kernel, by decide +kernel, by decide +kernel⟩, by decide⟩
theorem vwX1_addBar : Cond.instanceMethod iX1_addBar.1 ∈ jm_T ∧ Cond.selects iX1_addBar.1.cls iX1_addBar.1 iX1_addBar.1 ∈ jm_T := ⟨jm_tw (n := 841) (by decide +kernel) rfl, jm_tw (n := 842) (by decide +kernel) rfl⟩
theorem cwX1_addTestimony : jm_cw iX1_addTestimony 4 := ⟨jm_tw (n := 894) (by decide +kernel) rfl, jm_tw (n := 7) (by decide +kernel) rfl, ⟨by decide +kernel, by decide +kernel, by decide +kernel⟩, by decide⟩
theorem vwX1_addTestimony : Cond.instanceMethod iX1_addTestimony.1 ∈ jm_T ∧ Cond.selects iX1_addTestimony.1.cls iX1_addTestimony.1 iX1_addTestimony.1 ∈ jm_T := ⟨jm_tw (n := 892) (by decide +kernel) rfl, jm_tw (n := 893) (by decide +kernel) rfl⟩
theorem cwX1_barOf : jm_cw iX1_barOf 2 := ⟨jm_tw (n := 1046) (by decide +kernel) rfl, jm_tw (n := 7) (by decide +kernel) rfl, ⟨by decide +kernel, by decide +kernel, by decide +kernel⟩, by decide⟩
theorem vwX1_barOf : Cond.instanceMethod iX1_barOf.1 ∈ jm_T ∧ Cond.selects iX1_barOf.1.cls iX1_barOf.1 iX1_barOf.1 ∈ jm_T := ⟨jm_tw (n := 1044) (by decide +kernel) rfl, jm_tw (n := 1045) (by decide +kernel) rfl⟩
theorem cwX1_sungBy : jm_cw iX1_sungBy 1 := ⟨jm_tw (n := 861) (by decide +kernel) rfl, jm_tw (n := 7) (by decide +kernel) rfl, ⟨by decide +kernel, by decide +kernel, by decide +kernel⟩, by decide⟩
theorem vwX1_sungBy : Cond.instanceMethod iX1_sungBy.1 ∈ jm_T ∧ Cond.selects iX1_sungBy.1.cls iX1_sungBy.1 iX1_sungBy.1 ∈ jm_T := ⟨jm_tw (n := 859) (by decide +kernel) rfl, jm_tw (n := 860) (by decide +kernel) rfl⟩
theorem cwX1_howManyHoarse : jm_cw iX1_howManyHoarse 1 := ⟨jm_tw (n := 933) (by decide +kernel) rfl, jm_tw (n := 7) (by decide +kernel) rfl, ⟨by decide +kernel, by decide +kernel, by decide +kernel⟩, by decide⟩
theorem vwX1_howManyHoarse : Cond.instanceMethod iX1_howManyHoarse.1 ∈ jm_T ∧ Cond.selects iX1_howManyHoarse.1.cls iX1_howManyHoarse.1 iX1_howManyHoarse.1 ∈ jm_T := ⟨jm_tw (n := 931) (by decide +kernel) rfl, jm_tw (n := 932) (by decide +kernel) rfl⟩
theorem cwX1_strikeOut : jm_cw iX1_strikeOut 1 := ⟨jm_tw (n := 919) (by decide +kernel) rfl, jm_tw (n := 7) (by decide +kernel) rfl, ⟨by decide +kernel, by decide +kernel, by decide +kernel⟩, by decide⟩
theorem vwX1_strikeOut : Cond.instanceMethod iX1_strikeOut.1 ∈ jm_T ∧ Cond.selects iX1_strikeOut.1.cls iX1_strikeOut.1 iX1_strikeOut.1 ∈ jm_T := ⟨jm_tw (n := 917) (by decide +kernel) rfl, jm_tw (n := 918) (by decide +kernel) rfl⟩
theorem cwX1_write : jm_cw iX1_write 4 := ⟨jm_tw (n := 898) (by decide +kernel) rfl, jm_tw (n := 7) (by decide +kernel) rfl, ⟨by decide +kernel, by decide +kernel, by decide +kernel⟩, by decide⟩
theorem vwX1_write : Cond.instanceMethod iX1_write.1 ∈ jm_T ∧ Cond.selects iX1_write.1.cls iX1_write.1 iX1_write.1 ∈ jm_T := ⟨jm_tw (n := 896) (by decide +kernel) rfl, jm_tw (n := 897) (by decide +kernel) rfl⟩
theorem cwX2_canBeCalled : jm_cw iX2_canBeCalled 3 := ⟨jm_tw (n := 772) (by decide +kernel) rfl, jm_tw (n := 9) (by decide +kernel) rfl, ⟨by decide +kernel, by decide +kernel, by decide +kernel⟩, by decide⟩
theorem vwX2_canBeCalled : Cond.instanceMethod iX2_canBeCalled.1 ∈ jm_T ∧ Cond.selects iX2_canBeCalled.1.cls iX2_canBeCalled.1 iX2_canBeCalled.1 ∈ jm_T := ⟨jm_tw (n := 770) (by decide +kernel) rfl, jm_tw (n := 771) (by decide +kernel) rfl⟩
theorem cwX2_barsOf : jm_cw iX2_barsOf 2 := ⟨jm_tw (n := 815) (by decide +kernel) rfl, jm_tw (n := 9) (by decide +kernel) rfl, ⟨by decide +kernel, by decide +kernel, by decide +kernel⟩, by decide⟩
theorem vwX2_barsOf : Cond.instanceMethod iX2_barsOf.1 ∈ jm_T ∧ Cond.selects iX2_barsOf.1.cls iX2_barsOf.1 iX2_barsOf.1 ∈ jm_T := ⟨jm_tw (n := 814) (by decide +kernel) rfl, jm_tp (n := 25) (q := (yX2_barsOf, _)) (by rfl)⟩
theorem cwX2_sing : jm_cw iX2_sing 3 := ⟨jm_tw (n := 835) (by decide +kernel) rfl, jm_tw (n := 9) (by decide +kernel) rfl, ⟨by decide +kernel, by decide +kernel, by decide +kernel⟩, by decide⟩
theorem vwX2_sing : Cond.instanceMethod iX2_sing.1 ∈ jm_T ∧ Cond.selects iX2_sing.1.cls iX2_sing.1 iX2_sing.1 ∈ jm_T := ⟨jm_tw (n := 833) (by decide +kernel) rfl, jm_tw (n := 834) (by decide +kernel) rfl⟩
theorem cwX2_singNotes : jm_cw iX2_singNotes 3 := ⟨jm_tw (n := 839) (by decide +kernel) rfl, jm_tw (n := 9) (by decide +kernel) rfl, ⟨by decide +kernel, by decide +kernel, by decide +kernel⟩, by decide⟩
theorem vwX2_singNotes : Cond.instanceMethod iX2_singNotes.1 ∈ jm_T ∧ Cond.selects iX2_singNotes.1.cls iX2_singNotes.1 iX2_singNotes.1 ∈ jm_T := ⟨jm_tw (n := 838) (by decide +kernel) rfl, jm_tp (n := 27) (q := (yX2_singNotes, _)) (by rfl)⟩
theorem cwX2_crossExamine : jm_cw iX2_crossExamine 1 := ⟨jm_tw (n := 906) (by decide +kernel) rfl, jm_tw (n := 9) (by decide +kernel) rfl, ⟨by decide +kernel, by decide +kernel, by decide +kernel⟩, by decide⟩
theorem vwX2_crossExamine : Cond.instanceMethod iX2_crossExamine.1 ∈ jm_T ∧ Cond.selects iX2_crossExamine.1.cls iX2_crossExamine.1 iX2_crossExamine.1 ∈ jm_T := ⟨jm_tw (n := 904) (by decide +kernel) rfl, jm_tw (n := 905) (by decide +kernel) rfl⟩
theorem cwX2_loseNerve : jm_cw iX2_loseNerve 2 := ⟨jm_tw (n := 889) (by decide +kernel) rfl, jm_tw (n := 9) (by decide +kernel) rfl, ⟨by decide +kernel, by decide +kernel, by decide +kernel⟩, by decide⟩
theorem vwX2_loseNerve : Cond.instanceMethod iX2_loseNerve.1 ∈ jm_T ∧ Cond.selects iX2_loseNerve.1.cls iX2_loseNerve.1 iX2_loseNerve.1 ∈ jm_T := ⟨jm_tw (n := 888) (by decide +kernel) rfl, jm_tp (n := 30) (q := (yX2_loseNerve, _)) (by rfl)⟩
theorem cwX2_restOneDay : jm_cw iX2_restOneDay 0 := ⟨jm_tw (n := 928) (by decide +kernel) rfl, jm_tw (n := 9) (by decide +kernel) rfl, ⟨by decide +kernel, by decide +kernel, by decide +kernel⟩, by decide⟩
theorem vwX2_restOneDay : Cond.instanceMethod iX2_restOneDay.1 ∈ jm_T ∧ Cond.selects iX2_restOneDay.1.cls iX2_restOneDay.1 iX2_restOneDay.1 ∈ jm_T := ⟨jm_tw (n := 926) (by decide +kernel) rfl, jm_tw (n := 927) (by decide +kernel) rfl⟩
theorem cwX2_goThrough : jm_cw iX2_goThrough 1 := ⟨jm_tw (n := 945) (by decide +kernel) rfl, jm_tw (n := 9) (by decide +kernel) rfl, ⟨by decide +kernel, by decide +kernel, by decide +kernel⟩, by decide⟩
theorem vwX2_goThrough : Cond.instanceMethod iX2_goThrough.1 ∈ jm_T ∧ Cond.selects iX2_goThrough.1.cls iX2_goThrough.1 iX2_goThrough.1 ∈ jm_T := ⟨jm_tw (n := 943) (by decide +kernel) rfl, jm_tw (n := 944) (by decide +kernel) rfl⟩
theorem cwX3_copyFrom : jm_cw iX3_copyFrom 1 := ⟨jm_tw (n := 706) (by decide +kernel) rfl, jm_tw (n := 5) (by decide +kernel) rfl, ⟨by decide +kernel, by decide +kernel, by decide +kernel⟩, by decide⟩
theorem vwX3_copyFrom : Cond.instanceMethod iX3_copyFrom.1 ∈ jm_T ∧ Cond.selects iX3_copyFrom.1.cls iX3_copyFrom.1 iX3_copyFrom.1 ∈ jm_T := ⟨jm_tw (n := 704) (by decide +kernel) rfl, jm_tw (n := 705) (by decide +kernel) rfl⟩
theorem cwX3_clear : jm_cw iX3_clear 0 := ⟨jm_tw (n := 652) (by decide +kernel) rfl, jm_tw (n := 5) (by decide +kernel) rfl, ⟨by decide +kernel, by decide +kernel, by decide +kernel⟩, by decide⟩
theorem vwX3_clear : Cond.instanceMethod iX3_clear.1 ∈ jm_T ∧ Cond.selects iX3_clear.1.cls iX3_clear.1 iX3_clear.1 ∈ jm_T := ⟨jm_tw (n := 650) (by decide +kernel) rfl, jm_tw (n := 651) (by decide +kernel) rfl⟩
theorem cwX3_addOrder : jm_cw iX3_addOrder 2 := ⟨jm_tw (n := 677) (by decide +kernel) rfl, jm_tw (n := 5) (by decide +kernel) rfl, ⟨by decide +kernel, by decide +kernel, by decide +kernel⟩, by decide⟩
theorem vwX3_addOrder : Cond.instanceMethod iX3_addOrder.1 ∈ jm_T ∧ Cond.selects iX3_addOrder.1.cls iX3_addOrder.1 iX3_addOrder.1 ∈ jm_T := ⟨jm_tw (n := 675) (by decide +kernel) rfl, jm_tw (n := 676) (by decide +kernel) rfl⟩
theorem cwX3_openLine : jm_cw iX3_openLine 1 := ⟨jm_tw (n := 660) (by decide +kernel) rfl, jm_tw (n := 5) (by decide +kernel) rfl, ⟨by decide +kernel, by decide +kernel, by decide +kernel⟩, by decide⟩
theorem vwX3_openLine : Cond.instanceMethod iX3_openLine.1 ∈ jm_T ∧ Cond.selects iX3_openLine.1.cls iX3_openLine.1 iX3_openLine.1 ∈ jm_T := ⟨jm_tw (n := 658) (by decide +kernel) rfl, jm_tw (n := 659) (by decide +kernel) rfl⟩
theorem cwX3_openCondition : jm_cw iX3_openCondition 0 := ⟨jm_tw (n := 682) (by decide +kernel) rfl, jm_tw (n := 5) (by decide +kernel) rfl, ⟨by decide +kernel, by decide +kernel, by decide +kernel⟩, by decide⟩
theorem vwX3_openCondition : Cond.instanceMethod iX3_openCondition.1 ∈ jm_T ∧ Cond.selects iX3_openCondition.1.cls iX3_openCondition.1 iX3_openCondition.1 ∈ jm_T := ⟨jm_tw (n := 680) (by decide +kernel) rfl, jm_tw (n := 681) (by decide +kernel) rfl⟩
theorem cwX3_closeLine : jm_cw iX3_closeLine 0 := ⟨jm_tw (n := 698) (by decide +kernel) rfl, jm_tw (n := 5) (by decide +kernel) rfl, ⟨by decide +kernel, by decide +kernel, by decide +kernel⟩, by decide⟩
theorem vwX3_closeLine : Cond.instanceMethod iX3_closeLine.1 ∈ jm_T ∧ Cond.selects iX3_closeLine.1.cls iX3_closeLine.1 iX3_closeLine.1 ∈ jm_T := ⟨jm_tw (n := 696) (by decide +kernel) rfl, jm_tw (n := 697) (by decide +kernel) rfl⟩
theorem cwX3_tell : jm_cw iX3_tell 3 := ⟨jm_tw (n := 869) (by decide +kernel) rfl, jm_tw (n := 5) (by decide +kernel) rfl, ⟨by decide +kernel, by decide +kernel, by decide +kernel⟩, by decide⟩
theorem vwX3_tell : Cond.instanceMethod iX3_tell.1 ∈ jm_T ∧ Cond.selects iX3_tell.1.cls iX3_tell.1 iX3_tell.1 ∈ jm_T := ⟨jm_tw (n := 867) (by decide +kernel) rfl, jm_tw (n := 868) (by decide +kernel) rfl⟩
theorem cwX3_worth : jm_cw iX3_worth 3 := ⟨jm_tw (n := 873) (by decide +kernel) rfl, jm_tw (n := 5) (by decide +kernel) rfl, ⟨by decide +kernel, by decide +kernel, by decide +kernel⟩, by decide⟩
theorem vwX3_worth : Cond.instanceMethod iX3_worth.1 ∈ jm_T ∧ Cond.selects iX3_worth.1.cls iX3_worth.1 iX3_worth.1 ∈ jm_T := ⟨jm_tw (n := 872) (by decide +kernel) rfl, jm_tp (n := 29) (q := (yX3_worth, _)) (by rfl)⟩
theorem cwX3_joined : jm_cw iX3_joined 3 := ⟨jm_tw (n := 876) (by decide +kernel) rfl, jm_tw (n := 5) (by decide +kernel) rfl, ⟨by decide +kernel, by decide +kernel, by decide +kernel⟩, by decide⟩
theorem vwX3_joined : Cond.static iX3_joined.1 ∈ jm_T := jm_tw (n := 875) (by decide +kernel) rfl
theorem cwX4_readLines : jm_cw iX4_readLines 0 := ⟨jm_tw (n := 648) (by decide +kernel) rfl, jm_tw (n := 12) (by decide +kernel) rfl, ⟨by decide +kernel, by decide +kernel, by decide +kernel⟩, by decide⟩
theorem vwX4_readLines : Cond.instanceMethod iX4_readLines.1 ∈ jm_T ∧ Cond.selects iX4_readLines.1.cls iX4_readLines.1 iX4_readLines.1 ∈ jm_T := ⟨jm_tw (n := 646) (by decide +kernel) rfl, jm_tw (n := 647) (by decide +kernel) rfl⟩
theorem cwX4_readCondition : jm_cw iX4_readCondition 1 := ⟨jm_tw (n := 686) (by decide +kernel) rfl, jm_tw (n := 12) (by decide +kernel) rfl, ⟨by decide +kernel, by decide +kernel, by decide +kernel⟩, by decide⟩
theorem vwX4_readCondition : Cond.instanceMethod iX4_readCondition.1 ∈ jm_T ∧ Cond.selects iX4_readCondition.1.cls iX4_readCondition.1 iX4_readCondition.1 ∈ jm_T := ⟨jm_tw (n := 685) (by decide +kernel) rfl, jm_tp (n := 13) (q := (yX4_readCondition, _)) (by rfl)⟩
theorem cwX4_readTest : jm_cw iX4_readTest 1 := ⟨jm_tw (n := 690) (by decide +kernel) rfl, jm_tw (n := 12) (by decide +kernel) rfl, ⟨by decide +kernel, by decide +kernel, by decide +kernel⟩, by decide⟩
theorem vwX4_readTest : Cond.instanceMethod iX4_readTest.1 ∈ jm_T ∧ Cond.selects iX4_readTest.1.cls iX4_readTest.1 iX4_readTest.1 ∈ jm_T := ⟨jm_tw (n := 689) (by decide +kernel) rfl, jm_tp (n := 14) (q := (yX4_readTest, _)) (by rfl)⟩
theorem cwX4_comparisonOf : jm_cw iX4_comparisonOf 1 := ⟨jm_tw (n := 694) (by decide +kernel) rfl, jm_tw (n := 12) (by decide +kernel) rfl, ⟨by decide +kernel, by decide +kernel, by decide +kernel⟩, by decide⟩
theorem vwX4_comparisonOf : Cond.static iX4_comparisonOf.1 ∈ jm_T := jm_tw (n := 693) (by decide +kernel) rfl
theorem cwX4_readSum : jm_cw iX4_readSum 0 := ⟨jm_tw (n := 664) (by decide +kernel) rfl, jm_tw (n := 12) (by decide +kernel) rfl, ⟨by decide +kernel, by decide +kernel, by decide +kernel⟩, by decide⟩
theorem vwX4_readSum : Cond.instanceMethod iX4_readSum.1 ∈ jm_T ∧ Cond.selects iX4_readSum.1.cls iX4_readSum.1 iX4_readSum.1 ∈ jm_T := ⟨jm_tw (n := 663) (by decide +kernel) rfl, jm_tp (n := 10) (q := (yX4_readSum, _)) (by rfl)⟩
theorem cwX4_readProduct : jm_cw iX4_readProduct 0 := ⟨jm_tw (n := 668) (by decide +kernel) rfl, jm_tw (n := 12) (by decide +kernel) rfl, ⟨by decide +kernel, by decide +kernel, by decide +kernel⟩, by decide⟩
theorem vwX4_readProduct : Cond.instanceMethod iX4_readProduct.1 ∈ jm_T ∧ Cond.selects iX4_readProduct.1.cls iX4_readProduct.1 iX4_readProduct.1 ∈ jm_T := ⟨jm_tw (n := 667) (by decide +kernel) rfl, jm_tp (n := 11) (q := (yX4_readProduct, _)) (by rfl)⟩
theorem cwX4_readUnit : jm_cw iX4_readUnit 0 := ⟨jm_tw (n := 672) (by decide +kernel) rfl, jm_tw (n := 12) (by decide +kernel) rfl, ⟨by decide +kernel, by decide +kernel, by decide +kernel⟩, by decide⟩
theorem vwX4_readUnit : Cond.instanceMethod iX4_readUnit.1 ∈ jm_T ∧ Cond.selects iX4_readUnit.1.cls iX4_readUnit.1 iX4_readUnit.1 ∈ jm_T := ⟨jm_tw (n := 671) (by decide +kernel) rfl, jm_tp (n := 12) (q := (yX4_readUnit, _)) (by rfl)⟩
theorem cwX5_copyFrom : jm_cw iX5_copyFrom 1 := ⟨jm_tw (n := 641) (by decide +kernel) rfl, jm_tw (n := 4) (by decide +kernel) rfl, ⟨by decide +kernel, by decide +kernel, by decide +kernel⟩, by decide⟩
theorem vwX5_copyFrom : Cond.instanceMethod iX5_copyFrom.1 ∈ jm_T ∧ Cond.selects iX5_copyFrom.1.cls iX5_copyFrom.1 iX5_copyFrom.1 ∈ jm_T := ⟨jm_tw (n := 639) (by decide +kernel) rfl, jm_tw (n := 640) (by decide +kernel) rfl⟩
theorem cwX5_stepOf : jm_cw iX5_stepOf 2 := ⟨jm_tw (n := 798) (by decide +kernel) rfl, jm_tw (n := 4) (by decide +kernel) rfl, ⟨by decide +kernel, by decide +kernel, by decide +kernel⟩, by decide⟩
theorem vwX5_stepOf : Cond.instanceMethod iX5_stepOf.1 ∈ jm_T ∧ Cond.selects iX5_stepOf.1.cls iX5_stepOf.1 iX5_stepOf.1 ∈ jm_T := ⟨jm_tw (n := 796) (by decide +kernel) rfl, jm_tw (n := 797) (by decide +kernel) rfl⟩
theorem cwX5_rise : jm_cw iX5_rise 1 := ⟨jm_tw (n := 810) (by decide +kernel) rfl, jm_tw (n := 4) (by decide +kernel) rfl, ⟨by decide +kernel, by decide +kernel, by decide +kernel⟩, by decide⟩
theorem vwX5_rise : Cond.instanceMethod iX5_rise.1 ∈ jm_T ∧ Cond.selects iX5_rise.1.cls iX5_rise.1 iX5_rise.1 ∈ jm_T := ⟨jm_tw (n := 808) (by decide +kernel) rfl, jm_tw (n := 809) (by decide +kernel) rfl⟩
theorem cwX5_fall : jm_cw iX5_fall 1 := ⟨jm_tw (n := 794) (by decide +kernel) rfl, jm_tw (n := 4) (by decide +kernel) rfl, ⟨by decide +kernel, by decide +kernel, by decide +kernel⟩, by decide⟩
theorem vwX5_fall : Cond.instanceMethod iX5_fall.1 ∈ jm_T ∧ Cond.selects iX5_fall.1.cls iX5_fall.1 iX5_fall.1 ∈ jm_T := ⟨jm_tw (n := 792) (by decide +kernel) rfl, jm_tw (n := 793) (by decide +kernel) rfl⟩
theorem cwX5_readFrom : jm_cw iX5_readFrom 1 := ⟨jm_tw (n := 595) (by decide +kernel) rfl, jm_tw (n := 4) (by decide +kernel) rfl, ⟨by decide +kernel, by decide +kernel, by decide +kernel⟩, by decide⟩
theorem vwX5_readFrom : Cond.instanceMethod iX5_readFrom.1 ∈ jm_T ∧ Cond.selects iX5_readFrom.1.cls iX5_readFrom.1 iX5_readFrom.1 ∈ jm_T := ⟨jm_tw (n := 593) (by decide +kernel) rfl, jm_tw (n := 594) (by decide +kernel) rfl⟩
theorem cwX5_readLine : jm_cw iX5_readLine 1 := ⟨jm_tw (n := 603) (by decide +kernel) rfl, jm_tw (n := 4) (by decide +kernel) rfl, ⟨by decide +kernel, by decide +kernel, by decide +kernel⟩, by decide⟩
theorem vwX5_readLine : Cond.instanceMethod iX5_readLine.1 ∈ jm_T ∧ Cond.selects iX5_readLine.1.cls iX5_readLine.1 iX5_readLine.1 ∈ jm_T := ⟨jm_tw (n := 602) (by decide +kernel) rfl, jm_tp (n := 7) (q := (yX5_readLine, _)) (by rfl)⟩
theorem cwX5_readSteps : jm_cw iX5_readSteps 2 := ⟨jm_tw (n := 630) (by decide +kernel) rfl, jm_tw (n := 4) (by decide +kernel) rfl, ⟨by decide +kernel, by decide +kernel, by decide +kernel⟩, by decide⟩
theorem vwX5_readSteps : Cond.instanceMethod iX5_readSteps.1 ∈ jm_T ∧ Cond.selects iX5_readSteps.1.cls iX5_readSteps.1 iX5_readSteps.1 ∈ jm_T := ⟨jm_tw (n := 629) (by decide +kernel) rfl, jm_tp (n := 8) (q := (yX5_readSteps, _)) (by rfl)⟩
theorem cwX5_readStep : jm_cw iX5_readStep 2 := ⟨jm_tw (n := 633) (by decide +kernel) rfl, jm_tw (n := 4) (by decide +kernel) rfl, ⟨by decide +kernel, by decide +kernel, by decide +kernel⟩, by decide⟩
theorem vwX5_readStep : Cond.static iX5_readStep.1 ∈ jm_T := jm_tw (n := 632) (by decide +kernel) rfl
theorem cwX6_copyFrom : jm_cw iX6_copyFrom 1 := ⟨jm_tw (n := 758) (by decide +kernel) rfl, jm_tw (n := 6) (by decide +kernel) rfl, ⟨by decide +kernel, by decide +kernel, by decide +kernel⟩, by decide⟩
theorem vwX6_copyFrom : Cond.instanceMethod iX6_copyFrom.1 ∈ jm_T ∧ Cond.selects iX6_copyFrom.1.cls iX6_copyFrom.1 iX6_copyFrom.1 ∈ jm_T := ⟨jm_tw (n := 756) (by decide +kernel) rfl, jm_tw (n := 757) (by decide +kernel) rfl⟩
theorem cwX6_rests : jm_cw iX6_rests 0 := ⟨jm_tw (n := 941) (by decide +kernel) rfl, jm_tw (n := 6) (by decide +kernel) rfl, ⟨by decide +kernel, by decide +kernel, by decide +kernel⟩, by decide⟩
theorem vwX6_rests : Cond.instanceMethod iX6_rests.1 ∈ jm_T ∧ Cond.selects iX6_rests.1.cls iX6_rests.1 iX6_rests.1 ∈ jm_T := ⟨jm_tw (n := 939) (by decide +kernel) rfl, jm_tw (n := 940) (by decide +kernel) rfl⟩
theorem cwX6_readFrom : jm_cw iX6_readFrom 2 := ⟨jm_tw (n := 711) (by decide +kernel) rfl, jm_tw (n := 6) (by decide +kernel) rfl, ⟨by decide +kernel, by decide +kernel, by decide +kernel⟩, by decide⟩
theorem vwX6_readFrom : Cond.instanceMethod iX6_readFrom.1 ∈ jm_T ∧ Cond.selects iX6_readFrom.1.cls iX6_readFrom.1 iX6_readFrom.1 ∈ jm_T := ⟨jm_tw (n := 709) (by decide +kernel) rfl, jm_tw (n := 710) (by decide +kernel) rfl⟩
theorem cwX6_readEnd : jm_cw iX6_readEnd 1 := ⟨jm_tw (n := 716) (by decide +kernel) rfl, jm_tw (n := 6) (by decide +kernel) rfl, ⟨by decide +kernel, by decide +kernel, by decide +kernel⟩, by decide⟩
theorem vwX6_readEnd : Cond.instanceMethod iX6_readEnd.1 ∈ jm_T ∧ Cond.selects iX6_readEnd.1.cls iX6_readEnd.1 iX6_readEnd.1 ∈ jm_T := ⟨jm_tw (n := 715) (by decide +kernel) rfl, jm_tp (n := 16) (q := (yX6_readEnd, _)) (by rfl)⟩
theorem cwX6_readDeed : jm_cw iX6_readDeed 2 := ⟨jm_tw (n := 721) (by decide +kernel) rfl, jm_tw (n := 6) (by decide +kernel) rfl, ⟨by decide +kernel, by decide +kernel, by decide +kernel⟩, by decide⟩
theorem vwX6_readDeed : Cond.instanceMethod iX6_readDeed.1 ∈ jm_T ∧ Cond.selects iX6_readDeed.1.cls iX6_readDeed.1 iX6_readDeed.1 ∈ jm_T := ⟨jm_tw (n := 720) (by decide +kernel) rfl, jm_tp (n := 17) (q := (yX6_readDeed, _)) (by rfl)⟩
theorem cwX6_readCall : jm_cw iX6_readCall 2 := ⟨jm_tw (n := 725) (by decide +kernel) rfl, jm_tw (n := 6) (by decide +kernel) rfl, ⟨by decide +kernel, by decide +kernel, by decide +kernel⟩, by decide⟩
theorem vwX6_readCall : Cond.instanceMethod iX6_readCall.1 ∈ jm_T ∧ Cond.selects iX6_readCall.1.cls iX6_readCall.1 iX6_readCall.1 ∈ jm_T := ⟨jm_tw (n := 724) (by decide +kernel) rfl, jm_tp (n := 18) (q := (yX6_readCall, _)) (by rfl)⟩
theorem cwX6_readCross : jm_cw iX6_readCross 2 := ⟨jm_tw (n := 737) (by decide +kernel) rfl, jm_tw (n := 6) (by decide +kernel) rfl, ⟨by decide +kernel, by decide +kernel, by decide +kernel⟩, by decide⟩
theorem vwX6_readCross : Cond.instanceMethod iX6_readCross.1 ∈ jm_T ∧ Cond.selects iX6_readCross.1.cls iX6_readCross.1 iX6_readCross.1 ∈ jm_T := ⟨jm_tw (n := 736) (by decide +kernel) rfl, jm_tp (n := 20) (q := (yX6_readCross, _)) (by rfl)⟩
theorem cwX6_readAgain : jm_cw iX6_readAgain 1 := ⟨jm_tw (n := 741) (by decide +kernel) rfl, jm_tw (n := 6) (by decide +kernel) rfl, ⟨by decide +kernel, by decide +kernel, by decide +kernel⟩, by decide⟩
theorem vwX6_readAgain : Cond.instanceMethod iX6_readAgain.1 ∈ jm_T ∧ Cond.selects iX6_readAgain.1.cls iX6_readAgain.1 iX6_readAgain.1 ∈ jm_T := ⟨jm_tw (n := 740) (by decide +kernel) rfl, jm_tp (n := 21) (q := (yX6_readAgain, _)) (by rfl)⟩
theorem cwX6_closeAgain : jm_cw iX6_closeAgain 1 := ⟨jm_tw (n := 745) (by decide +kernel) rfl, jm_tw (n := 6) (by decide +kernel) rfl, ⟨by decide +kernel, by decide +kernel, by decide +kernel⟩, by decide⟩
theorem vwX6_closeAgain : Cond.instanceMethod iX6_closeAgain.1 ∈ jm_T ∧ Cond.selects iX6_closeAgain.1.cls iX6_closeAgain.1 iX6_closeAgain.1 ∈ jm_T := ⟨jm_tw (n := 744) (by decide +kernel) rfl, jm_tp (n := 22) (q := (yX6_closeAgain, _)) (by rfl)⟩
theorem cwX6_copyDeed : jm_cw iX6_copyDeed 2 := ⟨jm_tw (n := 749) (by decide +kernel) rfl, jm_tw (n := 6) (by decide +kernel) rfl, ⟨by decide +kernel, by decide +kernel, by decide +kernel⟩, by decide⟩
theorem vwX6_copyDeed : Cond.instanceMethod iX6_copyDeed.1 ∈ jm_T ∧ Cond.selects iX6_copyDeed.1.cls iX6_copyDeed.1 iX6_copyDeed.1 ∈ jm_T := ⟨jm_tw (n := 748) (by decide +kernel) rfl, jm_tp (n := 23) (q := (yX6_copyDeed, _)) (by rfl)⟩
theorem cwX6_addDeed : jm_cw iX6_addDeed 4 := ⟨jm_tw (n := 733) (by decide +kernel) rfl, jm_tw (n := 6) (by decide +kernel) rfl, ⟨by decide +kernel, by decide +kernel, by decide +kernel⟩, by decide⟩
theorem vwX6_addDeed : Cond.instanceMethod iX6_addDeed.1 ∈ jm_T ∧ Cond.selects iX6_addDeed.1.cls iX6_addDeed.1 iX6_addDeed.1 ∈ jm_T := ⟨jm_tw (n := 732) (by decide +kernel) rfl, jm_tp (n := 19) (q := (yX6_addDeed, _)) (by rfl)⟩
theorem cwX7_hasRoom : jm_cw iX7_hasRoom 1 := ⟨jm_tw (n := 500) (by decide +kernel) rfl, jm_tw (n := 2) (by decide +kernel) rfl, ⟨by decide +kernel, by decide +kernel, by decide +kernel⟩, by decide⟩
theorem vwX7_hasRoom : Cond.instanceMethod iX7_hasRoom.1 ∈ jm_T ∧ Cond.selects iX7_hasRoom.1.cls iX7_hasRoom.1 iX7_hasRoom.1 ∈ jm_T := ⟨jm_tw (n := 498) (by decide +kernel) rfl, jm_tw (n := 499) (by decide +kernel) rfl⟩
theorem cwX7_addNumber : jm_cw iX7_addNumber 1 := ⟨jm_tw (n := 504) (by decide +kernel) rfl, jm_tw (n := 2) (by decide +kernel) rfl, ⟨by decide +kernel, by decide +kernel, by decide +kernel⟩, by decide⟩
theorem vwX7_addNumber : Cond.instanceMethod iX7_addNumber.1 ∈ jm_T ∧ Cond.selects iX7_addNumber.1.cls iX7_addNumber.1 iX7_addNumber.1 ∈ jm_T := ⟨jm_tw (n := 502) (by decide +kernel) rfl, jm_tw (n := 503) (by decide +kernel) rfl⟩
theorem cwX7_clearFault : jm_cw iX7_clearFault 0 := ⟨jm_tw (n := 516) (by decide +kernel) rfl, jm_tw (n := 2) (by decide +kernel) rfl, ⟨by decide +kernel, by decide +kernel, by decide +kernel⟩, by decide⟩
theorem vwX7_clearFault : Cond.instanceMethod iX7_clearFault.1 ∈ jm_T ∧ Cond.selects iX7_clearFault.1.cls iX7_clearFault.1 iX7_clearFault.1 ∈ jm_T := ⟨jm_tw (n := 514) (by decide +kernel) rfl, jm_tw (n := 515) (by decide +kernel) rfl⟩
theorem cwX7_refuse : jm_cw iX7_refuse 1 := ⟨jm_tw (n := 607) (by decide +kernel) rfl, jm_tw (n := 2) (by decide +kernel) rfl, ⟨by decide +kernel, by decide +kernel, by decide +kernel⟩, by decide⟩
theorem vwX7_refuse : Cond.instanceMethod iX7_refuse.1 ∈ jm_T ∧ Cond.selects iX7_refuse.1.cls iX7_refuse.1 iX7_refuse.1 ∈ jm_T := ⟨jm_tw (n := 605) (by decide +kernel) rfl, jm_tw (n := 606) (by decide +kernel) rfl⟩
theorem cwX7_kind : jm_cw iX7_kind 0 := ⟨jm_tw (n := 599) (by decide +kernel) rfl, jm_tw (n := 2) (by decide +kernel) rfl, ⟨by decide +kernel, by decide +kernel, by decide +kernel⟩, by decide⟩
theorem vwX7_kind : Cond.instanceMethod iX7_kind.1 ∈ jm_T ∧ Cond.selects iX7_kind.1.cls iX7_kind.1 iX7_kind.1 ∈ jm_T := ⟨jm_tw (n := 597) (by decide +kernel) rfl, jm_tw (n := 598) (by decide +kernel) rfl⟩
theorem cwX7_skip : jm_cw iX7_skip 0 := ⟨jm_tw (n := 616) (by decide +kernel) rfl, jm_tw (n := 2) (by decide +kernel) rfl, ⟨by decide +kernel, by decide +kernel, by decide +kernel⟩, by decide⟩
theorem vwX7_skip : Cond.instanceMethod iX7_skip.1 ∈ jm_T ∧ Cond.selects iX7_skip.1.cls iX7_skip.1 iX7_skip.1 ∈ jm_T := ⟨jm_tw (n := 614) (by decide +kernel) rfl, jm_tw (n := 615) (by decide +kernel) rfl⟩
theorem cwX7_take : jm_cw iX7_take 1 := ⟨jm_tw (n := 611) (by decide +kernel) rfl, jm_tw (n := 2) (by decide +kernel) rfl, ⟨by decide +kernel, by decide +kernel, by decide +kernel⟩, by decide⟩
theorem vwX7_take : Cond.instanceMethod iX7_take.1 ∈ jm_T ∧ Cond.selects iX7_take.1.cls iX7_take.1 iX7_take.1 ∈ jm_T := ⟨jm_tw (n := 609) (by decide +kernel) rfl, jm_tw (n := 610) (by decide +kernel) rfl⟩
theorem cwX7_isNumberWithin : jm_cw iX7_isNumberWithin 2 := ⟨jm_tw (n := 620) (by decide +kernel) rfl, jm_tw (n := 2) (by decide +kernel) rfl, ⟨by decide +kernel, by decide +kernel, by decide +kernel⟩, by decide⟩
theorem vwX7_isNumberWithin : Cond.instanceMethod iX7_isNumberWithin.1 ∈ jm_T ∧ Cond.selects iX7_isNumberWithin.1.cls iX7_isNumberWithin.1 iX7_isNumberWithin.1 ∈ jm_T := ⟨jm_tw (n := 618) (by decide +kernel) rfl, jm_tw (n := 619) (by decide +kernel) rfl⟩
theorem cwX7_number : jm_cw iX7_number 0 := ⟨jm_tw (n := 624) (by decide +kernel) rfl, jm_tw (n := 2) (by decide +kernel) rfl, ⟨by decide +kernel, by decide +kernel, by decide +kernel⟩, by decide⟩
theorem vwX7_number : Cond.instanceMethod iX7_number.1 ∈ jm_T ∧ Cond.selects iX7_number.1.cls iX7_number.1 iX7_number.1 ∈ jm_T := ⟨jm_tw (n := 622) (by decide +kernel) rfl, jm_tw (n := 623) (by decide +kernel) rfl⟩
theorem cwX7_cutIntoTokens : jm_cw iX7_cutIntoTokens 1 := ⟨jm_tw (n := 520) (by decide +kernel) rfl, jm_tw (n := 2) (by decide +kernel) rfl, ⟨by decide +kernel, by decide +kernel, by decide +kernel⟩, by decide⟩
theorem vwX7_cutIntoTokens : Cond.instanceMethod iX7_cutIntoTokens.1 ∈ jm_T ∧ Cond.selects iX7_cutIntoTokens.1.cls iX7_cutIntoTokens.1 iX7_cutIntoTokens.1 ∈ jm_T := ⟨jm_tw (n := 518) (by decide +kernel) rfl, jm_tw (n := 519) (by decide +kernel) rfl⟩
theorem cwX7_addToken : jm_cw iX7_addToken 1 := ⟨jm_tw (n := 531) (by decide +kernel) rfl, jm_tw (n := 2) (by decide +kernel) rfl, ⟨by decide +kernel, by decide +kernel, by decide +kernel⟩, by decide⟩
theorem vwX7_addToken : Cond.instanceMethod iX7_addToken.1 ∈ jm_T ∧ Cond.selects iX7_addToken.1.cls iX7_addToken.1 iX7_addToken.1 ∈ jm_T := ⟨jm_tw (n := 530) (by decide +kernel) rfl, jm_tp (n := 3) (q := (yX7_addToken, _)) (by rfl)⟩
theorem cwX7_sortOf : jm_cw iX7_sortOf 1 := ⟨jm_tw (n := 526) (by decide +kernel) rfl, jm_tw (n := 2) (by decide +kernel) rfl, ⟨by decide +kernel, by decide +kernel, by decide +kernel⟩, by decide⟩
theorem vwX7_sortOf : Cond.static iX7_sortOf.1 ∈ jm_T := jm_tw (n := 525) (by decide +kernel) rfl
theorem cwX7_kindOf : jm_cw iX7_kindOf 2 := ⟨jm_tw (n := 535) (by decide +kernel) rfl, jm_tw (n := 2) (by decide +kernel) rfl, ⟨by decide +kernel, by decide +kernel, by decide +kernel⟩, by decide⟩
theorem vwX7_kindOf : Cond.instanceMethod iX7_kindOf.1 ∈ jm_T ∧ Cond.selects iX7_kindOf.1.cls iX7_kindOf.1 iX7_kindOf.1 ∈ jm_T := ⟨jm_tw (n := 534) (by decide +kernel) rfl, jm_tp (n := 4) (q := (yX7_kindOf, _)) (by rfl)⟩
theorem cwX7_wordOf : jm_cw iX7_wordOf 2 := ⟨jm_tw (n := 539) (by decide +kernel) rfl, jm_tw (n := 2) (by decide +kernel) rfl, ⟨by decide +kernel, by decide +kernel, by decide +kernel⟩, by decide⟩
theorem vwX7_wordOf : Cond.instanceMethod iX7_wordOf.1 ∈ jm_T ∧ Cond.selects iX7_wordOf.1.cls iX7_wordOf.1 iX7_wordOf.1 ∈ jm_T := ⟨jm_tw (n := 538) (by decide +kernel) rfl, jm_tp (n := 5) (q := (yX7_wordOf, _)) (by rfl)⟩
theorem cwX7_isSpelled : jm_cw iX7_isSpelled 4 := ⟨jm_tw (n := 591) (by decide +kernel) rfl, jm_tw (n := 2) (by decide +kernel) rfl, ⟨by decide +kernel, by decide +kernel, by decide +kernel⟩, by decide⟩
theorem vwX7_isSpelled : Cond.instanceMethod iX7_isSpelled.1 ∈ jm_T ∧ Cond.selects iX7_isSpelled.1.cls iX7_isSpelled.1 iX7_isSpelled.1 ∈ jm_T := ⟨jm_tw (n := 590) (by decide +kernel) rfl, jm_tp (n := 6) (q := (yX7_isSpelled, _)) (by rfl)⟩
theorem cwX8_copyFrom : jm_cw iX8_copyFrom 1 := ⟨jm_tw (n := 1229) (by decide +kernel) rfl, jm_tw (n := 3) (by decide +kernel) rfl, ⟨by decide +kernel, by decide +kernel, by decide +kernel⟩, by decide⟩
theorem vwX8_copyFrom : Cond.instanceMethod iX8_copyFrom.1 ∈ jm_T ∧ Cond.selects iX8_copyFrom.1.cls iX8_copyFrom.1 iX8_copyFrom.1 ∈ jm_T := ⟨jm_tw (n := 1227) (by decide +kernel) rfl, jm_tw (n := 1228) (by decide +kernel) rfl⟩
theorem cwX8_isWitness : jm_cw iX8_isWitness 1 := ⟨jm_tw (n := 477) (by decide +kernel) rfl, jm_tw (n := 3) (by decide +kernel) rfl, ⟨by decide +kernel, by decide +kernel, by decide +kernel⟩, by decide⟩
theorem vwX8_isWitness : Cond.instanceMethod iX8_isWitness.1 ∈ jm_T ∧ Cond.selects iX8_isWitness.1.cls iX8_isWitness.1 iX8_isWitness.1 ∈ jm_T := ⟨jm_tw (n := 475) (by decide +kernel) rfl, jm_tw (n := 476) (by decide +kernel) rfl⟩
theorem cwX8_addWitness : jm_cw iX8_addWitness 3 := ⟨jm_tw (n := 469) (by decide +kernel) rfl, jm_tw (n := 3) (by decide +kernel) rfl, ⟨by decide +kernel, by decide +kernel, by decide +kernel⟩, by decide⟩
theorem vwX8_addWitness : Cond.instanceMethod iX8_addWitness.1 ∈ jm_T ∧ Cond.selects iX8_addWitness.1.cls iX8_addWitness.1 iX8_addWitness.1 ∈ jm_T := ⟨jm_tw (n := 467) (by decide +kernel) rfl, jm_tw (n := 468) (by decide +kernel) rfl⟩
theorem cwX8_claimOf : jm_cw iX8_claimOf 2 := ⟨jm_tw (n := 780) (by decide +kernel) rfl, jm_tw (n := 3) (by decide +kernel) rfl, ⟨by decide +kernel, by decide +kernel, by decide +kernel⟩, by decide⟩
theorem vwX8_claimOf : Cond.instanceMethod iX8_claimOf.1 ∈ jm_T ∧ Cond.selects iX8_claimOf.1.cls iX8_claimOf.1 iX8_claimOf.1 ∈ jm_T := ⟨jm_tw (n := 778) (by decide +kernel) rfl, jm_tw (n := 779) (by decide +kernel) rfl⟩
theorem cwX8_sounds : jm_cw iX8_sounds 2 := ⟨jm_tw (n := 1056) (by decide +kernel) rfl, jm_tw (n := 3) (by decide +kernel) rfl, ⟨by decide +kernel, by decide +kernel, by decide +kernel⟩, by decide⟩
theorem vwX8_sounds : Cond.instanceMethod iX8_sounds.1 ∈ jm_T ∧ Cond.selects iX8_sounds.1.cls iX8_sounds.1 iX8_sounds.1 ∈ jm_T := ⟨jm_tw (n := 1054) (by decide +kernel) rfl, jm_tw (n := 1055) (by decide +kernel) rfl⟩
theorem cwX8_barsSound : jm_cw iX8_barsSound 2 := ⟨jm_tw (n := 1052) (by decide +kernel) rfl, jm_tw (n := 3) (by decide +kernel) rfl, ⟨by decide +kernel, by decide +kernel, by decide +kernel⟩, by decide⟩
theorem vwX8_barsSound : Cond.instanceMethod iX8_barsSound.1 ∈ jm_T ∧ Cond.selects iX8_barsSound.1.cls iX8_barsSound.1 iX8_barsSound.1 ∈ jm_T := ⟨jm_tw (n := 1050) (by decide +kernel) rfl, jm_tw (n := 1051) (by decide +kernel) rfl⟩
theorem cwX9_weightFor : jm_cw iX9_weightFor 2 := ⟨jm_tw (n := 1092) (by decide +kernel) rfl, jm_tw (n := 11) (by decide +kernel) rfl, ⟨by decide +kernel, by decide +kernel, by decide +kernel⟩, by decide⟩
theorem vwX9_weightFor : Cond.instanceMethod iX9_weightFor.1 ∈ jm_T ∧ Cond.selects iX9_weightFor.1.cls iX9_weightFor.1 iX9_weightFor.1 ∈ jm_T := ⟨jm_tw (n := 1090) (by decide +kernel) rfl, jm_tw (n := 1091) (by decide +kernel) rfl⟩
theorem cwX9_weighAll : jm_cw iX9_weighAll 1 := ⟨jm_tw (n := 1096) (by decide +kernel) rfl, jm_tw (n := 11) (by decide +kernel) rfl, ⟨by decide +kernel, by decide +kernel, by decide +kernel⟩, by decide⟩
theorem vwX9_weighAll : Cond.instanceMethod iX9_weighAll.1 ∈ jm_T ∧ Cond.selects iX9_weighAll.1.cls iX9_weighAll.1 iX9_weighAll.1 ∈ jm_T := ⟨jm_tw (n := 1095) (by decide +kernel) rfl, jm_tp (n := 35) (q := (yX9_weighAll, _)) (by rfl)⟩
theorem cwX9_finding : jm_cw iX9_finding 1 := ⟨jm_tw (n := 1106) (by decide +kernel) rfl, jm_tw (n := 11) (by decide +kernel) rfl, ⟨by decide +kernel, by decide +kernel, by decide +kernel⟩, by decide⟩
theorem vwX9_finding : Cond.instanceMethod iX9_finding.1 ∈ jm_T ∧ Cond.selects iX9_finding.1.cls iX9_finding.1 iX9_finding.1 ∈ jm_T := ⟨jm_tw (n := 1104) (by decide +kernel) rfl, jm_tw (n := 1105) (by decide +kernel) rfl⟩
theorem cwX9_missingFor : jm_cw iX9_missingFor 1 := ⟨jm_tw (n := 1110) (by decide +kernel) rfl, jm_tw (n := 11) (by decide +kernel) rfl, ⟨by decide +kernel, by decide +kernel, by decide +kernel⟩, by decide⟩
theorem vwX9_missingFor : Cond.instanceMethod iX9_missingFor.1 ∈ jm_T ∧ Cond.selects iX9_missingFor.1.cls iX9_missingFor.1 iX9_missingFor.1 ∈ jm_T := ⟨jm_tw (n := 1109) (by decide +kernel) rfl, jm_tp (n := 36) (q := (yX9_missingFor, _)) (by rfl)⟩
theorem cwX9_fewestCallers : jm_cw iX9_fewestCallers 2 := ⟨jm_tw (n := 1119) (by decide +kernel) rfl, jm_tw (n := 11) (by decide +kernel) rfl, ⟨by decide +kernel, by decide +kernel, by decide +kernel⟩, by decide⟩
theorem vwX9_fewestCallers : Cond.instanceMethod iX9_fewestCallers.1 ∈ jm_T ∧ Cond.selects iX9_fewestCallers.1.cls iX9_fewestCallers.1 iX9_fewestCallers.1 ∈ jm_T := ⟨jm_tw (n := 1117) (by decide +kernel) rfl, jm_tw (n := 1118) (by decide +kernel) rfl⟩
theorem cwX9_callable : jm_cw iX9_callable 2 := ⟨jm_tw (n := 1123) (by decide +kernel) rfl, jm_tw (n := 11) (by decide +kernel) rfl, ⟨by decide +kernel, by decide +kernel, by decide +kernel⟩, by decide⟩
theorem vwX9_callable : Cond.instanceMethod iX9_callable.1 ∈ jm_T ∧ Cond.selects iX9_callable.1.cls iX9_callable.1 iX9_callable.1 ∈ jm_T := ⟨jm_tw (n := 1122) (by decide +kernel) rfl, jm_tp (n := 37) (q := (yX9_callable, _)) (by rfl)⟩
theorem cwX9_sumOf : jm_cw iX9_sumOf 1 := ⟨jm_tw (n := 1136) (by decide +kernel) rfl, jm_tw (n := 11) (by decide +kernel) rfl, ⟨by decide +kernel, by decide +kernel, by decide +kernel⟩, by decide⟩
theorem vwX9_sumOf : Cond.instanceMethod iX9_sumOf.1 ∈ jm_T ∧ Cond.selects iX9_sumOf.1.cls iX9_sumOf.1 iX9_sumOf.1 ∈ jm_T := ⟨jm_tw (n := 1135) (by decide +kernel) rfl, jm_tp (n := 38) (q := (yX9_sumOf, _)) (by rfl)⟩
theorem cwX9_largestChoir : jm_cw iX9_largestChoir 0 := ⟨jm_tw (n := 1145) (by decide +kernel) rfl, jm_tw (n := 11) (by decide +kernel) rfl, ⟨by decide +kernel, by decide +kernel, by decide +kernel⟩, by decide⟩
theorem vwX9_largestChoir : Cond.instanceMethod iX9_largestChoir.1 ∈ jm_T ∧ Cond.selects iX9_largestChoir.1.cls iX9_largestChoir.1 iX9_largestChoir.1 ∈ jm_T := ⟨jm_tw (n := 1143) (by decide +kernel) rfl, jm_tw (n := 1144) (by decide +kernel) rfl⟩
theorem cwX9_opponentsOf : jm_cw iX9_opponentsOf 1 := ⟨jm_tw (n := 1149) (by decide +kernel) rfl, jm_tw (n := 11) (by decide +kernel) rfl, ⟨by decide +kernel, by decide +kernel, by decide +kernel⟩, by decide⟩
theorem vwX9_opponentsOf : Cond.instanceMethod iX9_opponentsOf.1 ∈ jm_T ∧ Cond.selects iX9_opponentsOf.1.cls iX9_opponentsOf.1 iX9_opponentsOf.1 ∈ jm_T := ⟨jm_tw (n := 1148) (by decide +kernel) rfl, jm_tp (n := 39) (q := (yX9_opponentsOf, _)) (by rfl)⟩
theorem cwX9_areUnlike : jm_cw iX9_areUnlike 2 := ⟨jm_tw (n := 1153) (by decide +kernel) rfl, jm_tw (n := 11) (by decide +kernel) rfl, ⟨by decide +kernel, by decide +kernel, by decide +kernel⟩, by decide⟩
theorem vwX9_areUnlike : Cond.static iX9_areUnlike.1 ∈ jm_T := jm_tw (n := 1152) (by decide +kernel) rfl
theorem cwX9_agree : jm_cw iX9_agree 1 := ⟨jm_tw (n := 1157) (by decide +kernel) rfl, jm_tw (n := 11) (by decide +kernel) rfl, ⟨by decide +kernel, by decide +kernel, by decide +kernel⟩, by decide⟩
theorem vwX9_agree : Cond.instanceMethod iX9_agree.1 ∈ jm_T ∧ Cond.selects iX9_agree.1.cls iX9_agree.1 iX9_agree.1 ∈ jm_T := ⟨jm_tw (n := 1156) (by decide +kernel) rfl, jm_tp (n := 40) (q := (yX9_agree, _)) (by rfl)⟩
theorem cwX9_worldsWith : jm_cw iX9_worldsWith 2 := ⟨jm_tw (n := 1165) (by decide +kernel) rfl, jm_tw (n := 11) (by decide +kernel) rfl, ⟨by decide +kernel, by decide +kernel, by decide +kernel⟩, by decide⟩
theorem vwX9_worldsWith : Cond.instanceMethod iX9_worldsWith.1 ∈ jm_T ∧ Cond.selects iX9_worldsWith.1.cls iX9_worldsWith.1 iX9_worldsWith.1 ∈ jm_T := ⟨jm_tw (n := 1163) (by decide +kernel) rfl, jm_tw (n := 1164) (by decide +kernel) rfl⟩
theorem cwX9_tellLiars : jm_cw iX9_tellLiars 0 := ⟨jm_tw (n := 1169) (by decide +kernel) rfl, jm_tw (n := 11) (by decide +kernel) rfl, ⟨by decide +kernel, by decide +kernel, by decide +kernel⟩, by decide⟩
theorem vwX9_tellLiars : Cond.instanceMethod iX9_tellLiars.1 ∈ jm_T ∧ Cond.selects iX9_tellLiars.1.cls iX9_tellLiars.1 iX9_tellLiars.1 ∈ jm_T := ⟨jm_tw (n := 1168) (by decide +kernel) rfl, jm_tp (n := 41) (q := (yX9_tellLiars, _)) (by rfl)⟩
theorem cwX9_countWorlds : jm_cw iX9_countWorlds 3 := ⟨jm_tw (n := 1173) (by decide +kernel) rfl, jm_tw (n := 11) (by decide +kernel) rfl, ⟨by decide +kernel, by decide +kernel, by decide +kernel⟩, by decide⟩
theorem vwX9_countWorlds : Cond.instanceMethod iX9_countWorlds.1 ∈ jm_T ∧ Cond.selects iX9_countWorlds.1.cls iX9_countWorlds.1 iX9_countWorlds.1 ∈ jm_T := ⟨jm_tw (n := 1172) (by decide +kernel) rfl, jm_tp (n := 42) (q := (yX9_countWorlds, _)) (by rfl)⟩
theorem cwX9_sureFacts : jm_cw iX9_sureFacts 1 := ⟨jm_tw (n := 1177) (by decide +kernel) rfl, jm_tw (n := 11) (by decide +kernel) rfl, ⟨by decide +kernel, by decide +kernel, by decide +kernel⟩, by decide⟩
theorem vwX9_sureFacts : Cond.instanceMethod iX9_sureFacts.1 ∈ jm_T ∧ Cond.selects iX9_sureFacts.1.cls iX9_sureFacts.1 iX9_sureFacts.1 ∈ jm_T := ⟨jm_tw (n := 1176) (by decide +kernel) rfl, jm_tp (n := 43) (q := (yX9_sureFacts, _)) (by rfl)⟩
theorem cwX9_factToAsk : jm_cw iX9_factToAsk 1 := ⟨jm_tw (n := 1185) (by decide +kernel) rfl, jm_tw (n := 11) (by decide +kernel) rfl, ⟨by decide +kernel, by decide +kernel, by decide +kernel⟩, by decide⟩
theorem vwX9_factToAsk : Cond.instanceMethod iX9_factToAsk.1 ∈ jm_T ∧ Cond.selects iX9_factToAsk.1.cls iX9_factToAsk.1 iX9_factToAsk.1 ∈ jm_T := ⟨jm_tw (n := 1184) (by decide +kernel) rfl, jm_tp (n := 45) (q := (yX9_factToAsk, _)) (by rfl)⟩
theorem cwX9_mostAlike : jm_cw iX9_mostAlike 1 := ⟨jm_tw (n := 1181) (by decide +kernel) rfl, jm_tw (n := 11) (by decide +kernel) rfl, ⟨by decide +kernel, by decide +kernel, by decide +kernel⟩, by decide⟩
theorem vwX9_mostAlike : Cond.instanceMethod iX9_mostAlike.1 ∈ jm_T ∧ Cond.selects iX9_mostAlike.1.cls iX9_mostAlike.1 iX9_mostAlike.1 ∈ jm_T := ⟨jm_tw (n := 1180) (by decide +kernel) rfl, jm_tp (n := 44) (q := (yX9_mostAlike, _)) (by rfl)⟩
theorem cwX10_likelyWithin : jm_cw iX10_likelyWithin 4 := ⟨jm_tw (n := 1003) (by decide +kernel) rfl, jm_tw (n := 10) (by decide +kernel) rfl, ⟨by decide +kernel, by decide +kernel, by decide +kernel⟩, by decide⟩
theorem vwX10_likelyWithin : Cond.instanceMethod iX10_likelyWithin.1 ∈ jm_T ∧ Cond.selects iX10_likelyWithin.1.cls iX10_likelyWithin.1 iX10_likelyWithin.1 ∈ jm_T := ⟨jm_tw (n := 1001) (by decide +kernel) rfl, jm_tw (n := 1002) (by decide +kernel) rfl⟩
theorem cwX10_addChance : jm_cw iX10_addChance 1 := ⟨jm_tw (n := 1009) (by decide +kernel) rfl, jm_tw (n := 10) (by decide +kernel) rfl, ⟨by decide +kernel, by decide +kernel, by decide +kernel⟩, by decide⟩
theorem vwX10_addChance : Cond.instanceMethod iX10_addChance.1 ∈ jm_T ∧ Cond.selects iX10_addChance.1.cls iX10_addChance.1 iX10_addChance.1 ∈ jm_T := ⟨jm_tw (n := 1008) (by decide +kernel) rfl, jm_tp (n := 31) (q := (yX10_addChance, _)) (by rfl)⟩
theorem cwX10_motivesHeard : jm_cw iX10_motivesHeard 2 := ⟨jm_tw (n := 1022) (by decide +kernel) rfl, jm_tw (n := 10) (by decide +kernel) rfl, ⟨by decide +kernel, by decide +kernel, by decide +kernel⟩, by decide⟩
theorem vwX10_motivesHeard : Cond.instanceMethod iX10_motivesHeard.1 ∈ jm_T ∧ Cond.selects iX10_motivesHeard.1.cls iX10_motivesHeard.1 iX10_motivesHeard.1 ∈ jm_T := ⟨jm_tw (n := 1020) (by decide +kernel) rfl, jm_tw (n := 1021) (by decide +kernel) rfl⟩
theorem cwX10_fewestUnlike : jm_cw iX10_fewestUnlike 1 := ⟨jm_tw (n := 1026) (by decide +kernel) rfl, jm_tw (n := 10) (by decide +kernel) rfl, ⟨by decide +kernel, by decide +kernel, by decide +kernel⟩, by decide⟩
theorem vwX10_fewestUnlike : Cond.instanceMethod iX10_fewestUnlike.1 ∈ jm_T ∧ Cond.selects iX10_fewestUnlike.1.cls iX10_fewestUnlike.1 iX10_fewestUnlike.1 ∈ jm_T := ⟨jm_tw (n := 1025) (by decide +kernel) rfl, jm_tp (n := 32) (q := (yX10_fewestUnlike, _)) (by rfl)⟩
theorem cwX10_unlikeFrom : jm_cw iX10_unlikeFrom 2 := ⟨jm_tw (n := 1032) (by decide +kernel) rfl, jm_tw (n := 10) (by decide +kernel) rfl, ⟨by decide +kernel, by decide +kernel, by decide +kernel⟩, by decide⟩
theorem vwX10_unlikeFrom : Cond.instanceMethod iX10_unlikeFrom.1 ∈ jm_T ∧ Cond.selects iX10_unlikeFrom.1.cls iX10_unlikeFrom.1 iX10_unlikeFrom.1 ∈ jm_T := ⟨jm_tw (n := 1031) (by decide +kernel) rfl, jm_tp (n := 33) (q := (yX10_unlikeFrom, _)) (by rfl)⟩
theorem cwX10_soundingBars : jm_cw iX10_soundingBars 2 := ⟨jm_tw (n := 1041) (by decide +kernel) rfl, jm_tw (n := 10) (by decide +kernel) rfl, ⟨by decide +kernel, by decide +kernel, by decide +kernel⟩, by decide⟩
theorem vwX10_soundingBars : Cond.instanceMethod iX10_soundingBars.1 ∈ jm_T ∧ Cond.selects iX10_soundingBars.1.cls iX10_soundingBars.1 iX10_soundingBars.1 ∈ jm_T := ⟨jm_tw (n := 1039) (by decide +kernel) rfl, jm_tw (n := 1040) (by decide +kernel) rfl⟩
theorem cwX10_soundingBehind : jm_cw iX10_soundingBehind 2 := ⟨jm_tw (n := 1081) (by decide +kernel) rfl, jm_tw (n := 10) (by decide +kernel) rfl, ⟨by decide +kernel, by decide +kernel, by decide +kernel⟩, by decide⟩
theorem vwX10_soundingBehind : Cond.instanceMethod iX10_soundingBehind.1 ∈ jm_T ∧ Cond.selects iX10_soundingBehind.1.cls iX10_soundingBehind.1 iX10_soundingBehind.1 ∈ jm_T := ⟨jm_tw (n := 1079) (by decide +kernel) rfl, jm_tw (n := 1080) (by decide +kernel) rfl⟩
theorem cwX10_bestKey : jm_cw iX10_bestKey 4 := ⟨jm_tw (n := 1067) (by decide +kernel) rfl, jm_tw (n := 10) (by decide +kernel) rfl, ⟨by decide +kernel, by decide +kernel, by decide +kernel⟩, by decide⟩
theorem vwX10_bestKey : Cond.instanceMethod iX10_bestKey.1 ∈ jm_T ∧ Cond.selects iX10_bestKey.1.cls iX10_bestKey.1 iX10_bestKey.1 ∈ jm_T := ⟨jm_tw (n := 1065) (by decide +kernel) rfl, jm_tw (n := 1066) (by decide +kernel) rfl⟩
theorem cwX10_soundingFrom : jm_cw iX10_soundingFrom 3 := ⟨jm_tw (n := 1073) (by decide +kernel) rfl, jm_tw (n := 10) (by decide +kernel) rfl, ⟨by decide +kernel, by decide +kernel, by decide +kernel⟩, by decide⟩
theorem vwX10_soundingFrom : Cond.instanceMethod iX10_soundingFrom.1 ∈ jm_T ∧ Cond.selects iX10_soundingFrom.1.cls iX10_soundingFrom.1 iX10_soundingFrom.1 ∈ jm_T := ⟨jm_tw (n := 1072) (by decide +kernel) rfl, jm_tp (n := 34) (q := (yX10_soundingFrom, _)) (by rfl)⟩
theorem cwX10_chordOf : jm_cw iX10_chordOf 5 := ⟨jm_tw (n := 1193) (by decide +kernel) rfl, jm_tw (n := 10) (by decide +kernel) rfl, ⟨by decide +kernel, by decide +kernel, by decide +kernel⟩, by decide⟩
theorem vwX10_chordOf : Cond.instanceMethod iX10_chordOf.1 ∈ jm_T ∧ Cond.selects iX10_chordOf.1.cls iX10_chordOf.1 iX10_chordOf.1 ∈ jm_T := ⟨jm_tw (n := 1191) (by decide +kernel) rfl, jm_tw (n := 1192) (by decide +kernel) rfl⟩
theorem cwX10_chosen : jm_cw iX10_chosen 4 := ⟨jm_tw (n := 1217) (by decide +kernel) rfl, jm_tw (n := 10) (by decide +kernel) rfl, ⟨by decide +kernel, by decide +kernel, by decide +kernel⟩, by decide⟩
theorem vwX10_chosen : Cond.static iX10_chosen.1 ∈ jm_T := jm_tw (n := 1216) (by decide +kernel) rfl
theorem cwX10_tellSounds : jm_cw iX10_tellSounds 0 := ⟨jm_tw (n := 1197) (by decide +kernel) rfl, jm_tw (n := 10) (by decide +kernel) rfl, ⟨by decide +kernel, by decide +kernel, by decide +kernel⟩, by decide⟩
theorem vwX10_tellSounds : Cond.instanceMethod iX10_tellSounds.1 ∈ jm_T ∧ Cond.selects iX10_tellSounds.1.cls iX10_tellSounds.1 iX10_tellSounds.1 ∈ jm_T := ⟨jm_tw (n := 1196) (by decide +kernel) rfl, jm_tp (n := 46) (q := (yX10_tellSounds, _)) (by rfl)⟩
theorem cwX10_rangeOf : jm_cw iX10_rangeOf 1 := ⟨jm_tw (n := 1205) (by decide +kernel) rfl, jm_tw (n := 10) (by decide +kernel) rfl, ⟨by decide +kernel, by decide +kernel, by decide +kernel⟩, by decide⟩
theorem vwX10_rangeOf : Cond.instanceMethod iX10_rangeOf.1 ∈ jm_T ∧ Cond.selects iX10_rangeOf.1.cls iX10_rangeOf.1 iX10_rangeOf.1 ∈ jm_T := ⟨jm_tw (n := 1204) (by decide +kernel) rfl, jm_tp (n := 47) (q := (yX10_rangeOf, _)) (by rfl)⟩
theorem cwX10_has : jm_cw iX10_has 2 := ⟨jm_tw (n := 1201) (by decide +kernel) rfl, jm_tw (n := 10) (by decide +kernel) rfl, ⟨by decide +kernel, by decide +kernel, by decide +kernel⟩, by decide⟩
theorem vwX10_has : Cond.static iX10_has.1 ∈ jm_T := jm_tw (n := 1200) (by decide +kernel) rfl
theorem cwX10_lowestOf : jm_cw iX10_lowestOf 1 := ⟨jm_tw (n := 1214) (by decide +kernel) rfl, jm_tw (n := 10) (by decide +kernel) rfl, ⟨by decide +kernel, by decide +kernel, by decide +kernel⟩, by decide⟩
theorem vwX10_lowestOf : Cond.static iX10_lowestOf.1 ∈ jm_T := jm_tw (n := 1213) (by decide +kernel) rfl
theorem cwX11_state : jm_cw iX11_state 1 := ⟨jm_tw (n := 451) (by decide +kernel) rfl, jm_tw (n := 1) (by decide +kernel) rfl, ⟨by decide +kernel, by decide +kernel, by decide +kernel⟩, by decide⟩
theorem vwX11_state : Cond.instanceMethod iX11_state.1 ∈ jm_T ∧ Cond.selects iX11_state.1.cls iX11_state.1 iX11_state.1 ∈ jm_T := ⟨jm_tw (n := 449) (by decide +kernel) rfl, jm_tw (n := 450) (by decide +kernel) rfl⟩
theorem cwX11_witness : jm_cw iX11_witness 3 := ⟨jm_tw (n := 459) (by decide +kernel) rfl, jm_tw (n := 1) (by decide +kernel) rfl, ⟨by decide +kernel, by decide +kernel, by decide +kernel⟩, by decide⟩
theorem vwX11_witness : Cond.instanceMethod iX11_witness.1 ∈ jm_T ∧ Cond.selects iX11_witness.1.cls iX11_witness.1 iX11_witness.1 ∈ jm_T := ⟨jm_tw (n := 457) (by decide +kernel) rfl, jm_tw (n := 458) (by decide +kernel) rfl⟩
theorem cwX11_claim : jm_cw iX11_claim 3 := ⟨jm_tw (n := 473) (by decide +kernel) rfl, jm_tw (n := 1) (by decide +kernel) rfl, ⟨by decide +kernel, by decide +kernel, by decide +kernel⟩, by decide⟩
theorem vwX11_claim : Cond.instanceMethod iX11_claim.1 ∈ jm_T ∧ Cond.selects iX11_claim.1.cls iX11_claim.1 iX11_claim.1 ∈ jm_T := ⟨jm_tw (n := 471) (by decide +kernel) rfl, jm_tw (n := 472) (by decide +kernel) rfl⟩
theorem cwX11_set : jm_cw iX11_set 3 := ⟨jm_tw (n := 484) (by decide +kernel) rfl, jm_tw (n := 1) (by decide +kernel) rfl, ⟨by decide +kernel, by decide +kernel, by decide +kernel⟩, by decide⟩
theorem vwX11_set : Cond.instanceMethod iX11_set.1 ∈ jm_T ∧ Cond.selects iX11_set.1.cls iX11_set.1 iX11_set.1 ∈ jm_T := ⟨jm_tw (n := 482) (by decide +kernel) rfl, jm_tw (n := 483) (by decide +kernel) rfl⟩
theorem cwX11_feed : jm_cw iX11_feed 5 := ⟨jm_tw (n := 496) (by decide +kernel) rfl, jm_tw (n := 1) (by decide +kernel) rfl, ⟨by decide +kernel, by decide +kernel, by decide +kernel⟩, by decide⟩
theorem vwX11_feed : Cond.instanceMethod iX11_feed.1 ∈ jm_T ∧ Cond.selects iX11_feed.1.cls iX11_feed.1 iX11_feed.1 ∈ jm_T := ⟨jm_tw (n := 494) (by decide +kernel) rfl, jm_tw (n := 495) (by decide +kernel) rfl⟩
theorem cwX11_end : jm_cw iX11_end 1 := ⟨jm_tw (n := 508) (by decide +kernel) rfl, jm_tw (n := 1) (by decide +kernel) rfl, ⟨by decide +kernel, by decide +kernel, by decide +kernel⟩, by decide⟩
theorem vwX11_end : Cond.instanceMethod iX11_end.1 ∈ jm_T ∧ Cond.selects iX11_end.1.cls iX11_end.1 iX11_end.1 ∈ jm_T := ⟨jm_tw (n := 506) (by decide +kernel) rfl, jm_tw (n := 507) (by decide +kernel) rfl⟩
theorem cwX11_text : jm_cw iX11_text 1 := ⟨jm_tw (n := 512) (by decide +kernel) rfl, jm_tw (n := 1) (by decide +kernel) rfl, ⟨by decide +kernel, by decide +kernel, by decide +kernel⟩, by decide⟩
theorem vwX11_text : Cond.instanceMethod iX11_text.1 ∈ jm_T ∧ Cond.selects iX11_text.1.cls iX11_text.1 iX11_text.1 ∈ jm_T := ⟨jm_tw (n := 510) (by decide +kernel) rfl, jm_tw (n := 511) (by decide +kernel) rfl⟩
theorem cwX11_fault : jm_cw iX11_fault 1 := ⟨jm_tw (n := 764) (by decide +kernel) rfl, jm_tw (n := 1) (by decide +kernel) rfl, ⟨by decide +kernel, by decide +kernel, by decide +kernel⟩, by decide⟩
theorem vwX11_fault : Cond.instanceMethod iX11_fault.1 ∈ jm_T ∧ Cond.selects iX11_fault.1.cls iX11_fault.1 iX11_fault.1 ∈ jm_T := ⟨jm_tw (n := 762) (by decide +kernel) rfl, jm_tw (n := 763) (by decide +kernel) rfl⟩
theorem cwX11_call : jm_cw iX11_call 3 := ⟨jm_tw (n := 768) (by decide +kernel) rfl, jm_tw (n := 1) (by decide +kernel) rfl, ⟨by decide +kernel, by decide +kernel, by decide +kernel⟩, by decide⟩
theorem vwX11_call : Cond.instanceMethod iX11_call.1 ∈ jm_T ∧ Cond.selects iX11_call.1.cls iX11_call.1 iX11_call.1 ∈ jm_T := ⟨jm_tw (n := 766) (by decide +kernel) rfl, jm_tw (n := 767) (by decide +kernel) rfl⟩
theorem cwX11_cross : jm_cw iX11_cross 1 := ⟨jm_tw (n := 902) (by decide +kernel) rfl, jm_tw (n := 1) (by decide +kernel) rfl, ⟨by decide +kernel, by decide +kernel, by decide +kernel⟩, by decide⟩
theorem vwX11_cross : Cond.instanceMethod iX11_cross.1 ∈ jm_T ∧ Cond.selects iX11_cross.1.cls iX11_cross.1 iX11_cross.1 ∈ jm_T := ⟨jm_tw (n := 900) (by decide +kernel) rfl, jm_tw (n := 901) (by decide +kernel) rfl⟩
theorem cwX11_strike : jm_cw iX11_strike 1 := ⟨jm_tw (n := 910) (by decide +kernel) rfl, jm_tw (n := 1) (by decide +kernel) rfl, ⟨by decide +kernel, by decide +kernel, by decide +kernel⟩, by decide⟩
theorem vwX11_strike : Cond.instanceMethod iX11_strike.1 ∈ jm_T ∧ Cond.selects iX11_strike.1.cls iX11_strike.1 iX11_strike.1 ∈ jm_T := ⟨jm_tw (n := 908) (by decide +kernel) rfl, jm_tw (n := 909) (by decide +kernel) rfl⟩
theorem cwX11_days : jm_cw iX11_days 1 := ⟨jm_tw (n := 924) (by decide +kernel) rfl, jm_tw (n := 1) (by decide +kernel) rfl, ⟨by decide +kernel, by decide +kernel, by decide +kernel⟩, by decide⟩
theorem vwX11_days : Cond.instanceMethod iX11_days.1 ∈ jm_T ∧ Cond.selects iX11_days.1.cls iX11_days.1 iX11_days.1 ∈ jm_T := ⟨jm_tw (n := 922) (by decide +kernel) rfl, jm_tw (n := 923) (by decide +kernel) rfl⟩
theorem cwX11_trial : jm_cw iX11_trial 0 := ⟨jm_tw (n := 937) (by decide +kernel) rfl, jm_tw (n := 1) (by decide +kernel) rfl, ⟨by decide +kernel, by decide +kernel, by decide +kernel⟩, by decide⟩
theorem vwX11_trial : Cond.instanceMethod iX11_trial.1 ∈ jm_T ∧ Cond.selects iX11_trial.1.cls iX11_trial.1 iX11_trial.1 ∈ jm_T := ⟨jm_tw (n := 935) (by decide +kernel) rfl, jm_tw (n := 936) (by decide +kernel) rfl⟩
theorem cwX11_of : jm_cw iX11_of 2 := ⟨jm_tw (n := 953) (by decide +kernel) rfl, jm_tw (n := 1) (by decide +kernel) rfl, ⟨by decide +kernel, by decide +kernel, by decide +kernel⟩, by decide⟩
theorem vwX11_of : Cond.instanceMethod iX11_of.1 ∈ jm_T ∧ Cond.selects iX11_of.1.cls iX11_of.1 iX11_of.1 ∈ jm_T := ⟨jm_tw (n := 951) (by decide +kernel) rfl, jm_tw (n := 952) (by decide +kernel) rfl⟩
theorem cwX11_testimony : jm_cw iX11_testimony 2 := ⟨jm_tw (n := 960) (by decide +kernel) rfl, jm_tw (n := 1) (by decide +kernel) rfl, ⟨by decide +kernel, by decide +kernel, by decide +kernel⟩, by decide⟩
theorem vwX11_testimony : Cond.instanceMethod iX11_testimony.1 ∈ jm_T ∧ Cond.selects iX11_testimony.1.cls iX11_testimony.1 iX11_testimony.1 ∈ jm_T := ⟨jm_tw (n := 958) (by decide +kernel) rfl, jm_tw (n := 959) (by decide +kernel) rfl⟩
theorem cwX11_bar : jm_cw iX11_bar 1 := ⟨jm_tw (n := 973) (by decide +kernel) rfl, jm_tw (n := 1) (by decide +kernel) rfl, ⟨by decide +kernel, by decide +kernel, by decide +kernel⟩, by decide⟩
theorem vwX11_bar : Cond.instanceMethod iX11_bar.1 ∈ jm_T ∧ Cond.selects iX11_bar.1.cls iX11_bar.1 iX11_bar.1 ∈ jm_T := ⟨jm_tw (n := 971) (by decide +kernel) rfl, jm_tw (n := 972) (by decide +kernel) rfl⟩
theorem cwX11_motive : jm_cw iX11_motive 2 := ⟨jm_tw (n := 977) (by decide +kernel) rfl, jm_tw (n := 1) (by decide +kernel) rfl, ⟨by decide +kernel, by decide +kernel, by decide +kernel⟩, by decide⟩
theorem vwX11_motive : Cond.instanceMethod iX11_motive.1 ∈ jm_T ∧ Cond.selects iX11_motive.1.cls iX11_motive.1 iX11_motive.1 ∈ jm_T := ⟨jm_tw (n := 975) (by decide +kernel) rfl, jm_tw (n := 976) (by decide +kernel) rfl⟩
theorem cwX11_book : jm_cw iX11_book 2 := ⟨jm_tw (n := 982) (by decide +kernel) rfl, jm_tw (n := 1) (by decide +kernel) rfl, ⟨by decide +kernel, by decide +kernel, by decide +kernel⟩, by decide⟩
theorem vwX11_book : Cond.instanceMethod iX11_book.1 ∈ jm_T ∧ Cond.selects iX11_book.1.cls iX11_book.1 iX11_book.1 ∈ jm_T := ⟨jm_tw (n := 980) (by decide +kernel) rfl, jm_tw (n := 981) (by decide +kernel) rfl⟩
theorem cwX11_keys : jm_cw iX11_keys 3 := ⟨jm_tw (n := 986) (by decide +kernel) rfl, jm_tw (n := 1) (by decide +kernel) rfl, ⟨by decide +kernel, by decide +kernel, by decide +kernel⟩, by decide⟩
theorem vwX11_keys : Cond.instanceMethod iX11_keys.1 ∈ jm_T ∧ Cond.selects iX11_keys.1.cls iX11_keys.1 iX11_keys.1 ∈ jm_T := ⟨jm_tw (n := 984) (by decide +kernel) rfl, jm_tw (n := 985) (by decide +kernel) rfl⟩
theorem cwX11_fair : jm_cw iX11_fair 4 := ⟨jm_tw (n := 998) (by decide +kernel) rfl, jm_tw (n := 1) (by decide +kernel) rfl, ⟨by decide +kernel, by decide +kernel, by decide +kernel⟩, by decide⟩
theorem vwX11_fair : Cond.instanceMethod iX11_fair.1 ∈ jm_T ∧ Cond.selects iX11_fair.1.cls iX11_fair.1 iX11_fair.1 ∈ jm_T := ⟨jm_tw (n := 996) (by decide +kernel) rfl, jm_tw (n := 997) (by decide +kernel) rfl⟩
theorem cwX11_heard : jm_cw iX11_heard 1 := ⟨jm_tw (n := 1014) (by decide +kernel) rfl, jm_tw (n := 1) (by decide +kernel) rfl, ⟨by decide +kernel, by decide +kernel, by decide +kernel⟩, by decide⟩
theorem vwX11_heard : Cond.instanceMethod iX11_heard.1 ∈ jm_T ∧ Cond.selects iX11_heard.1.cls iX11_heard.1 iX11_heard.1 ∈ jm_T := ⟨jm_tw (n := 1012) (by decide +kernel) rfl, jm_tw (n := 1013) (by decide +kernel) rfl⟩
theorem cwX11_read : jm_cw iX11_read 2 := ⟨jm_tw (n := 1018) (by decide +kernel) rfl, jm_tw (n := 1) (by decide +kernel) rfl, ⟨by decide +kernel, by decide +kernel, by decide +kernel⟩, by decide⟩
theorem vwX11_read : Cond.instanceMethod iX11_read.1 ∈ jm_T ∧ Cond.selects iX11_read.1.cls iX11_read.1 iX11_read.1 ∈ jm_T := ⟨jm_tw (n := 1016) (by decide +kernel) rfl, jm_tw (n := 1017) (by decide +kernel) rfl⟩
theorem cwX11_duet : jm_cw iX11_duet 2 := ⟨jm_tw (n := 1037) (by decide +kernel) rfl, jm_tw (n := 1) (by decide +kernel) rfl, ⟨by decide +kernel, by decide +kernel, by decide +kernel⟩, by decide⟩
theorem vwX11_duet : Cond.instanceMethod iX11_duet.1 ∈ jm_T ∧ Cond.selects iX11_duet.1.cls iX11_duet.1 iX11_duet.1 ∈ jm_T := ⟨jm_tw (n := 1035) (by decide +kernel) rfl, jm_tw (n := 1036) (by decide +kernel) rfl⟩
theorem cwX11_best : jm_cw iX11_best 4 := ⟨jm_tw (n := 1063) (by decide +kernel) rfl, jm_tw (n := 1) (by decide +kernel) rfl, ⟨by decide +kernel, by decide +kernel, by decide +kernel⟩, by decide⟩
theorem vwX11_best : Cond.instanceMethod iX11_best.1 ∈ jm_T ∧ Cond.selects iX11_best.1.cls iX11_best.1 iX11_best.1 ∈ jm_T := ⟨jm_tw (n := 1061) (by decide +kernel) rfl, jm_tw (n := 1062) (by decide +kernel) rfl⟩
theorem cwX11_canon : jm_cw iX11_canon 2 := ⟨jm_tw (n := 1077) (by decide +kernel) rfl, jm_tw (n := 1) (by decide +kernel) rfl, ⟨by decide +kernel, by decide +kernel, by decide +kernel⟩, by decide⟩
theorem vwX11_canon : Cond.instanceMethod iX11_canon.1 ∈ jm_T ∧ Cond.selects iX11_canon.1.cls iX11_canon.1 iX11_canon.1 ∈ jm_T := ⟨jm_tw (n := 1075) (by decide +kernel) rfl, jm_tw (n := 1076) (by decide +kernel) rfl⟩
theorem cwX11_weighed : jm_cw iX11_weighed 2 := ⟨jm_tw (n := 1085) (by decide +kernel) rfl, jm_tw (n := 1) (by decide +kernel) rfl, ⟨by decide +kernel, by decide +kernel, by decide +kernel⟩, by decide⟩
theorem vwX11_weighed : Cond.instanceMethod iX11_weighed.1 ∈ jm_T ∧ Cond.selects iX11_weighed.1.cls iX11_weighed.1 iX11_weighed.1 ∈ jm_T := ⟨jm_tw (n := 1083) (by decide +kernel) rfl, jm_tw (n := 1084) (by decide +kernel) rfl⟩
theorem cwX11_found : jm_cw iX11_found 1 := ⟨jm_tw (n := 1102) (by decide +kernel) rfl, jm_tw (n := 1) (by decide +kernel) rfl, ⟨by decide +kernel, by decide +kernel, by decide +kernel⟩, by decide⟩
theorem vwX11_found : Cond.instanceMethod iX11_found.1 ∈ jm_T ∧ Cond.selects iX11_found.1.cls iX11_found.1 iX11_found.1 ∈ jm_T := ⟨jm_tw (n := 1100) (by decide +kernel) rfl, jm_tw (n := 1101) (by decide +kernel) rfl⟩
theorem cwX11_calls : jm_cw iX11_calls 3 := ⟨jm_tw (n := 1115) (by decide +kernel) rfl, jm_tw (n := 1) (by decide +kernel) rfl, ⟨by decide +kernel, by decide +kernel, by decide +kernel⟩, by decide⟩
theorem vwX11_calls : Cond.instanceMethod iX11_calls.1 ∈ jm_T ∧ Cond.selects iX11_calls.1.cls iX11_calls.1 iX11_calls.1 ∈ jm_T := ⟨jm_tw (n := 1113) (by decide +kernel) rfl, jm_tw (n := 1114) (by decide +kernel) rfl⟩
theorem cwX11_choir : jm_cw iX11_choir 1 := ⟨jm_tw (n := 1141) (by decide +kernel) rfl, jm_tw (n := 1) (by decide +kernel) rfl, ⟨by decide +kernel, by decide +kernel, by decide +kernel⟩, by decide⟩
theorem vwX11_choir : Cond.instanceMethod iX11_choir.1 ∈ jm_T ∧ Cond.selects iX11_choir.1.cls iX11_choir.1 iX11_choir.1 ∈ jm_T := ⟨jm_tw (n := 1139) (by decide +kernel) rfl, jm_tw (n := 1140) (by decide +kernel) rfl⟩
theorem cwX11_worlds : jm_cw iX11_worlds 2 := ⟨jm_tw (n := 1161) (by decide +kernel) rfl, jm_tw (n := 1) (by decide +kernel) rfl, ⟨by decide +kernel, by decide +kernel, by decide +kernel⟩, by decide⟩
theorem vwX11_worlds : Cond.instanceMethod iX11_worlds.1 ∈ jm_T ∧ Cond.selects iX11_worlds.1.cls iX11_worlds.1 iX11_worlds.1 ∈ jm_T := ⟨jm_tw (n := 1159) (by decide +kernel) rfl, jm_tw (n := 1160) (by decide +kernel) rfl⟩
theorem cwX11_chord : jm_cw iX11_chord 6 := ⟨jm_tw (n := 1189) (by decide +kernel) rfl, jm_tw (n := 1) (by decide +kernel) rfl, ⟨by decide +kernel, by decide +kernel, by decide +kernel⟩, by decide⟩
theorem vwX11_chord : Cond.instanceMethod iX11_chord.1 ∈ jm_T ∧ Cond.selects iX11_chord.1.cls iX11_chord.1 iX11_chord.1 ∈ jm_T := ⟨jm_tw (n := 1187) (by decide +kernel) rfl, jm_tw (n := 1188) (by decide +kernel) rfl⟩
theorem cwX11_undo : jm_cw iX11_undo 0 := ⟨jm_tw (n := 1221) (by decide +kernel) rfl, jm_tw (n := 1) (by decide +kernel) rfl, ⟨by decide +kernel, by decide +kernel, by decide +kernel⟩, by decide⟩
theorem vwX11_undo : Cond.instanceMethod iX11_undo.1 ∈ jm_T ∧ Cond.selects iX11_undo.1.cls iX11_undo.1 iX11_undo.1 ∈ jm_T := ⟨jm_tw (n := 1219) (by decide +kernel) rfl, jm_tw (n := 1220) (by decide +kernel) rfl⟩
theorem cwX11_image : jm_cw iX11_image 1 := ⟨jm_tw (n := 1225) (by decide +kernel) rfl, jm_tw (n := 1) (by decide +kernel) rfl, ⟨by decide +kernel, by decide +kernel, by decide +kernel⟩, by decide⟩
theorem vwX11_image : Cond.instanceMethod iX11_image.1 ∈ jm_T ∧ Cond.selects iX11_image.1.cls iX11_image.1 iX11_image.1 ∈ jm_T := ⟨jm_tw (n := 1223) (by decide +kernel) rfl, jm_tw (n := 1224) (by decide +kernel) rfl⟩
theorem cwX11_look : jm_cw iX11_look 1 := ⟨jm_tw (n := 1237) (by decide +kernel) rfl, jm_tw (n := 1) (by decide +kernel) rfl, ⟨by decide +kernel, by decide +kernel, by decide +kernel⟩, by decide⟩
theorem vwX11_look : Cond.instanceMethod iX11_look.1 ∈ jm_T ∧ Cond.selects iX11_look.1.cls iX11_look.1 iX11_look.1 ∈ jm_T := ⟨jm_tw (n := 1235) (by decide +kernel) rfl, jm_tw (n := 1236) (by decide +kernel) rfl⟩
theorem cwX11_setOfBench : jm_cw iX11_setOfBench 2 := ⟨jm_tw (n := 492) (by decide +kernel) rfl, jm_tw (n := 1) (by decide +kernel) rfl, ⟨by decide +kernel, by decide +kernel, by decide +kernel⟩, by decide⟩
theorem vwX11_setOfBench : Cond.instanceMethod iX11_setOfBench.1 ∈ jm_T ∧ Cond.selects iX11_setOfBench.1.cls iX11_setOfBench.1 iX11_setOfBench.1 ∈ jm_T := ⟨jm_tw (n := 491) (by decide +kernel) rfl, jm_tp (n := 2) (q := (yX11_setOfBench, _)) (by rfl)⟩
theorem cwX11_setOfWitness : jm_cw iX11_setOfWitness 3 := ⟨jm_tw (n := 488) (by decide +kernel) rfl, jm_tw (n := 1) (by decide +kernel) rfl, ⟨by decide +kernel, by decide +kernel, by decide +kernel⟩, by decide⟩
theorem vwX11_setOfWitness : Cond.instanceMethod iX11_setOfWitness.1 ∈ jm_T ∧ Cond.selects iX11_setOfWitness.1.cls iX11_setOfWitness.1 iX11_setOfWitness.1 ∈ jm_T := ⟨jm_tw (n := 487) (by decide +kernel) rfl, jm_tp (n := 1) (q := (yX11_setOfWitness, _)) (by rfl)⟩
theorem cwX11_adoptMotives : jm_cw iX11_adoptMotives 0 := ⟨jm_tw (n := 637) (by decide +kernel) rfl, jm_tw (n := 1) (by decide +kernel) rfl, ⟨by decide +kernel, by decide +kernel, by decide +kernel⟩, by decide⟩
theorem vwX11_adoptMotives : Cond.instanceMethod iX11_adoptMotives.1 ∈ jm_T ∧ Cond.selects iX11_adoptMotives.1.cls iX11_adoptMotives.1 iX11_adoptMotives.1 ∈ jm_T := ⟨jm_tw (n := 636) (by decide +kernel) rfl, jm_tp (n := 9) (q := (yX11_adoptMotives, _)) (by rfl)⟩
theorem cwX11_adoptLaw : jm_cw iX11_adoptLaw 0 := ⟨jm_tw (n := 702) (by decide +kernel) rfl, jm_tw (n := 1) (by decide +kernel) rfl, ⟨by decide +kernel, by decide +kernel, by decide +kernel⟩, by decide⟩
theorem vwX11_adoptLaw : Cond.instanceMethod iX11_adoptLaw.1 ∈ jm_T ∧ Cond.selects iX11_adoptLaw.1.cls iX11_adoptLaw.1 iX11_adoptLaw.1 ∈ jm_T := ⟨jm_tw (n := 701) (by decide +kernel) rfl, jm_tp (n := 15) (q := (yX11_adoptLaw, _)) (by rfl)⟩
theorem cwX11_adoptPlan : jm_cw iX11_adoptPlan 0 := ⟨jm_tw (n := 754) (by decide +kernel) rfl, jm_tw (n := 1) (by decide +kernel) rfl, ⟨by decide +kernel, by decide +kernel, by decide +kernel⟩, by decide⟩
theorem vwX11_adoptPlan : Cond.instanceMethod iX11_adoptPlan.1 ∈ jm_T ∧ Cond.selects iX11_adoptPlan.1.cls iX11_adoptPlan.1 iX11_adoptPlan.1 ∈ jm_T := ⟨jm_tw (n := 753) (by decide +kernel) rfl, jm_tp (n := 24) (q := (yX11_adoptPlan, _)) (by rfl)⟩
theorem cwX11_keepCourt : jm_cw iX11_keepCourt 0 := ⟨jm_tw (n := 823) (by decide +kernel) rfl, jm_tw (n := 1) (by decide +kernel) rfl, ⟨by decide +kernel, by decide +kernel, by decide +kernel⟩, by decide⟩
theorem vwX11_keepCourt : Cond.instanceMethod iX11_keepCourt.1 ∈ jm_T ∧ Cond.selects iX11_keepCourt.1.cls iX11_keepCourt.1 iX11_keepCourt.1 ∈ jm_T := ⟨jm_tw (n := 822) (by decide +kernel) rfl, jm_tp (n := 26) (q := (yX11_keepCourt, _)) (by rfl)⟩
theorem cwX11_forgetDeeds : jm_cw iX11_forgetDeeds 0 := ⟨jm_tw (n := 455) (by decide +kernel) rfl, jm_tw (n := 1) (by decide +kernel) rfl, ⟨by decide +kernel, by decide +kernel, by decide +kernel⟩, by decide⟩
theorem vwX11_forgetDeeds : Cond.instanceMethod iX11_forgetDeeds.1 ∈ jm_T ∧ Cond.selects iX11_forgetDeeds.1.cls iX11_forgetDeeds.1 iX11_forgetDeeds.1 ∈ jm_T := ⟨jm_tw (n := 454) (by decide +kernel) rfl, jm_tp (n := 0) (q := (yX11_forgetDeeds, _)) (by rfl)⟩
theorem cwX11_isWithin : jm_cw iX11_isWithin 3 := ⟨jm_tw (n := 465) (by decide +kernel) rfl, jm_tw (n := 1) (by decide +kernel) rfl, ⟨by decide +kernel, by decide +kernel, by decide +kernel⟩, by decide⟩
theorem vwX11_isWithin : Cond.static iX11_isWithin.1 ∈ jm_T := jm_tw (n := 464) (by decide +kernel) rfl
theorem cwX11_isNote : jm_cw iX11_isNote 1 := ⟨jm_tw (n := 462) (by decide +kernel) rfl, jm_tw (n := 1) (by decide +kernel) rfl, ⟨by decide +kernel, by decide +kernel, by decide +kernel⟩, by decide⟩
theorem vwX11_isNote : Cond.static iX11_isNote.1 ∈ jm_T := jm_tw (n := 461) (by decide +kernel) rfl
theorem cwX11_isFact : jm_cw iX11_isFact 1 := ⟨jm_tw (n := 480) (by decide +kernel) rfl, jm_tw (n := 1) (by decide +kernel) rfl, ⟨by decide +kernel, by decide +kernel, by decide +kernel⟩, by decide⟩
theorem vwX11_isFact : Cond.static iX11_isFact.1 ∈ jm_T := jm_tw (n := 479) (by decide +kernel) rfl
theorem cwX11_isValue : jm_cw iX11_isValue 1 := ⟨jm_tw (n := 1088) (by decide +kernel) rfl, jm_tw (n := 1) (by decide +kernel) rfl, ⟨by decide +kernel, by decide +kernel, by decide +kernel⟩, by decide⟩
theorem vwX11_isValue : Cond.static iX11_isValue.1 ∈ jm_T := jm_tw (n := 1087) (by decide +kernel) rfl
theorem cwX11_held : jm_cw iX11_held 2 := ⟨jm_tw (n := 879) (by decide +kernel) rfl, jm_tw (n := 1) (by decide +kernel) rfl, ⟨by decide +kernel, by decide +kernel, by decide +kernel⟩, by decide⟩
theorem vwX11_held : Cond.static iX11_held.1 ∈ jm_T := jm_tw (n := 878) (by decide +kernel) rfl
theorem cwX12_isIn : jm_cw iX12_isIn 3 := ⟨jm_tw (n := 1437) (by decide +kernel) rfl, jm_tw (n := 13) (by decide +kernel) rfl, ⟨by decide +kernel, by decide +kernel, by decide +kernel⟩, by decide⟩
theorem vwX12_isIn : Cond.instanceMethod iX12_isIn.1 ∈ jm_T ∧ Cond.selects iX12_isIn.1.cls iX12_isIn.1 iX12_isIn.1 ∈ jm_T := ⟨jm_tw (n := 1436) (by decide +kernel) rfl, jm_tp (n := 48) (q := (yX12_isIn, _)) (by rfl)⟩
theorem cwX12_held : jm_cw iX12_held 3 := ⟨jm_tw (n := 1465) (by decide +kernel) rfl, jm_tw (n := 13) (by decide +kernel) rfl, ⟨by decide +kernel, by decide +kernel, by decide +kernel⟩, by decide⟩
theorem vwX12_held : Cond.instanceMethod iX12_held.1 ∈ jm_T ∧ Cond.selects iX12_held.1.cls iX12_held.1 iX12_held.1 ∈ jm_T := ⟨jm_tw (n := 1464) (by decide +kernel) rfl, jm_tp (n := 53) (q := (yX12_held, _)) (by rfl)⟩
theorem cwX12_greater : jm_cw iX12_greater 2 := ⟨jm_tw (n := 1861) (by decide +kernel) rfl, jm_tw (n := 13) (by decide +kernel) rfl, ⟨by decide +kernel, by decide +kernel, by decide +kernel⟩, by decide⟩
theorem vwX12_greater : Cond.instanceMethod iX12_greater.1 ∈ jm_T ∧ Cond.selects iX12_greater.1.cls iX12_greater.1 iX12_greater.1 ∈ jm_T := ⟨jm_tw (n := 1860) (by decide +kernel) rfl, jm_tp (n := 131) (q := (yX12_greater, _)) (by rfl)⟩
theorem cwX12_lesser : jm_cw iX12_lesser 2 := ⟨jm_tw (n := 1833) (by decide +kernel) rfl, jm_tw (n := 13) (by decide +kernel) rfl, ⟨by decide +kernel, by decide +kernel, by decide +kernel⟩, by decide⟩
theorem vwX12_lesser : Cond.instanceMethod iX12_lesser.1 ∈ jm_T ∧ Cond.selects iX12_lesser.1.cls iX12_lesser.1 iX12_lesser.1 ∈ jm_T := ⟨jm_tw (n := 1832) (by decide +kernel) rfl, jm_tp (n := 126) (q := (yX12_lesser, _)) (by rfl)⟩
theorem cwX12_far : jm_cw iX12_far 2 := ⟨jm_tw (n := 1849) (by decide +kernel) rfl, jm_tw (n := 13) (by decide +kernel) rfl, ⟨by decide +kernel, by decide +kernel, by decide +kernel⟩, by decide⟩
theorem vwX12_far : Cond.instanceMethod iX12_far.1 ∈ jm_T ∧ Cond.selects iX12_far.1.cls iX12_far.1 iX12_far.1 ∈ jm_T := ⟨jm_tw (n := 1848) (by decide +kernel) rfl, jm_tp (n := 129) (q := (yX12_far, _)) (by rfl)⟩
theorem cwX12_onesOf : jm_cw iX12_onesOf 1 := ⟨jm_tw (n := 1901) (by decide +kernel) rfl, jm_tw (n := 13) (by decide +kernel) rfl, ⟨by decide +kernel, by decide +kernel, by decide +kernel⟩, by decide⟩
theorem vwX12_onesOf : Cond.instanceMethod iX12_onesOf.1 ∈ jm_T ∧ Cond.selects iX12_onesOf.1.cls iX12_onesOf.1 iX12_onesOf.1 ∈ jm_T := ⟨jm_tw (n := 1900) (by decide +kernel) rfl, jm_tp (n := 137) (q := (yX12_onesOf, _)) (by rfl)⟩
theorem cwX12_keepsAhead : jm_cw iX12_keepsAhead 0 := ⟨jm_tw (n := 1673) (by decide +kernel) rfl, jm_tw (n := 13) (by decide +kernel) rfl, ⟨by decide +kernel, by decide +kernel, by decide +kernel⟩, by decide⟩
theorem vwX12_keepsAhead : Cond.instanceMethod iX12_keepsAhead.1 ∈ jm_T ∧ Cond.selects iX12_keepsAhead.1.cls iX12_keepsAhead.1 iX12_keepsAhead.1 ∈ jm_T := ⟨jm_tw (n := 1672) (by decide +kernel) rfl, jm_tp (n := 100) (q := (yX12_keepsAhead, _)) (by rfl)⟩
theorem cwX12_undo : jm_cw iX12_undo 0 := ⟨jm_tw (n := 1425) (by decide +kernel) rfl, jm_tw (n := 13) (by decide +kernel) rfl, ⟨by decide +kernel, by decide +kernel, by decide +kernel⟩, by decide⟩
theorem vwX12_undo : Cond.instanceMethod iX12_undo.1 ∈ jm_T ∧ Cond.selects iX12_undo.1.cls iX12_undo.1 iX12_undo.1 ∈ jm_T := ⟨jm_tw (n := 1423) (by decide +kernel) rfl, jm_tw (n := 1424) (by decide +kernel) rfl⟩
theorem cwX12_state : jm_cw iX12_state 1 := ⟨jm_tw (n := 1429) (by decide +kernel) rfl, jm_tw (n := 13) (by decide +kernel) rfl, ⟨by decide +kernel, by decide +kernel, by decide +kernel⟩, by decide⟩
theorem vwX12_state : Cond.instanceMethod iX12_state.1 ∈ jm_T ∧ Cond.selects iX12_state.1.cls iX12_state.1 iX12_state.1 ∈ jm_T := ⟨jm_tw (n := 1427) (by decide +kernel) rfl, jm_tw (n := 1428) (by decide +kernel) rfl⟩
theorem cwX12_draw : jm_cw iX12_draw 1 := ⟨jm_tw (n := 1685) (by decide +kernel) rfl, jm_tw (n := 13) (by decide +kernel) rfl, ⟨by decide +kernel, by decide +kernel, by decide +kernel⟩, by decide⟩
theorem vwX12_draw : Cond.instanceMethod iX12_draw.1 ∈ jm_T ∧ Cond.selects iX12_draw.1.cls iX12_draw.1 iX12_draw.1 ∈ jm_T := ⟨jm_tw (n := 1684) (by decide +kernel) rfl, jm_tp (n := 103) (q := (yX12_draw, _)) (by rfl)⟩
theorem cwX12_soundNow : jm_cw iX12_soundNow 0 := ⟨jm_tw (n := 1845) (by decide +kernel) rfl, jm_tw (n := 13) (by decide +kernel) rfl, ⟨by decide +kernel, by decide +kernel, by decide +kernel⟩, by decide⟩
theorem vwX12_soundNow : Cond.instanceMethod iX12_soundNow.1 ∈ jm_T ∧ Cond.selects iX12_soundNow.1.cls iX12_soundNow.1 iX12_soundNow.1 ∈ jm_T := ⟨jm_tw (n := 1844) (by decide +kernel) rfl, jm_tp (n := 128) (q := (yX12_soundNow, _)) (by rfl)⟩
theorem cwX12_needNow : jm_cw iX12_needNow 0 := ⟨jm_tw (n := 1889) (by decide +kernel) rfl, jm_tw (n := 13) (by decide +kernel) rfl, ⟨by decide +kernel, by decide +kernel, by decide +kernel⟩, by decide⟩
theorem vwX12_needNow : Cond.instanceMethod iX12_needNow.1 ∈ jm_T ∧ Cond.selects iX12_needNow.1.cls iX12_needNow.1 iX12_needNow.1 ∈ jm_T := ⟨jm_tw (n := 1888) (by decide +kernel) rfl, jm_tp (n := 135) (q := (yX12_needNow, _)) (by rfl)⟩
theorem cwX12_flatsNow : jm_cw iX12_flatsNow 0 := ⟨jm_tw (n := 1877) (by decide +kernel) rfl, jm_tw (n := 13) (by decide +kernel) rfl, ⟨by decide +kernel, by decide +kernel, by decide +kernel⟩, by decide⟩
theorem vwX12_flatsNow : Cond.instanceMethod iX12_flatsNow.1 ∈ jm_T ∧ Cond.selects iX12_flatsNow.1.cls iX12_flatsNow.1 iX12_flatsNow.1 ∈ jm_T := ⟨jm_tw (n := 1876) (by decide +kernel) rfl, jm_tp (n := 133) (q := (yX12_flatsNow, _)) (by rfl)⟩
theorem cwX12_isWitness : jm_cw iX12_isWitness 1 := ⟨jm_tw (n := 1445) (by decide +kernel) rfl, jm_tw (n := 13) (by decide +kernel) rfl, ⟨by decide +kernel, by decide +kernel, by decide +kernel⟩, by decide⟩
theorem vwX12_isWitness : Cond.instanceMethod iX12_isWitness.1 ∈ jm_T ∧ Cond.selects iX12_isWitness.1.cls iX12_isWitness.1 iX12_isWitness.1 ∈ jm_T := ⟨jm_tw (n := 1444) (by decide +kernel) rfl, jm_tp (n := 49) (q := (yX12_isWitness, _)) (by rfl)⟩
theorem cwX12_isFact : jm_cw iX12_isFact 1 := ⟨jm_tw (n := 1449) (by decide +kernel) rfl, jm_tw (n := 13) (by decide +kernel) rfl, ⟨by decide +kernel, by decide +kernel, by decide +kernel⟩, by decide⟩
theorem vwX12_isFact : Cond.instanceMethod iX12_isFact.1 ∈ jm_T ∧ Cond.selects iX12_isFact.1.cls iX12_isFact.1 iX12_isFact.1 ∈ jm_T := ⟨jm_tw (n := 1448) (by decide +kernel) rfl, jm_tp (n := 50) (q := (yX12_isFact, _)) (by rfl)⟩
theorem cwX12_nerveOf : jm_cw iX12_nerveOf 1 := ⟨jm_tw (n := 1699) (by decide +kernel) rfl, jm_tw (n := 13) (by decide +kernel) rfl, ⟨by decide +kernel, by decide +kernel, by decide +kernel⟩, by decide⟩
theorem vwX12_nerveOf : Cond.instanceMethod iX12_nerveOf.1 ∈ jm_T ∧ Cond.selects iX12_nerveOf.1.cls iX12_nerveOf.1 iX12_nerveOf.1 ∈ jm_T := ⟨jm_tw (n := 1698) (by decide +kernel) rfl, jm_tp (n := 106) (q := (yX12_nerveOf, _)) (by rfl)⟩
theorem cwX12_nerveBe : jm_cw iX12_nerveBe 2 := ⟨jm_tw (n := 1461) (by decide +kernel) rfl, jm_tw (n := 13) (by decide +kernel) rfl, ⟨by decide +kernel, by decide +kernel, by decide +kernel⟩, by decide⟩
theorem vwX12_nerveBe : Cond.instanceMethod iX12_nerveBe.1 ∈ jm_T ∧ Cond.selects iX12_nerveBe.1.cls iX12_nerveBe.1 iX12_nerveBe.1 ∈ jm_T := ⟨jm_tw (n := 1460) (by decide +kernel) rfl, jm_tp (n := 52) (q := (yX12_nerveBe, _)) (by rfl)⟩
theorem cwX12_claimOf : jm_cw iX12_claimOf 2 := ⟨jm_tw (n := 1649) (by decide +kernel) rfl, jm_tw (n := 13) (by decide +kernel) rfl, ⟨by decide +kernel, by decide +kernel, by decide +kernel⟩, by decide⟩
theorem vwX12_claimOf : Cond.instanceMethod iX12_claimOf.1 ∈ jm_T ∧ Cond.selects iX12_claimOf.1.cls iX12_claimOf.1 iX12_claimOf.1 ∈ jm_T := ⟨jm_tw (n := 1648) (by decide +kernel) rfl, jm_tp (n := 94) (q := (yX12_claimOf, _)) (by rfl)⟩
theorem cwX12_witness : jm_cw iX12_witness 3 := ⟨jm_tw (n := 1433) (by decide +kernel) rfl, jm_tw (n := 13) (by decide +kernel) rfl, ⟨by decide +kernel, by decide +kernel, by decide +kernel⟩, by decide⟩
theorem vwX12_witness : Cond.instanceMethod iX12_witness.1 ∈ jm_T ∧ Cond.selects iX12_witness.1.cls iX12_witness.1 iX12_witness.1 ∈ jm_T := ⟨jm_tw (n := 1431) (by decide +kernel) rfl, jm_tw (n := 1432) (by decide +kernel) rfl⟩
theorem cwX12_claim : jm_cw iX12_claim 3 := ⟨jm_tw (n := 1441) (by decide +kernel) rfl, jm_tw (n := 13) (by decide +kernel) rfl, ⟨by decide +kernel, by decide +kernel, by decide +kernel⟩, by decide⟩
theorem vwX12_claim : Cond.instanceMethod iX12_claim.1 ∈ jm_T ∧ Cond.selects iX12_claim.1.cls iX12_claim.1 iX12_claim.1 ∈ jm_T := ⟨jm_tw (n := 1439) (by decide +kernel) rfl, jm_tw (n := 1440) (by decide +kernel) rfl⟩
theorem cwX12_canSet : jm_cw iX12_canSet 3 := ⟨jm_tw (n := 1457) (by decide +kernel) rfl, jm_tw (n := 13) (by decide +kernel) rfl, ⟨by decide +kernel, by decide +kernel, by decide +kernel⟩, by decide⟩
theorem vwX12_canSet : Cond.instanceMethod iX12_canSet.1 ∈ jm_T ∧ Cond.selects iX12_canSet.1.cls iX12_canSet.1 iX12_canSet.1 ∈ jm_T := ⟨jm_tw (n := 1456) (by decide +kernel) rfl, jm_tp (n := 51) (q := (yX12_canSet, _)) (by rfl)⟩
theorem cwX12_set : jm_cw iX12_set 3 := ⟨jm_tw (n := 1453) (by decide +kernel) rfl, jm_tw (n := 13) (by decide +kernel) rfl, ⟨by decide +kernel, by decide +kernel, by decide +kernel⟩, by decide⟩
theorem vwX12_set : Cond.instanceMethod iX12_set.1 ∈ jm_T ∧ Cond.selects iX12_set.1.cls iX12_set.1 iX12_set.1 ∈ jm_T := ⟨jm_tw (n := 1451) (by decide +kernel) rfl, jm_tw (n := 1452) (by decide +kernel) rfl⟩
theorem cwX12_types : jm_cw iX12_types 1 := ⟨jm_tw (n := 1473) (by decide +kernel) rfl, jm_tw (n := 13) (by decide +kernel) rfl, ⟨by decide +kernel, by decide +kernel, by decide +kernel⟩, by decide⟩
theorem vwX12_types : Cond.instanceMethod iX12_types.1 ∈ jm_T ∧ Cond.selects iX12_types.1.cls iX12_types.1 iX12_types.1 ∈ jm_T := ⟨jm_tw (n := 1472) (by decide +kernel) rfl, jm_tp (n := 54) (q := (yX12_types, _)) (by rfl)⟩
theorem cwX12_feed : jm_cw iX12_feed 5 := ⟨jm_tw (n := 1469) (by decide +kernel) rfl, jm_tw (n := 13) (by decide +kernel) rfl, ⟨by decide +kernel, by decide +kernel, by decide +kernel⟩, by decide⟩
theorem vwX12_feed : Cond.instanceMethod iX12_feed.1 ∈ jm_T ∧ Cond.selects iX12_feed.1.cls iX12_feed.1 iX12_feed.1 ∈ jm_T := ⟨jm_tw (n := 1467) (by decide +kernel) rfl, jm_tw (n := 1468) (by decide +kernel) rfl⟩
theorem cwX12_end : jm_cw iX12_end 1 := ⟨jm_tw (n := 1477) (by decide +kernel) rfl, jm_tw (n := 13) (by decide +kernel) rfl, ⟨by decide +kernel, by decide +kernel, by decide +kernel⟩, by decide⟩
theorem vwX12_end : Cond.instanceMethod iX12_end.1 ∈ jm_T ∧ Cond.selects iX12_end.1.cls iX12_end.1 iX12_end.1 ∈ jm_T := ⟨jm_tw (n := 1475) (by decide +kernel) rfl, jm_tw (n := 1476) (by decide +kernel) rfl⟩
theorem cwX12_raw : jm_cw iX12_raw 1 := ⟨jm_tw (n := 1493) (by decide +kernel) rfl, jm_tw (n := 13) (by decide +kernel) rfl, ⟨by decide +kernel, by decide +kernel, by decide +kernel⟩, by decide⟩
theorem vwX12_raw : Cond.instanceMethod iX12_raw.1 ∈ jm_T ∧ Cond.selects iX12_raw.1.cls iX12_raw.1 iX12_raw.1 ∈ jm_T := ⟨jm_tw (n := 1492) (by decide +kernel) rfl, jm_tp (n := 57) (q := (yX12_raw, _)) (by rfl)⟩
theorem cwX12_isLetter : jm_cw iX12_isLetter 1 := ⟨jm_tw (n := 1497) (by decide +kernel) rfl, jm_tw (n := 13) (by decide +kernel) rfl, ⟨by decide +kernel, by decide +kernel, by decide +kernel⟩, by decide⟩
theorem vwX12_isLetter : Cond.instanceMethod iX12_isLetter.1 ∈ jm_T ∧ Cond.selects iX12_isLetter.1.cls iX12_isLetter.1 iX12_isLetter.1 ∈ jm_T := ⟨jm_tw (n := 1496) (by decide +kernel) rfl, jm_tp (n := 58) (q := (yX12_isLetter, _)) (by rfl)⟩
theorem cwX12_isDigit : jm_cw iX12_isDigit 1 := ⟨jm_tw (n := 1505) (by decide +kernel) rfl, jm_tw (n := 13) (by decide +kernel) rfl, ⟨by decide +kernel, by decide +kernel, by decide +kernel⟩, by decide⟩
theorem vwX12_isDigit : Cond.instanceMethod iX12_isDigit.1 ∈ jm_T ∧ Cond.selects iX12_isDigit.1.cls iX12_isDigit.1 iX12_isDigit.1 ∈ jm_T := ⟨jm_tw (n := 1504) (by decide +kernel) rfl, jm_tp (n := 60) (q := (yX12_isDigit, _)) (by rfl)⟩
theorem cwX12_isMarkSign : jm_cw iX12_isMarkSign 1 := ⟨jm_tw (n := 1509) (by decide +kernel) rfl, jm_tw (n := 13) (by decide +kernel) rfl, ⟨by decide +kernel, by decide +kernel, by decide +kernel⟩, by decide⟩
theorem vwX12_isMarkSign : Cond.instanceMethod iX12_isMarkSign.1 ∈ jm_T ∧ Cond.selects iX12_isMarkSign.1.cls iX12_isMarkSign.1 iX12_isMarkSign.1 ∈ jm_T := ⟨jm_tw (n := 1508) (by decide +kernel) rfl, jm_tp (n := 61) (q := (yX12_isMarkSign, _)) (by rfl)⟩
theorem cwX12_wordAt : jm_cw iX12_wordAt 2 := ⟨jm_tw (n := 1501) (by decide +kernel) rfl, jm_tw (n := 13) (by decide +kernel) rfl, ⟨by decide +kernel, by decide +kernel, by decide +kernel⟩, by decide⟩
theorem vwX12_wordAt : Cond.instanceMethod iX12_wordAt.1 ∈ jm_T ∧ Cond.selects iX12_wordAt.1.cls iX12_wordAt.1 iX12_wordAt.1 ∈ jm_T := ⟨jm_tw (n := 1500) (by decide +kernel) rfl, jm_tp (n := 59) (q := (yX12_wordAt, _)) (by rfl)⟩
theorem cwX12_reads : jm_cw iX12_reads 0 := ⟨jm_tw (n := 1489) (by decide +kernel) rfl, jm_tw (n := 13) (by decide +kernel) rfl, ⟨by decide +kernel, by decide +kernel, by decide +kernel⟩, by decide⟩
theorem vwX12_reads : Cond.instanceMethod iX12_reads.1 ∈ jm_T ∧ Cond.selects iX12_reads.1.cls iX12_reads.1 iX12_reads.1 ∈ jm_T := ⟨jm_tw (n := 1488) (by decide +kernel) rfl, jm_tp (n := 56) (q := (yX12_reads, _)) (by rfl)⟩
theorem cwX12_errs : jm_cw iX12_errs 1 := ⟨jm_tw (n := 1521) (by decide +kernel) rfl, jm_tw (n := 13) (by decide +kernel) rfl, ⟨by decide +kernel, by decide +kernel, by decide +kernel⟩, by decide⟩
theorem vwX12_errs : Cond.instanceMethod iX12_errs.1 ∈ jm_T ∧ Cond.selects iX12_errs.1.cls iX12_errs.1 iX12_errs.1 ∈ jm_T := ⟨jm_tw (n := 1520) (by decide +kernel) rfl, jm_tp (n := 64) (q := (yX12_errs, _)) (by rfl)⟩
theorem cwX12_isWord : jm_cw iX12_isWord 1 := ⟨jm_tw (n := 1517) (by decide +kernel) rfl, jm_tw (n := 13) (by decide +kernel) rfl, ⟨by decide +kernel, by decide +kernel, by decide +kernel⟩, by decide⟩
theorem vwX12_isWord : Cond.instanceMethod iX12_isWord.1 ∈ jm_T ∧ Cond.selects iX12_isWord.1.cls iX12_isWord.1 iX12_isWord.1 ∈ jm_T := ⟨jm_tw (n := 1516) (by decide +kernel) rfl, jm_tp (n := 63) (q := (yX12_isWord, _)) (by rfl)⟩
theorem cwX12_isSign : jm_cw iX12_isSign 1 := ⟨jm_tw (n := 1545) (by decide +kernel) rfl, jm_tw (n := 13) (by decide +kernel) rfl, ⟨by decide +kernel, by decide +kernel, by decide +kernel⟩, by decide⟩
theorem vwX12_isSign : Cond.instanceMethod iX12_isSign.1 ∈ jm_T ∧ Cond.selects iX12_isSign.1.cls iX12_isSign.1 iX12_isSign.1 ∈ jm_T := ⟨jm_tw (n := 1544) (by decide +kernel) rfl, jm_tp (n := 70) (q := (yX12_isSign, _)) (by rfl)⟩
theorem cwX12_emits : jm_cw iX12_emits 2 := ⟨jm_tw (n := 1601) (by decide +kernel) rfl, jm_tw (n := 13) (by decide +kernel) rfl, ⟨by decide +kernel, by decide +kernel, by decide +kernel⟩, by decide⟩
theorem vwX12_emits : Cond.instanceMethod iX12_emits.1 ∈ jm_T ∧ Cond.selects iX12_emits.1.cls iX12_emits.1 iX12_emits.1 ∈ jm_T := ⟨jm_tw (n := 1600) (by decide +kernel) rfl, jm_tp (n := 84) (q := (yX12_emits, _)) (by rfl)⟩
theorem cwX12_canAsk : jm_cw iX12_canAsk 1 := ⟨jm_tw (n := 1597) (by decide +kernel) rfl, jm_tw (n := 13) (by decide +kernel) rfl, ⟨by decide +kernel, by decide +kernel, by decide +kernel⟩, by decide⟩
theorem vwX12_canAsk : Cond.instanceMethod iX12_canAsk.1 ∈ jm_T ∧ Cond.selects iX12_canAsk.1.cls iX12_canAsk.1 iX12_canAsk.1 ∈ jm_T := ⟨jm_tw (n := 1596) (by decide +kernel) rfl, jm_tp (n := 83) (q := (yX12_canAsk, _)) (by rfl)⟩
theorem cwX12_readUnit : jm_cw iX12_readUnit 0 := ⟨jm_tw (n := 1593) (by decide +kernel) rfl, jm_tw (n := 13) (by decide +kernel) rfl, ⟨by decide +kernel, by decide +kernel, by decide +kernel⟩, by decide⟩
theorem vwX12_readUnit : Cond.instanceMethod iX12_readUnit.1 ∈ jm_T ∧ Cond.selects iX12_readUnit.1.cls iX12_readUnit.1 iX12_readUnit.1 ∈ jm_T := ⟨jm_tw (n := 1592) (by decide +kernel) rfl, jm_tp (n := 82) (q := (yX12_readUnit, _)) (by rfl)⟩
theorem cwX12_readProduct : jm_cw iX12_readProduct 0 := ⟨jm_tw (n := 1589) (by decide +kernel) rfl, jm_tw (n := 13) (by decide +kernel) rfl, ⟨by decide +kernel, by decide +kernel, by decide +kernel⟩, by decide⟩
theorem vwX12_readProduct : Cond.instanceMethod iX12_readProduct.1 ∈ jm_T ∧ Cond.selects iX12_readProduct.1.cls iX12_readProduct.1 iX12_readProduct.1 ∈ jm_T := ⟨jm_tw (n := 1588) (by decide +kernel) rfl, jm_tp (n := 81) (q := (yX12_readProduct, _)) (by rfl)⟩
theorem cwX12_readSum : jm_cw iX12_readSum 0 := ⟨jm_tw (n := 1585) (by decide +kernel) rfl, jm_tw (n := 13) (by decide +kernel) rfl, ⟨by decide +kernel, by decide +kernel, by decide +kernel⟩, by decide⟩
theorem vwX12_readSum : Cond.instanceMethod iX12_readSum.1 ∈ jm_T ∧ Cond.selects iX12_readSum.1.cls iX12_readSum.1 iX12_readSum.1 ∈ jm_T := ⟨jm_tw (n := 1584) (by decide +kernel) rfl, jm_tp (n := 80) (q := (yX12_readSum, _)) (by rfl)⟩
theorem cwX12_readCompared : jm_cw iX12_readCompared 0 := ⟨jm_tw (n := 1613) (by decide +kernel) rfl, jm_tw (n := 13) (by decide +kernel) rfl, ⟨by decide +kernel, by decide +kernel, by decide +kernel⟩, by decide⟩
theorem vwX12_readCompared : Cond.instanceMethod iX12_readCompared.1 ∈ jm_T ∧ Cond.selects iX12_readCompared.1.cls iX12_readCompared.1 iX12_readCompared.1 ∈ jm_T := ⟨jm_tw (n := 1612) (by decide +kernel) rfl, jm_tp (n := 87) (q := (yX12_readCompared, _)) (by rfl)⟩
theorem cwX12_waits : jm_cw iX12_waits 1 := ⟨jm_tw (n := 1609) (by decide +kernel) rfl, jm_tw (n := 13) (by decide +kernel) rfl, ⟨by decide +kernel, by decide +kernel, by decide +kernel⟩, by decide⟩
theorem vwX12_waits : Cond.instanceMethod iX12_waits.1 ∈ jm_T ∧ Cond.selects iX12_waits.1.cls iX12_waits.1 iX12_waits.1 ∈ jm_T := ⟨jm_tw (n := 1608) (by decide +kernel) rfl, jm_tp (n := 86) (q := (yX12_waits, _)) (by rfl)⟩
theorem cwX12_settles : jm_cw iX12_settles 1 := ⟨jm_tw (n := 1617) (by decide +kernel) rfl, jm_tw (n := 13) (by decide +kernel) rfl, ⟨by decide +kernel, by decide +kernel, by decide +kernel⟩, by decide⟩
theorem vwX12_settles : Cond.instanceMethod iX12_settles.1 ∈ jm_T ∧ Cond.selects iX12_settles.1.cls iX12_settles.1 iX12_settles.1 ∈ jm_T := ⟨jm_tw (n := 1616) (by decide +kernel) rfl, jm_tp (n := 88) (q := (yX12_settles, _)) (by rfl)⟩
theorem cwX12_readAny : jm_cw iX12_readAny 0 := ⟨jm_tw (n := 1605) (by decide +kernel) rfl, jm_tw (n := 13) (by decide +kernel) rfl, ⟨by decide +kernel, by decide +kernel, by decide +kernel⟩, by decide⟩
theorem vwX12_readAny : Cond.instanceMethod iX12_readAny.1 ∈ jm_T ∧ Cond.selects iX12_readAny.1.cls iX12_readAny.1 iX12_readAny.1 ∈ jm_T := ⟨jm_tw (n := 1604) (by decide +kernel) rfl, jm_tp (n := 85) (q := (yX12_readAny, _)) (by rfl)⟩
theorem cwX12_isLineWord : jm_cw iX12_isLineWord 0 := ⟨jm_tw (n := 1581) (by decide +kernel) rfl, jm_tw (n := 13) (by decide +kernel) rfl, ⟨by decide +kernel, by decide +kernel, by decide +kernel⟩, by decide⟩
theorem vwX12_isLineWord : Cond.instanceMethod iX12_isLineWord.1 ∈ jm_T ∧ Cond.selects iX12_isLineWord.1.cls iX12_isLineWord.1 iX12_isLineWord.1 ∈ jm_T := ⟨jm_tw (n := 1580) (by decide +kernel) rfl, jm_tp (n := 79) (q := (yX12_isLineWord, _)) (by rfl)⟩
theorem cwX12_readLaw : jm_cw iX12_readLaw 0 := ⟨jm_tw (n := 1577) (by decide +kernel) rfl, jm_tw (n := 13) (by decide +kernel) rfl, ⟨by decide +kernel, by decide +kernel, by decide +kernel⟩, by decide⟩
theorem vwX12_readLaw : Cond.instanceMethod iX12_readLaw.1 ∈ jm_T ∧ Cond.selects iX12_readLaw.1.cls iX12_readLaw.1 iX12_readLaw.1 ∈ jm_T := ⟨jm_tw (n := 1576) (by decide +kernel) rfl, jm_tp (n := 78) (q := (yX12_readLaw, _)) (by rfl)⟩
theorem cwX12_takesLaw : jm_cw iX12_takesLaw 1 := ⟨jm_tw (n := 1621) (by decide +kernel) rfl, jm_tw (n := 13) (by decide +kernel) rfl, ⟨by decide +kernel, by decide +kernel, by decide +kernel⟩, by decide⟩
theorem vwX12_takesLaw : Cond.instanceMethod iX12_takesLaw.1 ∈ jm_T ∧ Cond.selects iX12_takesLaw.1.cls iX12_takesLaw.1 iX12_takesLaw.1 ∈ jm_T := ⟨jm_tw (n := 1620) (by decide +kernel) rfl, jm_tp (n := 89) (q := (yX12_takesLaw, _)) (by rfl)⟩
theorem cwX12_readNumber : jm_cw iX12_readNumber 2 := ⟨jm_tw (n := 1533) (by decide +kernel) rfl, jm_tw (n := 13) (by decide +kernel) rfl, ⟨by decide +kernel, by decide +kernel, by decide +kernel⟩, by decide⟩
theorem vwX12_readNumber : Cond.instanceMethod iX12_readNumber.1 ∈ jm_T ∧ Cond.selects iX12_readNumber.1.cls iX12_readNumber.1 iX12_readNumber.1 ∈ jm_T := ⟨jm_tw (n := 1532) (by decide +kernel) rfl, jm_tp (n := 67) (q := (yX12_readNumber, _)) (by rfl)⟩
theorem cwX12_readMark : jm_cw iX12_readMark 1 := ⟨jm_tw (n := 1541) (by decide +kernel) rfl, jm_tw (n := 13) (by decide +kernel) rfl, ⟨by decide +kernel, by decide +kernel, by decide +kernel⟩, by decide⟩
theorem vwX12_readMark : Cond.instanceMethod iX12_readMark.1 ∈ jm_T ∧ Cond.selects iX12_readMark.1.cls iX12_readMark.1 iX12_readMark.1 ∈ jm_T := ⟨jm_tw (n := 1540) (by decide +kernel) rfl, jm_tp (n := 69) (q := (yX12_readMark, _)) (by rfl)⟩
theorem cwX12_readTold : jm_cw iX12_readTold 3 := ⟨jm_tw (n := 1529) (by decide +kernel) rfl, jm_tw (n := 13) (by decide +kernel) rfl, ⟨by decide +kernel, by decide +kernel, by decide +kernel⟩, by decide⟩
theorem vwX12_readTold : Cond.instanceMethod iX12_readTold.1 ∈ jm_T ∧ Cond.selects iX12_readTold.1.cls iX12_readTold.1 iX12_readTold.1 ∈ jm_T := ⟨jm_tw (n := 1528) (by decide +kernel) rfl, jm_tp (n := 66) (q := (yX12_readTold, _)) (by rfl)⟩
theorem cwX12_readStep : jm_cw iX12_readStep 1 := ⟨jm_tw (n := 1537) (by decide +kernel) rfl, jm_tw (n := 13) (by decide +kernel) rfl, ⟨by decide +kernel, by decide +kernel, by decide +kernel⟩, by decide⟩
theorem vwX12_readStep : Cond.instanceMethod iX12_readStep.1 ∈ jm_T ∧ Cond.selects iX12_readStep.1.cls iX12_readStep.1 iX12_readStep.1 ∈ jm_T := ⟨jm_tw (n := 1536) (by decide +kernel) rfl, jm_tp (n := 68) (q := (yX12_readStep, _)) (by rfl)⟩
theorem cwX12_readMotive : jm_cw iX12_readMotive 0 := ⟨jm_tw (n := 1525) (by decide +kernel) rfl, jm_tw (n := 13) (by decide +kernel) rfl, ⟨by decide +kernel, by decide +kernel, by decide +kernel⟩, by decide⟩
theorem vwX12_readMotive : Cond.instanceMethod iX12_readMotive.1 ∈ jm_T ∧ Cond.selects iX12_readMotive.1.cls iX12_readMotive.1 iX12_readMotive.1 ∈ jm_T := ⟨jm_tw (n := 1524) (by decide +kernel) rfl, jm_tp (n := 65) (q := (yX12_readMotive, _)) (by rfl)⟩
theorem cwX12_readMotives : jm_cw iX12_readMotives 0 := ⟨jm_tw (n := 1513) (by decide +kernel) rfl, jm_tw (n := 13) (by decide +kernel) rfl, ⟨by decide +kernel, by decide +kernel, by decide +kernel⟩, by decide⟩
theorem vwX12_readMotives : Cond.instanceMethod iX12_readMotives.1 ∈ jm_T ∧ Cond.selects iX12_readMotives.1.cls iX12_readMotives.1 iX12_readMotives.1 ∈ jm_T := ⟨jm_tw (n := 1512) (by decide +kernel) rfl, jm_tp (n := 62) (q := (yX12_readMotives, _)) (by rfl)⟩
theorem cwX12_emitsStep : jm_cw iX12_emitsStep 4 := ⟨jm_tw (n := 1557) (by decide +kernel) rfl, jm_tw (n := 13) (by decide +kernel) rfl, ⟨by decide +kernel, by decide +kernel, by decide +kernel⟩, by decide⟩
theorem vwX12_emitsStep : Cond.instanceMethod iX12_emitsStep.1 ∈ jm_T ∧ Cond.selects iX12_emitsStep.1.cls iX12_emitsStep.1 iX12_emitsStep.1 ∈ jm_T := ⟨jm_tw (n := 1556) (by decide +kernel) rfl, jm_tp (n := 73) (q := (yX12_emitsStep, _)) (by rfl)⟩
theorem cwX12_readCall : jm_cw iX12_readCall 0 := ⟨jm_tw (n := 1553) (by decide +kernel) rfl, jm_tw (n := 13) (by decide +kernel) rfl, ⟨by decide +kernel, by decide +kernel, by decide +kernel⟩, by decide⟩
theorem vwX12_readCall : Cond.instanceMethod iX12_readCall.1 ∈ jm_T ∧ Cond.selects iX12_readCall.1.cls iX12_readCall.1 iX12_readCall.1 ∈ jm_T := ⟨jm_tw (n := 1552) (by decide +kernel) rfl, jm_tp (n := 72) (q := (yX12_readCall, _)) (by rfl)⟩
theorem cwX12_readCross : jm_cw iX12_readCross 0 := ⟨jm_tw (n := 1561) (by decide +kernel) rfl, jm_tw (n := 13) (by decide +kernel) rfl, ⟨by decide +kernel, by decide +kernel, by decide +kernel⟩, by decide⟩
theorem vwX12_readCross : Cond.instanceMethod iX12_readCross.1 ∈ jm_T ∧ Cond.selects iX12_readCross.1.cls iX12_readCross.1 iX12_readCross.1 ∈ jm_T := ⟨jm_tw (n := 1560) (by decide +kernel) rfl, jm_tp (n := 74) (q := (yX12_readCross, _)) (by rfl)⟩
theorem cwX12_readAgain : jm_cw iX12_readAgain 0 := ⟨jm_tw (n := 1565) (by decide +kernel) rfl, jm_tw (n := 13) (by decide +kernel) rfl, ⟨by decide +kernel, by decide +kernel, by decide +kernel⟩, by decide⟩
theorem vwX12_readAgain : Cond.instanceMethod iX12_readAgain.1 ∈ jm_T ∧ Cond.selects iX12_readAgain.1.cls iX12_readAgain.1 iX12_readAgain.1 ∈ jm_T := ⟨jm_tw (n := 1564) (by decide +kernel) rfl, jm_tp (n := 75) (q := (yX12_readAgain, _)) (by rfl)⟩
theorem cwX12_readOther : jm_cw iX12_readOther 0 := ⟨jm_tw (n := 1569) (by decide +kernel) rfl, jm_tw (n := 13) (by decide +kernel) rfl, ⟨by decide +kernel, by decide +kernel, by decide +kernel⟩, by decide⟩
theorem vwX12_readOther : Cond.instanceMethod iX12_readOther.1 ∈ jm_T ∧ Cond.selects iX12_readOther.1.cls iX12_readOther.1 iX12_readOther.1 ∈ jm_T := ⟨jm_tw (n := 1568) (by decide +kernel) rfl, jm_tp (n := 76) (q := (yX12_readOther, _)) (by rfl)⟩
theorem cwX12_readSteps : jm_cw iX12_readSteps 0 := ⟨jm_tw (n := 1549) (by decide +kernel) rfl, jm_tw (n := 13) (by decide +kernel) rfl, ⟨by decide +kernel, by decide +kernel, by decide +kernel⟩, by decide⟩
theorem vwX12_readSteps : Cond.instanceMethod iX12_readSteps.1 ∈ jm_T ∧ Cond.selects iX12_readSteps.1.cls iX12_readSteps.1 iX12_readSteps.1 ∈ jm_T := ⟨jm_tw (n := 1548) (by decide +kernel) rfl, jm_tp (n := 71) (q := (yX12_readSteps, _)) (by rfl)⟩
theorem cwX12_laysDeeds : jm_cw iX12_laysDeeds 0 := ⟨jm_tw (n := 1573) (by decide +kernel) rfl, jm_tw (n := 13) (by decide +kernel) rfl, ⟨by decide +kernel, by decide +kernel, by decide +kernel⟩, by decide⟩
theorem vwX12_laysDeeds : Cond.instanceMethod iX12_laysDeeds.1 ∈ jm_T ∧ Cond.selects iX12_laysDeeds.1.cls iX12_laysDeeds.1 iX12_laysDeeds.1 ∈ jm_T := ⟨jm_tw (n := 1572) (by decide +kernel) rfl, jm_tp (n := 77) (q := (yX12_laysDeeds, _)) (by rfl)⟩
theorem cwX12_readsText : jm_cw iX12_readsText 1 := ⟨jm_tw (n := 1485) (by decide +kernel) rfl, jm_tw (n := 13) (by decide +kernel) rfl, ⟨by decide +kernel, by decide +kernel, by decide +kernel⟩, by decide⟩
theorem vwX12_readsText : Cond.instanceMethod iX12_readsText.1 ∈ jm_T ∧ Cond.selects iX12_readsText.1.cls iX12_readsText.1 iX12_readsText.1 ∈ jm_T := ⟨jm_tw (n := 1484) (by decide +kernel) rfl, jm_tp (n := 55) (q := (yX12_readsText, _)) (by rfl)⟩
theorem cwX12_takesOther : jm_cw iX12_takesOther 2 := ⟨jm_tw (n := 1625) (by decide +kernel) rfl, jm_tw (n := 13) (by decide +kernel) rfl, ⟨by decide +kernel, by decide +kernel, by decide +kernel⟩, by decide⟩
theorem vwX12_takesOther : Cond.instanceMethod iX12_takesOther.1 ∈ jm_T ∧ Cond.selects iX12_takesOther.1.cls iX12_takesOther.1 iX12_takesOther.1 ∈ jm_T := ⟨jm_tw (n := 1624) (by decide +kernel) rfl, jm_tp (n := 90) (q := (yX12_takesOther, _)) (by rfl)⟩
theorem cwX12_text : jm_cw iX12_text 1 := ⟨jm_tw (n := 1481) (by decide +kernel) rfl, jm_tw (n := 13) (by decide +kernel) rfl, ⟨by decide +kernel, by decide +kernel, by decide +kernel⟩, by decide⟩
theorem vwX12_text : Cond.instanceMethod iX12_text.1 ∈ jm_T ∧ Cond.selects iX12_text.1.cls iX12_text.1 iX12_text.1 ∈ jm_T := ⟨jm_tw (n := 1479) (by decide +kernel) rfl, jm_tw (n := 1480) (by decide +kernel) rfl⟩
theorem cwX12_fault : jm_cw iX12_fault 1 := ⟨jm_tw (n := 1629) (by decide +kernel) rfl, jm_tw (n := 13) (by decide +kernel) rfl, ⟨by decide +kernel, by decide +kernel, by decide +kernel⟩, by decide⟩
theorem vwX12_fault : Cond.instanceMethod iX12_fault.1 ∈ jm_T ∧ Cond.selects iX12_fault.1.cls iX12_fault.1 iX12_fault.1 ∈ jm_T := ⟨jm_tw (n := 1627) (by decide +kernel) rfl, jm_tw (n := 1628) (by decide +kernel) rfl⟩
theorem cwX12_twoOf : jm_cw iX12_twoOf 3 := ⟨jm_tw (n := 1723) (by decide +kernel) rfl, jm_tw (n := 13) (by decide +kernel) rfl, ⟨by decide +kernel, by decide +kernel, by decide +kernel⟩, by decide⟩
theorem vwX12_twoOf : Cond.instanceMethod iX12_twoOf.1 ∈ jm_T ∧ Cond.selects iX12_twoOf.1.cls iX12_twoOf.1 iX12_twoOf.1 ∈ jm_T := ⟨jm_tw (n := 1722) (by decide +kernel) rfl, jm_tp (n := 112) (q := (yX12_twoOf, _)) (by rfl)⟩
theorem cwX12_runs : jm_cw iX12_runs 3 := ⟨jm_tw (n := 1719) (by decide +kernel) rfl, jm_tw (n := 13) (by decide +kernel) rfl, ⟨by decide +kernel, by decide +kernel, by decide +kernel⟩, by decide⟩
theorem vwX12_runs : Cond.instanceMethod iX12_runs.1 ∈ jm_T ∧ Cond.selects iX12_runs.1.cls iX12_runs.1 iX12_runs.1 ∈ jm_T := ⟨jm_tw (n := 1718) (by decide +kernel) rfl, jm_tp (n := 111) (q := (yX12_runs, _)) (by rfl)⟩
theorem cwX12_lineOf : jm_cw iX12_lineOf 1 := ⟨jm_tw (n := 1715) (by decide +kernel) rfl, jm_tw (n := 13) (by decide +kernel) rfl, ⟨by decide +kernel, by decide +kernel, by decide +kernel⟩, by decide⟩
theorem vwX12_lineOf : Cond.instanceMethod iX12_lineOf.1 ∈ jm_T ∧ Cond.selects iX12_lineOf.1.cls iX12_lineOf.1 iX12_lineOf.1 ∈ jm_T := ⟨jm_tw (n := 1714) (by decide +kernel) rfl, jm_tp (n := 110) (q := (yX12_lineOf, _)) (by rfl)⟩
theorem cwX12_ofTestimony : jm_cw iX12_ofTestimony 2 := ⟨jm_tw (n := 1707) (by decide +kernel) rfl, jm_tw (n := 13) (by decide +kernel) rfl, ⟨by decide +kernel, by decide +kernel, by decide +kernel⟩, by decide⟩
theorem vwX12_ofTestimony : Cond.instanceMethod iX12_ofTestimony.1 ∈ jm_T ∧ Cond.selects iX12_ofTestimony.1.cls iX12_ofTestimony.1 iX12_ofTestimony.1 ∈ jm_T := ⟨jm_tw (n := 1706) (by decide +kernel) rfl, jm_tp (n := 108) (q := (yX12_ofTestimony, _)) (by rfl)⟩
theorem cwX12_isTestimony : jm_cw iX12_isTestimony 1 := ⟨jm_tw (n := 1747) (by decide +kernel) rfl, jm_tw (n := 13) (by decide +kernel) rfl, ⟨by decide +kernel, by decide +kernel, by decide +kernel⟩, by decide⟩
theorem vwX12_isTestimony : Cond.instanceMethod iX12_isTestimony.1 ∈ jm_T ∧ Cond.selects iX12_isTestimony.1.cls iX12_isTestimony.1 iX12_isTestimony.1 ∈ jm_T := ⟨jm_tw (n := 1746) (by decide +kernel) rfl, jm_tp (n := 116) (q := (yX12_isTestimony, _)) (by rfl)⟩
theorem cwX12_isStruck : jm_cw iX12_isStruck 1 := ⟨jm_tw (n := 1751) (by decide +kernel) rfl, jm_tw (n := 13) (by decide +kernel) rfl, ⟨by decide +kernel, by decide +kernel, by decide +kernel⟩, by decide⟩
theorem vwX12_isStruck : Cond.instanceMethod iX12_isStruck.1 ∈ jm_T ∧ Cond.selects iX12_isStruck.1.cls iX12_isStruck.1 iX12_isStruck.1 ∈ jm_T := ⟨jm_tw (n := 1750) (by decide +kernel) rfl, jm_tp (n := 117) (q := (yX12_isStruck, _)) (by rfl)⟩
theorem cwX12_sungBy : jm_cw iX12_sungBy 1 := ⟨jm_tw (n := 1703) (by decide +kernel) rfl, jm_tw (n := 13) (by decide +kernel) rfl, ⟨by decide +kernel, by decide +kernel, by decide +kernel⟩, by decide⟩
theorem vwX12_sungBy : Cond.instanceMethod iX12_sungBy.1 ∈ jm_T ∧ Cond.selects iX12_sungBy.1.cls iX12_sungBy.1 iX12_sungBy.1 ∈ jm_T := ⟨jm_tw (n := 1702) (by decide +kernel) rfl, jm_tp (n := 107) (q := (yX12_sungBy, _)) (by rfl)⟩
theorem cwX12_notes : jm_cw iX12_notes 4 := ⟨jm_tw (n := 1731) (by decide +kernel) rfl, jm_tw (n := 13) (by decide +kernel) rfl, ⟨by decide +kernel, by decide +kernel, by decide +kernel⟩, by decide⟩
theorem vwX12_notes : Cond.instanceMethod iX12_notes.1 ∈ jm_T ∧ Cond.selects iX12_notes.1.cls iX12_notes.1 iX12_notes.1 ∈ jm_T := ⟨jm_tw (n := 1730) (by decide +kernel) rfl, jm_tp (n := 114) (q := (yX12_notes, _)) (by rfl)⟩
theorem cwX12_asks : jm_cw iX12_asks 4 := ⟨jm_tw (n := 1695) (by decide +kernel) rfl, jm_tw (n := 13) (by decide +kernel) rfl, ⟨by decide +kernel, by decide +kernel, by decide +kernel⟩, by decide⟩
theorem vwX12_asks : Cond.instanceMethod iX12_asks.1 ∈ jm_T ∧ Cond.selects iX12_asks.1.cls iX12_asks.1 iX12_asks.1 ∈ jm_T := ⟨jm_tw (n := 1694) (by decide +kernel) rfl, jm_tp (n := 105) (q := (yX12_asks, _)) (by rfl)⟩
theorem cwX12_lawTells : jm_cw iX12_lawTells 3 := ⟨jm_tw (n := 1711) (by decide +kernel) rfl, jm_tw (n := 13) (by decide +kernel) rfl, ⟨by decide +kernel, by decide +kernel, by decide +kernel⟩, by decide⟩
theorem vwX12_lawTells : Cond.instanceMethod iX12_lawTells.1 ∈ jm_T ∧ Cond.selects iX12_lawTells.1.cls iX12_lawTells.1 iX12_lawTells.1 ∈ jm_T := ⟨jm_tw (n := 1710) (by decide +kernel) rfl, jm_tp (n := 109) (q := (yX12_lawTells, _)) (by rfl)⟩
theorem cwX12_slipOf : jm_cw iX12_slipOf 5 := ⟨jm_tw (n := 1691) (by decide +kernel) rfl, jm_tw (n := 13) (by decide +kernel) rfl, ⟨by decide +kernel, by decide +kernel, by decide +kernel⟩, by decide⟩
theorem vwX12_slipOf : Cond.instanceMethod iX12_slipOf.1 ∈ jm_T ∧ Cond.selects iX12_slipOf.1.cls iX12_slipOf.1 iX12_slipOf.1 ∈ jm_T := ⟨jm_tw (n := 1690) (by decide +kernel) rfl, jm_tp (n := 104) (q := (yX12_slipOf, _)) (by rfl)⟩
theorem cwX12_shakeOf : jm_cw iX12_shakeOf 3 := ⟨jm_tw (n := 1727) (by decide +kernel) rfl, jm_tw (n := 13) (by decide +kernel) rfl, ⟨by decide +kernel, by decide +kernel, by decide +kernel⟩, by decide⟩
theorem vwX12_shakeOf : Cond.instanceMethod iX12_shakeOf.1 ∈ jm_T ∧ Cond.selects iX12_shakeOf.1.cls iX12_shakeOf.1 iX12_shakeOf.1 ∈ jm_T := ⟨jm_tw (n := 1726) (by decide +kernel) rfl, jm_tp (n := 113) (q := (yX12_shakeOf, _)) (by rfl)⟩
theorem cwX12_weighOf : jm_cw iX12_weighOf 4 := ⟨jm_tw (n := 1791) (by decide +kernel) rfl, jm_tw (n := 13) (by decide +kernel) rfl, ⟨by decide +kernel, by decide +kernel, by decide +kernel⟩, by decide⟩
theorem vwX12_weighOf : Cond.instanceMethod iX12_weighOf.1 ∈ jm_T ∧ Cond.selects iX12_weighOf.1.cls iX12_weighOf.1 iX12_weighOf.1 ∈ jm_T := ⟨jm_tw (n := 1790) (by decide +kernel) rfl, jm_tp (n := 123) (q := (yX12_weighOf, _)) (by rfl)⟩
theorem cwX12_notesOf : jm_cw iX12_notesOf 1 := ⟨jm_tw (n := 1653) (by decide +kernel) rfl, jm_tw (n := 13) (by decide +kernel) rfl, ⟨by decide +kernel, by decide +kernel, by decide +kernel⟩, by decide⟩
theorem vwX12_notesOf : Cond.instanceMethod iX12_notesOf.1 ∈ jm_T ∧ Cond.selects iX12_notesOf.1.cls iX12_notesOf.1 iX12_notesOf.1 ∈ jm_T := ⟨jm_tw (n := 1652) (by decide +kernel) rfl, jm_tp (n := 95) (q := (yX12_notesOf, _)) (by rfl)⟩
theorem cwX12_stepOf : jm_cw iX12_stepOf 2 := ⟨jm_tw (n := 1665) (by decide +kernel) rfl, jm_tw (n := 13) (by decide +kernel) rfl, ⟨by decide +kernel, by decide +kernel, by decide +kernel⟩, by decide⟩
theorem vwX12_stepOf : Cond.instanceMethod iX12_stepOf.1 ∈ jm_T ∧ Cond.selects iX12_stepOf.1.cls iX12_stepOf.1 iX12_stepOf.1 ∈ jm_T := ⟨jm_tw (n := 1664) (by decide +kernel) rfl, jm_tp (n := 98) (q := (yX12_stepOf, _)) (by rfl)⟩
theorem cwX12_aboveOf : jm_cw iX12_aboveOf 2 := ⟨jm_tw (n := 1661) (by decide +kernel) rfl, jm_tw (n := 13) (by decide +kernel) rfl, ⟨by decide +kernel, by decide +kernel, by decide +kernel⟩, by decide⟩
theorem vwX12_aboveOf : Cond.instanceMethod iX12_aboveOf.1 ∈ jm_T ∧ Cond.selects iX12_aboveOf.1.cls iX12_aboveOf.1 iX12_aboveOf.1 ∈ jm_T := ⟨jm_tw (n := 1660) (by decide +kernel) rfl, jm_tp (n := 97) (q := (yX12_aboveOf, _)) (by rfl)⟩
theorem cwX12_canSing : jm_cw iX12_canSing 4 := ⟨jm_tw (n := 1657) (by decide +kernel) rfl, jm_tw (n := 13) (by decide +kernel) rfl, ⟨by decide +kernel, by decide +kernel, by decide +kernel⟩, by decide⟩
theorem vwX12_canSing : Cond.instanceMethod iX12_canSing.1 ∈ jm_T ∧ Cond.selects iX12_canSing.1.cls iX12_canSing.1 iX12_canSing.1 ∈ jm_T := ⟨jm_tw (n := 1656) (by decide +kernel) rfl, jm_tp (n := 96) (q := (yX12_canSing, _)) (by rfl)⟩
theorem cwX12_motiveOf : jm_cw iX12_motiveOf 2 := ⟨jm_tw (n := 1645) (by decide +kernel) rfl, jm_tw (n := 13) (by decide +kernel) rfl, ⟨by decide +kernel, by decide +kernel, by decide +kernel⟩, by decide⟩
theorem vwX12_motiveOf : Cond.instanceMethod iX12_motiveOf.1 ∈ jm_T ∧ Cond.selects iX12_motiveOf.1.cls iX12_motiveOf.1 iX12_motiveOf.1 ∈ jm_T := ⟨jm_tw (n := 1644) (by decide +kernel) rfl, jm_tp (n := 93) (q := (yX12_motiveOf, _)) (by rfl)⟩
theorem cwX12_isSung : jm_cw iX12_isSung 3 := ⟨jm_tw (n := 1641) (by decide +kernel) rfl, jm_tw (n := 13) (by decide +kernel) rfl, ⟨by decide +kernel, by decide +kernel, by decide +kernel⟩, by decide⟩
theorem vwX12_isSung : Cond.instanceMethod iX12_isSung.1 ∈ jm_T ∧ Cond.selects iX12_isSung.1.cls iX12_isSung.1 iX12_isSung.1 ∈ jm_T := ⟨jm_tw (n := 1640) (by decide +kernel) rfl, jm_tp (n := 92) (q := (yX12_isSung, _)) (by rfl)⟩
theorem cwX12_barsFor : jm_cw iX12_barsFor 2 := ⟨jm_tw (n := 1669) (by decide +kernel) rfl, jm_tw (n := 13) (by decide +kernel) rfl, ⟨by decide +kernel, by decide +kernel, by decide +kernel⟩, by decide⟩
theorem vwX12_barsFor : Cond.instanceMethod iX12_barsFor.1 ∈ jm_T ∧ Cond.selects iX12_barsFor.1.cls iX12_barsFor.1 iX12_barsFor.1 ∈ jm_T := ⟨jm_tw (n := 1668) (by decide +kernel) rfl, jm_tp (n := 99) (q := (yX12_barsFor, _)) (by rfl)⟩
theorem cwX12_canCall : jm_cw iX12_canCall 3 := ⟨jm_tw (n := 1637) (by decide +kernel) rfl, jm_tw (n := 13) (by decide +kernel) rfl, ⟨by decide +kernel, by decide +kernel, by decide +kernel⟩, by decide⟩
theorem vwX12_canCall : Cond.instanceMethod iX12_canCall.1 ∈ jm_T ∧ Cond.selects iX12_canCall.1.cls iX12_canCall.1 iX12_canCall.1 ∈ jm_T := ⟨jm_tw (n := 1636) (by decide +kernel) rfl, jm_tp (n := 91) (q := (yX12_canCall, _)) (by rfl)⟩
theorem cwX12_bars : jm_cw iX12_bars 1 := ⟨jm_tw (n := 1681) (by decide +kernel) rfl, jm_tw (n := 13) (by decide +kernel) rfl, ⟨by decide +kernel, by decide +kernel, by decide +kernel⟩, by decide⟩
theorem vwX12_bars : Cond.instanceMethod iX12_bars.1 ∈ jm_T ∧ Cond.selects iX12_bars.1.cls iX12_bars.1 iX12_bars.1 ∈ jm_T := ⟨jm_tw (n := 1680) (by decide +kernel) rfl, jm_tp (n := 102) (q := (yX12_bars, _)) (by rfl)⟩
theorem cwX12_sings : jm_cw iX12_sings 3 := ⟨jm_tw (n := 1677) (by decide +kernel) rfl, jm_tw (n := 13) (by decide +kernel) rfl, ⟨by decide +kernel, by decide +kernel, by decide +kernel⟩, by decide⟩
theorem vwX12_sings : Cond.instanceMethod iX12_sings.1 ∈ jm_T ∧ Cond.selects iX12_sings.1.cls iX12_sings.1 iX12_sings.1 ∈ jm_T := ⟨jm_tw (n := 1676) (by decide +kernel) rfl, jm_tp (n := 101) (q := (yX12_sings, _)) (by rfl)⟩
theorem cwX12_crosses : jm_cw iX12_crosses 1 := ⟨jm_tw (n := 1739) (by decide +kernel) rfl, jm_tw (n := 13) (by decide +kernel) rfl, ⟨by decide +kernel, by decide +kernel, by decide +kernel⟩, by decide⟩
theorem vwX12_crosses : Cond.instanceMethod iX12_crosses.1 ∈ jm_T ∧ Cond.selects iX12_crosses.1.cls iX12_crosses.1 iX12_crosses.1 ∈ jm_T := ⟨jm_tw (n := 1738) (by decide +kernel) rfl, jm_tp (n := 115) (q := (yX12_crosses, _)) (by rfl)⟩
theorem cwX12_hoarseMany : jm_cw iX12_hoarseMany 0 := ⟨jm_tw (n := 1763) (by decide +kernel) rfl, jm_tw (n := 13) (by decide +kernel) rfl, ⟨by decide +kernel, by decide +kernel, by decide +kernel⟩, by decide⟩
theorem vwX12_hoarseMany : Cond.instanceMethod iX12_hoarseMany.1 ∈ jm_T ∧ Cond.selects iX12_hoarseMany.1.cls iX12_hoarseMany.1 iX12_hoarseMany.1 ∈ jm_T := ⟨jm_tw (n := 1762) (by decide +kernel) rfl, jm_tp (n := 119) (q := (yX12_hoarseMany, _)) (by rfl)⟩
theorem cwX12_restsDay : jm_cw iX12_restsDay 0 := ⟨jm_tw (n := 1759) (by decide +kernel) rfl, jm_tw (n := 13) (by decide +kernel) rfl, ⟨by decide +kernel, by decide +kernel, by decide +kernel⟩, by decide⟩
theorem vwX12_restsDay : Cond.instanceMethod iX12_restsDay.1 ∈ jm_T ∧ Cond.selects iX12_restsDay.1.cls iX12_restsDay.1 iX12_restsDay.1 ∈ jm_T := ⟨jm_tw (n := 1758) (by decide +kernel) rfl, jm_tp (n := 118) (q := (yX12_restsDay, _)) (by rfl)⟩
theorem cwX12_call : jm_cw iX12_call 3 := ⟨jm_tw (n := 1633) (by decide +kernel) rfl, jm_tw (n := 13) (by decide +kernel) rfl, ⟨by decide +kernel, by decide +kernel, by decide +kernel⟩, by decide⟩
theorem vwX12_call : Cond.instanceMethod iX12_call.1 ∈ jm_T ∧ Cond.selects iX12_call.1.cls iX12_call.1 iX12_call.1 ∈ jm_T := ⟨jm_tw (n := 1631) (by decide +kernel) rfl, jm_tw (n := 1632) (by decide +kernel) rfl⟩
theorem cwX12_cross : jm_cw iX12_cross 1 := ⟨jm_tw (n := 1735) (by decide +kernel) rfl, jm_tw (n := 13) (by decide +kernel) rfl, ⟨by decide +kernel, by decide +kernel, by decide +kernel⟩, by decide⟩
theorem vwX12_cross : Cond.instanceMethod iX12_cross.1 ∈ jm_T ∧ Cond.selects iX12_cross.1.cls iX12_cross.1 iX12_cross.1 ∈ jm_T := ⟨jm_tw (n := 1733) (by decide +kernel) rfl, jm_tw (n := 1734) (by decide +kernel) rfl⟩
theorem cwX12_strike : jm_cw iX12_strike 1 := ⟨jm_tw (n := 1743) (by decide +kernel) rfl, jm_tw (n := 13) (by decide +kernel) rfl, ⟨by decide +kernel, by decide +kernel, by decide +kernel⟩, by decide⟩
theorem vwX12_strike : Cond.instanceMethod iX12_strike.1 ∈ jm_T ∧ Cond.selects iX12_strike.1.cls iX12_strike.1 iX12_strike.1 ∈ jm_T := ⟨jm_tw (n := 1741) (by decide +kernel) rfl, jm_tw (n := 1742) (by decide +kernel) rfl⟩
theorem cwX12_days : jm_cw iX12_days 1 := ⟨jm_tw (n := 1755) (by decide +kernel) rfl, jm_tw (n := 13) (by decide +kernel) rfl, ⟨by decide +kernel, by decide +kernel, by decide +kernel⟩, by decide⟩
theorem vwX12_days : Cond.instanceMethod iX12_days.1 ∈ jm_T ∧ Cond.selects iX12_days.1.cls iX12_days.1 iX12_days.1 ∈ jm_T := ⟨jm_tw (n := 1753) (by decide +kernel) rfl, jm_tw (n := 1754) (by decide +kernel) rfl⟩
theorem cwX12_ofDeed : jm_cw iX12_ofDeed 2 := ⟨jm_tw (n := 1775) (by decide +kernel) rfl, jm_tw (n := 13) (by decide +kernel) rfl, ⟨by decide +kernel, by decide +kernel, by decide +kernel⟩, by decide⟩
theorem vwX12_ofDeed : Cond.instanceMethod iX12_ofDeed.1 ∈ jm_T ∧ Cond.selects iX12_ofDeed.1.cls iX12_ofDeed.1 iX12_ofDeed.1 ∈ jm_T := ⟨jm_tw (n := 1774) (by decide +kernel) rfl, jm_tp (n := 121) (q := (yX12_ofDeed, _)) (by rfl)⟩
theorem cwX12_restsOfTrial : jm_cw iX12_restsOfTrial 0 := ⟨jm_tw (n := 1771) (by decide +kernel) rfl, jm_tw (n := 13) (by decide +kernel) rfl, ⟨by decide +kernel, by decide +kernel, by decide +kernel⟩, by decide⟩
theorem vwX12_restsOfTrial : Cond.instanceMethod iX12_restsOfTrial.1 ∈ jm_T ∧ Cond.selects iX12_restsOfTrial.1.cls iX12_restsOfTrial.1 iX12_restsOfTrial.1 ∈ jm_T := ⟨jm_tw (n := 1770) (by decide +kernel) rfl, jm_tp (n := 120) (q := (yX12_restsOfTrial, _)) (by rfl)⟩
theorem cwX12_isDone : jm_cw iX12_isDone 1 := ⟨jm_tw (n := 1779) (by decide +kernel) rfl, jm_tw (n := 13) (by decide +kernel) rfl, ⟨by decide +kernel, by decide +kernel, by decide +kernel⟩, by decide⟩
theorem vwX12_isDone : Cond.instanceMethod iX12_isDone.1 ∈ jm_T ∧ Cond.selects iX12_isDone.1.cls iX12_isDone.1 iX12_isDone.1 ∈ jm_T := ⟨jm_tw (n := 1778) (by decide +kernel) rfl, jm_tp (n := 122) (q := (yX12_isDone, _)) (by rfl)⟩
theorem cwX12_trial : jm_cw iX12_trial 0 := ⟨jm_tw (n := 1767) (by decide +kernel) rfl, jm_tw (n := 13) (by decide +kernel) rfl, ⟨by decide +kernel, by decide +kernel, by decide +kernel⟩, by decide⟩
theorem vwX12_trial : Cond.instanceMethod iX12_trial.1 ∈ jm_T ∧ Cond.selects iX12_trial.1.cls iX12_trial.1 iX12_trial.1 ∈ jm_T := ⟨jm_tw (n := 1765) (by decide +kernel) rfl, jm_tw (n := 1766) (by decide +kernel) rfl⟩
theorem cwX12_of : jm_cw iX12_of 2 := ⟨jm_tw (n := 1783) (by decide +kernel) rfl, jm_tw (n := 13) (by decide +kernel) rfl, ⟨by decide +kernel, by decide +kernel, by decide +kernel⟩, by decide⟩
theorem vwX12_of : Cond.instanceMethod iX12_of.1 ∈ jm_T ∧ Cond.selects iX12_of.1.cls iX12_of.1 iX12_of.1 ∈ jm_T := ⟨jm_tw (n := 1781) (by decide +kernel) rfl, jm_tw (n := 1782) (by decide +kernel) rfl⟩
theorem cwX12_testimony : jm_cw iX12_testimony 2 := ⟨jm_tw (n := 1787) (by decide +kernel) rfl, jm_tw (n := 13) (by decide +kernel) rfl, ⟨by decide +kernel, by decide +kernel, by decide +kernel⟩, by decide⟩
theorem vwX12_testimony : Cond.instanceMethod iX12_testimony.1 ∈ jm_T ∧ Cond.selects iX12_testimony.1.cls iX12_testimony.1 iX12_testimony.1 ∈ jm_T := ⟨jm_tw (n := 1785) (by decide +kernel) rfl, jm_tw (n := 1786) (by decide +kernel) rfl⟩
theorem cwX12_bar : jm_cw iX12_bar 1 := ⟨jm_tw (n := 1795) (by decide +kernel) rfl, jm_tw (n := 13) (by decide +kernel) rfl, ⟨by decide +kernel, by decide +kernel, by decide +kernel⟩, by decide⟩
theorem vwX12_bar : Cond.instanceMethod iX12_bar.1 ∈ jm_T ∧ Cond.selects iX12_bar.1.cls iX12_bar.1 iX12_bar.1 ∈ jm_T := ⟨jm_tw (n := 1793) (by decide +kernel) rfl, jm_tw (n := 1794) (by decide +kernel) rfl⟩
theorem cwX12_motive : jm_cw iX12_motive 2 := ⟨jm_tw (n := 1799) (by decide +kernel) rfl, jm_tw (n := 13) (by decide +kernel) rfl, ⟨by decide +kernel, by decide +kernel, by decide +kernel⟩, by decide⟩
theorem vwX12_motive : Cond.instanceMethod iX12_motive.1 ∈ jm_T ∧ Cond.selects iX12_motive.1.cls iX12_motive.1 iX12_motive.1 ∈ jm_T := ⟨jm_tw (n := 1797) (by decide +kernel) rfl, jm_tw (n := 1798) (by decide +kernel) rfl⟩
theorem cwX12_book : jm_cw iX12_book 2 := ⟨jm_tw (n := 1803) (by decide +kernel) rfl, jm_tw (n := 13) (by decide +kernel) rfl, ⟨by decide +kernel, by decide +kernel, by decide +kernel⟩, by decide⟩
theorem vwX12_book : Cond.instanceMethod iX12_book.1 ∈ jm_T ∧ Cond.selects iX12_book.1.cls iX12_book.1 iX12_book.1 ∈ jm_T := ⟨jm_tw (n := 1801) (by decide +kernel) rfl, jm_tw (n := 1802) (by decide +kernel) rfl⟩
theorem cwX12_findsKeys : jm_cw iX12_findsKeys 2 := ⟨jm_tw (n := 1811) (by decide +kernel) rfl, jm_tw (n := 13) (by decide +kernel) rfl, ⟨by decide +kernel, by decide +kernel, by decide +kernel⟩, by decide⟩
theorem vwX12_findsKeys : Cond.instanceMethod iX12_findsKeys.1 ∈ jm_T ∧ Cond.selects iX12_findsKeys.1.cls iX12_findsKeys.1 iX12_findsKeys.1 ∈ jm_T := ⟨jm_tw (n := 1810) (by decide +kernel) rfl, jm_tp (n := 124) (q := (yX12_findsKeys, _)) (by rfl)⟩
theorem cwX12_keys : jm_cw iX12_keys 3 := ⟨jm_tw (n := 1807) (by decide +kernel) rfl, jm_tw (n := 13) (by decide +kernel) rfl, ⟨by decide +kernel, by decide +kernel, by decide +kernel⟩, by decide⟩
theorem vwX12_keys : Cond.instanceMethod iX12_keys.1 ∈ jm_T ∧ Cond.selects iX12_keys.1.cls iX12_keys.1 iX12_keys.1 ∈ jm_T := ⟨jm_tw (n := 1805) (by decide +kernel) rfl, jm_tw (n := 1806) (by decide +kernel) rfl⟩
theorem cwX12_fair : jm_cw iX12_fair 4 := ⟨jm_tw (n := 1815) (by decide +kernel) rfl, jm_tw (n := 13) (by decide +kernel) rfl, ⟨by decide +kernel, by decide +kernel, by decide +kernel⟩, by decide⟩
theorem vwX12_fair : Cond.instanceMethod iX12_fair.1 ∈ jm_T ∧ Cond.selects iX12_fair.1.cls iX12_fair.1 iX12_fair.1 ∈ jm_T := ⟨jm_tw (n := 1813) (by decide +kernel) rfl, jm_tw (n := 1814) (by decide +kernel) rfl⟩
theorem cwX12_heard : jm_cw iX12_heard 1 := ⟨jm_tw (n := 1821) (by decide +kernel) rfl, jm_tw (n := 13) (by decide +kernel) rfl, ⟨by decide +kernel, by decide +kernel, by decide +kernel⟩, by decide⟩
theorem vwX12_heard : Cond.instanceMethod iX12_heard.1 ∈ jm_T ∧ Cond.selects iX12_heard.1.cls iX12_heard.1 iX12_heard.1 ∈ jm_T := ⟨jm_tw (n := 1819) (by decide +kernel) rfl, jm_tw (n := 1820) (by decide +kernel) rfl⟩
theorem cwX12_unlikeTo : jm_cw iX12_unlikeTo 1 := ⟨jm_tw (n := 1829) (by decide +kernel) rfl, jm_tw (n := 13) (by decide +kernel) rfl, ⟨by decide +kernel, by decide +kernel, by decide +kernel⟩, by decide⟩
theorem vwX12_unlikeTo : Cond.instanceMethod iX12_unlikeTo.1 ∈ jm_T ∧ Cond.selects iX12_unlikeTo.1.cls iX12_unlikeTo.1 iX12_unlikeTo.1 ∈ jm_T := ⟨jm_tw (n := 1828) (by decide +kernel) rfl, jm_tp (n := 125) (q := (yX12_unlikeTo, _)) (by rfl)⟩
theorem cwX12_read : jm_cw iX12_read 2 := ⟨jm_tw (n := 1825) (by decide +kernel) rfl, jm_tw (n := 13) (by decide +kernel) rfl, ⟨by decide +kernel, by decide +kernel, by decide +kernel⟩, by decide⟩
theorem vwX12_read : Cond.instanceMethod iX12_read.1 ∈ jm_T ∧ Cond.selects iX12_read.1.cls iX12_read.1 iX12_read.1 ∈ jm_T := ⟨jm_tw (n := 1823) (by decide +kernel) rfl, jm_tw (n := 1824) (by decide +kernel) rfl⟩
theorem cwX12_doSound : jm_cw iX12_doSound 2 := ⟨jm_tw (n := 1841) (by decide +kernel) rfl, jm_tw (n := 13) (by decide +kernel) rfl, ⟨by decide +kernel, by decide +kernel, by decide +kernel⟩, by decide⟩
theorem vwX12_doSound : Cond.instanceMethod iX12_doSound.1 ∈ jm_T ∧ Cond.selects iX12_doSound.1.cls iX12_doSound.1 iX12_doSound.1 ∈ jm_T := ⟨jm_tw (n := 1840) (by decide +kernel) rfl, jm_tp (n := 127) (q := (yX12_doSound, _)) (by rfl)⟩
theorem cwX12_duet : jm_cw iX12_duet 2 := ⟨jm_tw (n := 1837) (by decide +kernel) rfl, jm_tw (n := 13) (by decide +kernel) rfl, ⟨by decide +kernel, by decide +kernel, by decide +kernel⟩, by decide⟩
theorem vwX12_duet : Cond.instanceMethod iX12_duet.1 ∈ jm_T ∧ Cond.selects iX12_duet.1.cls iX12_duet.1 iX12_duet.1 ∈ jm_T := ⟨jm_tw (n := 1835) (by decide +kernel) rfl, jm_tw (n := 1836) (by decide +kernel) rfl⟩
theorem cwX12_soundsWith : jm_cw iX12_soundsWith 3 := ⟨jm_tw (n := 1857) (by decide +kernel) rfl, jm_tw (n := 13) (by decide +kernel) rfl, ⟨by decide +kernel, by decide +kernel, by decide +kernel⟩, by decide⟩
theorem vwX12_soundsWith : Cond.instanceMethod iX12_soundsWith.1 ∈ jm_T ∧ Cond.selects iX12_soundsWith.1.cls iX12_soundsWith.1 iX12_soundsWith.1 ∈ jm_T := ⟨jm_tw (n := 1856) (by decide +kernel) rfl, jm_tp (n := 130) (q := (yX12_soundsWith, _)) (by rfl)⟩
theorem cwX12_best : jm_cw iX12_best 4 := ⟨jm_tw (n := 1853) (by decide +kernel) rfl, jm_tw (n := 13) (by decide +kernel) rfl, ⟨by decide +kernel, by decide +kernel, by decide +kernel⟩, by decide⟩
theorem vwX12_best : Cond.instanceMethod iX12_best.1 ∈ jm_T ∧ Cond.selects iX12_best.1.cls iX12_best.1 iX12_best.1 ∈ jm_T := ⟨jm_tw (n := 1851) (by decide +kernel) rfl, jm_tw (n := 1852) (by decide +kernel) rfl⟩
theorem cwX12_canon : jm_cw iX12_canon 2 := ⟨jm_tw (n := 1865) (by decide +kernel) rfl, jm_tw (n := 13) (by decide +kernel) rfl, ⟨by decide +kernel, by decide +kernel, by decide +kernel⟩, by decide⟩
theorem vwX12_canon : Cond.instanceMethod iX12_canon.1 ∈ jm_T ∧ Cond.selects iX12_canon.1.cls iX12_canon.1 iX12_canon.1 ∈ jm_T := ⟨jm_tw (n := 1863) (by decide +kernel) rfl, jm_tw (n := 1864) (by decide +kernel) rfl⟩
theorem cwX12_weighedFor : jm_cw iX12_weighedFor 2 := ⟨jm_tw (n := 1873) (by decide +kernel) rfl, jm_tw (n := 13) (by decide +kernel) rfl, ⟨by decide +kernel, by decide +kernel, by decide +kernel⟩, by decide⟩
theorem vwX12_weighedFor : Cond.instanceMethod iX12_weighedFor.1 ∈ jm_T ∧ Cond.selects iX12_weighedFor.1.cls iX12_weighedFor.1 iX12_weighedFor.1 ∈ jm_T := ⟨jm_tw (n := 1872) (by decide +kernel) rfl, jm_tp (n := 132) (q := (yX12_weighedFor, _)) (by rfl)⟩
theorem cwX12_isFoundWith : jm_cw iX12_isFoundWith 3 := ⟨jm_tw (n := 1885) (by decide +kernel) rfl, jm_tw (n := 13) (by decide +kernel) rfl, ⟨by decide +kernel, by decide +kernel, by decide +kernel⟩, by decide⟩
theorem vwX12_isFoundWith : Cond.instanceMethod iX12_isFoundWith.1 ∈ jm_T ∧ Cond.selects iX12_isFoundWith.1.cls iX12_isFoundWith.1 iX12_isFoundWith.1 ∈ jm_T := ⟨jm_tw (n := 1884) (by decide +kernel) rfl, jm_tp (n := 134) (q := (yX12_isFoundWith, _)) (by rfl)⟩
theorem cwX12_weighed : jm_cw iX12_weighed 2 := ⟨jm_tw (n := 1869) (by decide +kernel) rfl, jm_tw (n := 13) (by decide +kernel) rfl, ⟨by decide +kernel, by decide +kernel, by decide +kernel⟩, by decide⟩
theorem vwX12_weighed : Cond.instanceMethod iX12_weighed.1 ∈ jm_T ∧ Cond.selects iX12_weighed.1.cls iX12_weighed.1 iX12_weighed.1 ∈ jm_T := ⟨jm_tw (n := 1867) (by decide +kernel) rfl, jm_tw (n := 1868) (by decide +kernel) rfl⟩
theorem cwX12_found : jm_cw iX12_found 1 := ⟨jm_tw (n := 1881) (by decide +kernel) rfl, jm_tw (n := 13) (by decide +kernel) rfl, ⟨by decide +kernel, by decide +kernel, by decide +kernel⟩, by decide⟩
theorem vwX12_found : Cond.instanceMethod iX12_found.1 ∈ jm_T ∧ Cond.selects iX12_found.1.cls iX12_found.1 iX12_found.1 ∈ jm_T := ⟨jm_tw (n := 1879) (by decide +kernel) rfl, jm_tw (n := 1880) (by decide +kernel) rfl⟩
theorem cwX12_singersFor : jm_cw iX12_singersFor 2 := ⟨jm_tw (n := 1897) (by decide +kernel) rfl, jm_tw (n := 13) (by decide +kernel) rfl, ⟨by decide +kernel, by decide +kernel, by decide +kernel⟩, by decide⟩
theorem vwX12_singersFor : Cond.instanceMethod iX12_singersFor.1 ∈ jm_T ∧ Cond.selects iX12_singersFor.1.cls iX12_singersFor.1 iX12_singersFor.1 ∈ jm_T := ⟨jm_tw (n := 1896) (by decide +kernel) rfl, jm_tp (n := 136) (q := (yX12_singersFor, _)) (by rfl)⟩
theorem cwX12_calls : jm_cw iX12_calls 3 := ⟨jm_tw (n := 1893) (by decide +kernel) rfl, jm_tw (n := 13) (by decide +kernel) rfl, ⟨by decide +kernel, by decide +kernel, by decide +kernel⟩, by decide⟩
theorem vwX12_calls : Cond.instanceMethod iX12_calls.1 ∈ jm_T ∧ Cond.selects iX12_calls.1.cls iX12_calls.1 iX12_calls.1 ∈ jm_T := ⟨jm_tw (n := 1891) (by decide +kernel) rfl, jm_tw (n := 1892) (by decide +kernel) rfl⟩
theorem cwX12_doAgree : jm_cw iX12_doAgree 2 := ⟨jm_tw (n := 1913) (by decide +kernel) rfl, jm_tw (n := 13) (by decide +kernel) rfl, ⟨by decide +kernel, by decide +kernel, by decide +kernel⟩, by decide⟩
theorem vwX12_doAgree : Cond.instanceMethod iX12_doAgree.1 ∈ jm_T ∧ Cond.selects iX12_doAgree.1.cls iX12_doAgree.1 iX12_doAgree.1 ∈ jm_T := ⟨jm_tw (n := 1912) (by decide +kernel) rfl, jm_tp (n := 139) (q := (yX12_doAgree, _)) (by rfl)⟩
theorem cwX12_isChoir : jm_cw iX12_isChoir 1 := ⟨jm_tw (n := 1909) (by decide +kernel) rfl, jm_tw (n := 13) (by decide +kernel) rfl, ⟨by decide +kernel, by decide +kernel, by decide +kernel⟩, by decide⟩
theorem vwX12_isChoir : Cond.instanceMethod iX12_isChoir.1 ∈ jm_T ∧ Cond.selects iX12_isChoir.1.cls iX12_isChoir.1 iX12_isChoir.1 ∈ jm_T := ⟨jm_tw (n := 1908) (by decide +kernel) rfl, jm_tp (n := 138) (q := (yX12_isChoir, _)) (by rfl)⟩
theorem cwX12_choir : jm_cw iX12_choir 1 := ⟨jm_tw (n := 1905) (by decide +kernel) rfl, jm_tw (n := 13) (by decide +kernel) rfl, ⟨by decide +kernel, by decide +kernel, by decide +kernel⟩, by decide⟩
theorem vwX12_choir : Cond.instanceMethod iX12_choir.1 ∈ jm_T ∧ Cond.selects iX12_choir.1.cls iX12_choir.1 iX12_choir.1 ∈ jm_T := ⟨jm_tw (n := 1903) (by decide +kernel) rfl, jm_tw (n := 1904) (by decide +kernel) rfl⟩
theorem cwX12_valueIn : jm_cw iX12_valueIn 2 := ⟨jm_tw (n := 1929) (by decide +kernel) rfl, jm_tw (n := 13) (by decide +kernel) rfl, ⟨by decide +kernel, by decide +kernel, by decide +kernel⟩, by decide⟩
theorem vwX12_valueIn : Cond.instanceMethod iX12_valueIn.1 ∈ jm_T ∧ Cond.selects iX12_valueIn.1.cls iX12_valueIn.1 iX12_valueIn.1 ∈ jm_T := ⟨jm_tw (n := 1928) (by decide +kernel) rfl, jm_tp (n := 142) (q := (yX12_valueIn, _)) (by rfl)⟩
theorem cwX12_liarsIn : jm_cw iX12_liarsIn 1 := ⟨jm_tw (n := 1925) (by decide +kernel) rfl, jm_tw (n := 13) (by decide +kernel) rfl, ⟨by decide +kernel, by decide +kernel, by decide +kernel⟩, by decide⟩
theorem vwX12_liarsIn : Cond.instanceMethod iX12_liarsIn.1 ∈ jm_T ∧ Cond.selects iX12_liarsIn.1.cls iX12_liarsIn.1 iX12_liarsIn.1 ∈ jm_T := ⟨jm_tw (n := 1924) (by decide +kernel) rfl, jm_tp (n := 141) (q := (yX12_liarsIn, _)) (by rfl)⟩
theorem cwX12_findsWorlds : jm_cw iX12_findsWorlds 1 := ⟨jm_tw (n := 1921) (by decide +kernel) rfl, jm_tw (n := 13) (by decide +kernel) rfl, ⟨by decide +kernel, by decide +kernel, by decide +kernel⟩, by decide⟩
theorem vwX12_findsWorlds : Cond.instanceMethod iX12_findsWorlds.1 ∈ jm_T ∧ Cond.selects iX12_findsWorlds.1.cls iX12_findsWorlds.1 iX12_findsWorlds.1 ∈ jm_T := ⟨jm_tw (n := 1920) (by decide +kernel) rfl, jm_tp (n := 140) (q := (yX12_findsWorlds, _)) (by rfl)⟩
theorem cwX12_mostIn : jm_cw iX12_mostIn 1 := ⟨jm_tw (n := 1933) (by decide +kernel) rfl, jm_tw (n := 13) (by decide +kernel) rfl, ⟨by decide +kernel, by decide +kernel, by decide +kernel⟩, by decide⟩
theorem vwX12_mostIn : Cond.instanceMethod iX12_mostIn.1 ∈ jm_T ∧ Cond.selects iX12_mostIn.1.cls iX12_mostIn.1 iX12_mostIn.1 ∈ jm_T := ⟨jm_tw (n := 1932) (by decide +kernel) rfl, jm_tp (n := 143) (q := (yX12_mostIn, _)) (by rfl)⟩
theorem cwX12_worlds : jm_cw iX12_worlds 2 := ⟨jm_tw (n := 1917) (by decide +kernel) rfl, jm_tw (n := 13) (by decide +kernel) rfl, ⟨by decide +kernel, by decide +kernel, by decide +kernel⟩, by decide⟩
theorem vwX12_worlds : Cond.instanceMethod iX12_worlds.1 ∈ jm_T ∧ Cond.selects iX12_worlds.1.cls iX12_worlds.1 iX12_worlds.1 ∈ jm_T := ⟨jm_tw (n := 1915) (by decide +kernel) rfl, jm_tw (n := 1916) (by decide +kernel) rfl⟩
theorem cwX12_isUnlike : jm_cw iX12_isUnlike 4 := ⟨jm_tw (n := 1945) (by decide +kernel) rfl, jm_tw (n := 13) (by decide +kernel) rfl, ⟨by decide +kernel, by decide +kernel, by decide +kernel⟩, by decide⟩
theorem vwX12_isUnlike : Cond.instanceMethod iX12_isUnlike.1 ∈ jm_T ∧ Cond.selects iX12_isUnlike.1.cls iX12_isUnlike.1 iX12_isUnlike.1 ∈ jm_T := ⟨jm_tw (n := 1944) (by decide +kernel) rfl, jm_tp (n := 145) (q := (yX12_isUnlike, _)) (by rfl)⟩
theorem cwX12_areWitnesses : jm_cw iX12_areWitnesses 4 := ⟨jm_tw (n := 1941) (by decide +kernel) rfl, jm_tw (n := 13) (by decide +kernel) rfl, ⟨by decide +kernel, by decide +kernel, by decide +kernel⟩, by decide⟩
theorem vwX12_areWitnesses : Cond.instanceMethod iX12_areWitnesses.1 ∈ jm_T ∧ Cond.selects iX12_areWitnesses.1.cls iX12_areWitnesses.1 iX12_areWitnesses.1 ∈ jm_T := ⟨jm_tw (n := 1940) (by decide +kernel) rfl, jm_tp (n := 144) (q := (yX12_areWitnesses, _)) (by rfl)⟩
theorem cwX12_chord : jm_cw iX12_chord 6 := ⟨jm_tw (n := 1937) (by decide +kernel) rfl, jm_tw (n := 13) (by decide +kernel) rfl, ⟨by decide +kernel, by decide +kernel, by decide +kernel⟩, by decide⟩
theorem vwX12_chord : Cond.instanceMethod iX12_chord.1 ∈ jm_T ∧ Cond.selects iX12_chord.1.cls iX12_chord.1 iX12_chord.1 ∈ jm_T := ⟨jm_tw (n := 1935) (by decide +kernel) rfl, jm_tw (n := 1936) (by decide +kernel) rfl⟩
theorem cwX12_keeps : jm_cw iX12_keeps 1 := ⟨jm_tw (n := 1953) (by decide +kernel) rfl, jm_tw (n := 13) (by decide +kernel) rfl, ⟨by decide +kernel, by decide +kernel, by decide +kernel⟩, by decide⟩
theorem vwX12_keeps : Cond.instanceMethod iX12_keeps.1 ∈ jm_T ∧ Cond.selects iX12_keeps.1.cls iX12_keeps.1 iX12_keeps.1 ∈ jm_T := ⟨jm_tw (n := 1952) (by decide +kernel) rfl, jm_tp (n := 146) (q := (yX12_keeps, _)) (by rfl)⟩
theorem cwX12_keepsLaw : jm_cw iX12_keepsLaw 0 := ⟨jm_tw (n := 1961) (by decide +kernel) rfl, jm_tw (n := 13) (by decide +kernel) rfl, ⟨by decide +kernel, by decide +kernel, by decide +kernel⟩, by decide⟩
theorem vwX12_keepsLaw : Cond.instanceMethod iX12_keepsLaw.1 ∈ jm_T ∧ Cond.selects iX12_keepsLaw.1.cls iX12_keepsLaw.1 iX12_keepsLaw.1 ∈ jm_T := ⟨jm_tw (n := 1960) (by decide +kernel) rfl, jm_tp (n := 148) (q := (yX12_keepsLaw, _)) (by rfl)⟩
theorem cwX12_keepsTold : jm_cw iX12_keepsTold 0 := ⟨jm_tw (n := 1957) (by decide +kernel) rfl, jm_tw (n := 13) (by decide +kernel) rfl, ⟨by decide +kernel, by decide +kernel, by decide +kernel⟩, by decide⟩
theorem vwX12_keepsTold : Cond.instanceMethod iX12_keepsTold.1 ∈ jm_T ∧ Cond.selects iX12_keepsTold.1.cls iX12_keepsTold.1 iX12_keepsTold.1 ∈ jm_T := ⟨jm_tw (n := 1956) (by decide +kernel) rfl, jm_tp (n := 147) (q := (yX12_keepsTold, _)) (by rfl)⟩
theorem cwX12_image : jm_cw iX12_image 1 := ⟨jm_tw (n := 1949) (by decide +kernel) rfl, jm_tw (n := 13) (by decide +kernel) rfl, ⟨by decide +kernel, by decide +kernel, by decide +kernel⟩, by decide⟩
theorem vwX12_image : Cond.instanceMethod iX12_image.1 ∈ jm_T ∧ Cond.selects iX12_image.1.cls iX12_image.1 iX12_image.1 ∈ jm_T := ⟨jm_tw (n := 1947) (by decide +kernel) rfl, jm_tw (n := 1948) (by decide +kernel) rfl⟩
theorem cwX12_look : jm_cw iX12_look 1 := ⟨jm_tw (n := 1965) (by decide +kernel) rfl, jm_tw (n := 13) (by decide +kernel) rfl, ⟨by decide +kernel, by decide +kernel, by decide +kernel⟩, by decide⟩
theorem vwX12_look : Cond.instanceMethod iX12_look.1 ∈ jm_T ∧ Cond.selects iX12_look.1.cls iX12_look.1 iX12_look.1 ∈ jm_T := ⟨jm_tw (n := 1963) (by decide +kernel) rfl, jm_tw (n := 1964) (by decide +kernel) rfl⟩
theorem cwJ0_charAt_5068e : jm_cw iJ0_charAt_5068e 1 := ⟨jm_tw (n := 553) (by decide +kernel) rfl, jm_tw (n := 14) (by decide +kernel) rfl, ⟨by decide +kernel, by decide +kernel, by decide +kernel⟩, by decide⟩
theorem vwJ0_charAt_5068e : Cond.instanceMethod iJ0_charAt_5068e.1 ∈ jm_T ∧ Cond.selects iJ0_charAt_5068e.1.cls iJ0_charAt_5068e.1 iJ0_charAt_5068e.1 ∈ jm_T := ⟨jm_tw (n := 551) (by decide +kernel) rfl, jm_tw (n := 552) (by decide +kernel) rfl⟩
theorem cwJ0_length_8abf5 : jm_cw iJ0_length_8abf5 0 := ⟨jm_tw (n := 543) (by decide +kernel) rfl, jm_tw (n := 14) (by decide +kernel) rfl, ⟨by decide +kernel, by decide +kernel, by decide +kernel⟩, by decide⟩
theorem vwJ0_length_8abf5 : Cond.instanceMethod iJ0_length_8abf5.1 ∈ jm_T ∧ Cond.selects iJ0_length_8abf5.1.cls iJ0_length_8abf5.1 iJ0_length_8abf5.1 ∈ jm_T := ⟨jm_tw (n := 541) (by decide +kernel) rfl, jm_tw (n := 542) (by decide +kernel) rfl⟩
theorem cwJ13_bitCount_95d88 : jm_cw iJ13_bitCount_95d88 1 := ⟨jm_tw (n := 1208) (by decide +kernel) rfl, jm_tw (n := 21) (by decide +kernel) rfl, ⟨by decide +kernel, by decide +kernel, by decide +kernel⟩, by decide⟩
theorem vwJ13_bitCount_95d88 : Cond.static iJ13_bitCount_95d88.1 ∈ jm_T := jm_tw (n := 1207) (by decide +kernel) rfl
theorem cwJ6_bitCount_0f7a4 : jm_cw iJ6_bitCount_0f7a4 1 := ⟨jm_tw (n := 1129) (by decide +kernel) rfl, jm_tw (n := 20) (by decide +kernel) rfl, ⟨by decide +kernel, by decide +kernel, by decide +kernel⟩, by decide⟩
theorem vwJ6_bitCount_0f7a4 : Cond.static iJ6_bitCount_0f7a4.1 ∈ jm_T := jm_tw (n := 1128) (by decide +kernel) rfl
theorem mX0_23 : jm_mv RX0 23 iX8_claimOf 2 := ⟨cwX8_claimOf, jm_tw (n := 777) (by decide +kernel) rfl, vwX8_claimOf.1, vwX8_claimOf.2⟩
theorem mX0_41 : jm_mv RX0 41 iX5_fall 1 := ⟨cwX5_fall, jm_tw (n := 791) (by decide +kernel) rfl, vwX5_fall.1, vwX5_fall.2⟩
theorem mX0_48 : jm_mv RX0 48 iX5_rise 1 := ⟨cwX5_rise, jm_tw (n := 807) (by decide +kernel) rfl, vwX5_rise.1, vwX5_rise.2⟩
theorem mX0_51 : jm_mv RX0 51 iX0_highestKey 2 := ⟨cwX0_highestKey, jm_tw (n := 803) (by decide +kernel) rfl, vwX0_highestKey.1, vwX0_highestKey.2⟩
theorem mX0_54 : jm_mv RX0 54 iX0_lowestKey 2 := ⟨cwX0_lowestKey, jm_tw (n := 787) (by decide +kernel) rfl, vwX0_lowestKey.1, vwX0_lowestKey.2⟩
theorem mX0_57 : jm_mth RX0 57 Lib.Math.max.name Lib.Math.max.code 2 := ⟨jm_tw (n := 992) (by decide +kernel) rfl, jm_tw (n := 801) (by decide +kernel) rfl, jm_tw (n := 19) (by decide +kernel) rfl, jm_tw (n := 802) (by decide +kernel) rfl⟩
theorem mX0_62 {g : jm_G} (hg : jm_HC g) : jm_mn g RX0 62 iX11_isWithin "SungEvidence" 3 := ⟨cwX11_isWithin, vwX11_isWithin, fun s h => nwX0_62 hg s h⟩
theorem mX0_66 : jm_mv RX0 66 iX0_setTerms 2 := ⟨cwX0_setTerms, jm_tw (n := 854) (by decide +kernel) rfl, vwX0_setTerms.1, vwX0_setTerms.2⟩
theorem mX0_76 : jm_mv RX0 76 iX3_tell 3 := ⟨cwX3_tell, jm_tw (n := 866) (by decide +kernel) rfl, vwX3_tell.1, vwX3_tell.2⟩
theorem mX0_80 {g : jm_G} (hg : jm_HC g) : jm_mn g RX0 80 iX11_held "SungEvidence" 2 := ⟨cwX11_held, vwX11_held, fun s h => nwX0_80 hg s h⟩
theorem mX0_88 : jm_mv RX0 88 iX1_ofTestimony 2 := ⟨cwX1_ofTestimony, jm_tw (n := 965) (by decide +kernel) rfl, vwX1_ofTestimony.1, vwX1_ofTestimony.2⟩
theorem mX0_91 : jm_mv RX0 91 iX0_weightOf 3 := ⟨cwX0_weightOf, jm_tw (n := 966) (by decide +kernel) rfl, vwX0_weightOf.1, vwX0_weightOf.2⟩
theorem mX0_105 : jm_mv RX0 105 iX1_sungBy 1 := ⟨cwX1_sungBy, jm_tw (n := 858) (by decide +kernel) rfl, vwX1_sungBy.1, vwX1_sungBy.2⟩
theorem mX1_43 : jm_acp RX1 43 := ⟨jm_tw (n := 828) (by decide +kernel) rfl, jm_tw (n := 644) (by decide +kernel) rfl, jm_tw (n := 643) (by decide +kernel) rfl, jm_tw (n := 18) (by decide +kernel) rfl⟩
theorem mX1_51 : jm_mv RX1 51 iX1_isTestimony 1 := ⟨cwX1_isTestimony, jm_tw (n := 1047) (by decide +kernel) rfl, vwX1_isTestimony.1, vwX1_isTestimony.2⟩
theorem mX1_55 : jm_mv RX1 55 iX1_ofTestimony 2 := ⟨cwX1_ofTestimony, jm_tw (n := 862) (by decide +kernel) rfl, vwX1_ofTestimony.1, vwX1_ofTestimony.2⟩
theorem mX1_59 {g : jm_G} (hg : jm_HC g) : jm_mn g RX1 59 iX11_isWithin "SungEvidence" 3 := ⟨cwX11_isWithin, vwX11_isWithin, fun s h => nwX1_59 hg s h⟩
theorem mX1_63 : jm_mv RX1 63 iX1_write 4 := ⟨cwX1_write, jm_tw (n := 920) (by decide +kernel) rfl, vwX1_write.1, vwX1_write.2⟩
theorem mX10_47 : jm_mv RX10 47 iX0_slipOf 4 := ⟨cwX0_slipOf, jm_tw (n := 1005) (by decide +kernel) rfl, vwX0_slipOf.1, vwX0_slipOf.2⟩
theorem mX10_51 : jm_mv RX10 51 iX10_addChance 1 := ⟨cwX10_addChance, jm_tw (n := 1006) (by decide +kernel) rfl, vwX10_addChance.1, vwX10_addChance.2⟩
theorem mX10_55 : jm_mv RX10 55 iX5_stepOf 2 := ⟨cwX5_stepOf, jm_tw (n := 1010) (by decide +kernel) rfl, vwX5_stepOf.1, vwX5_stepOf.2⟩
theorem mX10_63 : jm_mv RX10 63 iX10_fewestUnlike 1 := ⟨cwX10_fewestUnlike, jm_tw (n := 1023) (by decide +kernel) rfl, vwX10_fewestUnlike.1, vwX10_fewestUnlike.2⟩
theorem mX10_67 : jm_mv RX10 67 iX5_rise 1 := ⟨cwX5_rise, jm_tw (n := 1027) (by decide +kernel) rfl, vwX5_rise.1, vwX5_rise.2⟩
theorem mX10_70 : jm_mv RX10 70 iX5_fall 1 := ⟨cwX5_fall, jm_tw (n := 1028) (by decide +kernel) rfl, vwX5_fall.1, vwX5_fall.2⟩
theorem mX10_73 : jm_mv RX10 73 iX10_unlikeFrom 2 := ⟨cwX10_unlikeFrom, jm_tw (n := 1029) (by decide +kernel) rfl, vwX10_unlikeFrom.1, vwX10_unlikeFrom.2⟩
theorem mX10_76 : jm_mth RX10 76 Lib.Math.min.name Lib.Math.min.code 2 := ⟨jm_tw (n := 1033) (by decide +kernel) rfl, jm_tw (n := 830) (by decide +kernel) rfl, jm_tw (n := 19) (by decide +kernel) rfl, jm_tw (n := 831) (by decide +kernel) rfl⟩
theorem mX10_86 : jm_mv RX10 86 iX1_ofTestimony 2 := ⟨cwX1_ofTestimony, jm_tw (n := 1042) (by decide +kernel) rfl, vwX1_ofTestimony.1, vwX1_ofTestimony.2⟩
theorem mX10_89 : jm_mv RX10 89 iX1_barOf 2 := ⟨cwX1_barOf, jm_tw (n := 1043) (by decide +kernel) rfl, vwX1_barOf.1, vwX1_barOf.2⟩
theorem mX10_92 : jm_mv RX10 92 iX8_barsSound 2 := ⟨cwX8_barsSound, jm_tw (n := 1049) (by decide +kernel) rfl, vwX8_barsSound.1, vwX8_barsSound.2⟩
theorem mX10_96 : jm_mv RX10 96 iX0_highestKey 2 := ⟨cwX0_highestKey, jm_tw (n := 1068) (by decide +kernel) rfl, vwX0_highestKey.1, vwX0_highestKey.2⟩
theorem mX10_99 : jm_mv RX10 99 iX0_lowestKey 2 := ⟨cwX0_lowestKey, jm_tw (n := 1069) (by decide +kernel) rfl, vwX0_lowestKey.1, vwX0_lowestKey.2⟩
theorem mX10_102 : jm_mv RX10 102 iX10_soundingFrom 3 := ⟨cwX10_soundingFrom, jm_tw (n := 1070) (by decide +kernel) rfl, vwX10_soundingFrom.1, vwX10_soundingFrom.2⟩
theorem mX10_106 : jm_mv RX10 106 iX10_tellSounds 0 := ⟨cwX10_tellSounds, jm_tw (n := 1194) (by decide +kernel) rfl, vwX10_tellSounds.1, vwX10_tellSounds.2⟩
theorem mX10_115 : jm_ms RX10 115 iX10_has 2 := ⟨cwX10_has, jm_tw (n := 1199) (by decide +kernel) rfl, vwX10_has⟩
theorem mX10_119 : jm_mv RX10 119 iX10_rangeOf 1 := ⟨cwX10_rangeOf, jm_tw (n := 1202) (by decide +kernel) rfl, vwX10_rangeOf.1, vwX10_rangeOf.2⟩
theorem mX10_123 : jm_ms RX10 123 iJ13_bitCount_95d88 1 := ⟨cwJ13_bitCount_95d88, jm_tw (n := 1206) (by decide +kernel) rfl, vwJ13_bitCount_95d88⟩
theorem mX10_129 : jm_ms RX10 129 iX10_lowestOf 1 := ⟨cwX10_lowestOf, jm_tw (n := 1212) (by decide +kernel) rfl, vwX10_lowestOf⟩
theorem mX10_132 : jm_ms RX10 132 iX10_chosen 4 := ⟨cwX10_chosen, jm_tw (n := 1215) (by decide +kernel) rfl, vwX10_chosen⟩
theorem mX10_135 : jm_mv RX10 135 iX8_sounds 2 := ⟨cwX8_sounds, jm_tw (n := 1198) (by decide +kernel) rfl, vwX8_sounds.1, vwX8_sounds.2⟩
theorem mX11_116 : jm_mv RX11 116 iX11_forgetDeeds 0 := ⟨cwX11_forgetDeeds, jm_tw (n := 452) (by decide +kernel) rfl, vwX11_forgetDeeds.1, vwX11_forgetDeeds.2⟩
theorem mX11_119 : jm_ms RX11 119 iX11_isNote 1 := ⟨cwX11_isNote, jm_tw (n := 460) (by decide +kernel) rfl, vwX11_isNote⟩
theorem mX11_123 : jm_ms RX11 123 iX11_isWithin 3 := ⟨cwX11_isWithin, jm_tw (n := 463) (by decide +kernel) rfl, vwX11_isWithin⟩
theorem mX11_130 : jm_mv RX11 130 iX8_addWitness 3 := ⟨cwX8_addWitness, jm_tw (n := 466) (by decide +kernel) rfl, vwX8_addWitness.1, vwX8_addWitness.2⟩
theorem mX11_141 : jm_mv RX11 141 iX8_isWitness 1 := ⟨cwX8_isWitness, jm_tw (n := 474) (by decide +kernel) rfl, vwX8_isWitness.1, vwX8_isWitness.2⟩
theorem mX11_144 : jm_ms RX11 144 iX11_isFact 1 := ⟨cwX11_isFact, jm_tw (n := 478) (by decide +kernel) rfl, vwX11_isFact⟩
theorem mX11_150 : jm_mv RX11 150 iX11_setOfWitness 3 := ⟨cwX11_setOfWitness, jm_tw (n := 485) (by decide +kernel) rfl, vwX11_setOfWitness.1, vwX11_setOfWitness.2⟩
theorem mX11_153 : jm_mv RX11 153 iX11_setOfBench 2 := ⟨cwX11_setOfBench, jm_tw (n := 489) (by decide +kernel) rfl, vwX11_setOfBench.1, vwX11_setOfBench.2⟩
theorem mX11_157 : jm_mv RX11 157 iX7_hasRoom 1 := ⟨cwX7_hasRoom, jm_tw (n := 497) (by decide +kernel) rfl, vwX7_hasRoom.1, vwX7_hasRoom.2⟩
theorem mX11_160 : jm_mv RX11 160 iX7_addNumber 1 := ⟨cwX7_addNumber, jm_tw (n := 501) (by decide +kernel) rfl, vwX7_addNumber.1, vwX7_addNumber.2⟩
theorem mX11_167 : jm_mv RX11 167 iX7_clearFault 0 := ⟨cwX7_clearFault, jm_tw (n := 513) (by decide +kernel) rfl, vwX7_clearFault.1, vwX7_clearFault.2⟩
theorem mX11_170 : jm_mv RX11 170 iX7_cutIntoTokens 1 := ⟨cwX7_cutIntoTokens, jm_tw (n := 517) (by decide +kernel) rfl, vwX7_cutIntoTokens.1, vwX7_cutIntoTokens.2⟩
theorem mX11_173 : jm_mv RX11 173 iX5_readFrom 1 := ⟨cwX5_readFrom, jm_tw (n := 592) (by decide +kernel) rfl, vwX5_readFrom.1, vwX5_readFrom.2⟩
theorem mX11_177 : jm_mv RX11 177 iX11_adoptMotives 0 := ⟨cwX11_adoptMotives, jm_tw (n := 634) (by decide +kernel) rfl, vwX11_adoptMotives.1, vwX11_adoptMotives.2⟩
theorem mX11_181 : jm_mv RX11 181 iX4_readLines 0 := ⟨cwX4_readLines, jm_tw (n := 645) (by decide +kernel) rfl, vwX4_readLines.1, vwX4_readLines.2⟩
theorem mX11_185 : jm_mv RX11 185 iX11_adoptLaw 0 := ⟨cwX11_adoptLaw, jm_tw (n := 699) (by decide +kernel) rfl, vwX11_adoptLaw.1, vwX11_adoptLaw.2⟩
theorem mX11_188 : jm_mv RX11 188 iX6_readFrom 2 := ⟨cwX6_readFrom, jm_tw (n := 708) (by decide +kernel) rfl, vwX6_readFrom.1, vwX6_readFrom.2⟩
theorem mX11_191 : jm_mv RX11 191 iX11_adoptPlan 0 := ⟨cwX11_adoptPlan, jm_tw (n := 751) (by decide +kernel) rfl, vwX11_adoptPlan.1, vwX11_adoptPlan.2⟩
theorem mX11_200 : jm_mv RX11 200 iX2_canBeCalled 3 := ⟨cwX2_canBeCalled, jm_tw (n := 769) (by decide +kernel) rfl, vwX2_canBeCalled.1, vwX2_canBeCalled.2⟩
theorem mX11_203 : jm_mv RX11 203 iX11_keepCourt 0 := ⟨cwX11_keepCourt, jm_tw (n := 820) (by decide +kernel) rfl, vwX11_keepCourt.1, vwX11_keepCourt.2⟩
theorem mX11_206 : jm_mv RX11 206 iX2_sing 3 := ⟨cwX2_sing, jm_tw (n := 832) (by decide +kernel) rfl, vwX2_sing.1, vwX2_sing.2⟩
theorem mX11_209 : jm_mv RX11 209 iX2_crossExamine 1 := ⟨cwX2_crossExamine, jm_tw (n := 903) (by decide +kernel) rfl, vwX2_crossExamine.1, vwX2_crossExamine.2⟩
theorem mX11_212 : jm_mv RX11 212 iX1_isTestimony 1 := ⟨cwX1_isTestimony, jm_tw (n := 911) (by decide +kernel) rfl, vwX1_isTestimony.1, vwX1_isTestimony.2⟩
theorem mX11_215 : jm_mv RX11 215 iX1_ofTestimony 2 := ⟨cwX1_ofTestimony, jm_tw (n := 915) (by decide +kernel) rfl, vwX1_ofTestimony.1, vwX1_ofTestimony.2⟩
theorem mX11_219 : jm_mv RX11 219 iX1_strikeOut 1 := ⟨cwX1_strikeOut, jm_tw (n := 916) (by decide +kernel) rfl, vwX1_strikeOut.1, vwX1_strikeOut.2⟩
theorem mX11_225 : jm_mv RX11 225 iX2_restOneDay 0 := ⟨cwX2_restOneDay, jm_tw (n := 925) (by decide +kernel) rfl, vwX2_restOneDay.1, vwX2_restOneDay.2⟩
theorem mX11_228 : jm_mv RX11 228 iX1_howManyHoarse 1 := ⟨cwX1_howManyHoarse, jm_tw (n := 930) (by decide +kernel) rfl, vwX1_howManyHoarse.1, vwX1_howManyHoarse.2⟩
theorem mX11_235 : jm_mv RX11 235 iX6_rests 0 := ⟨cwX6_rests, jm_tw (n := 938) (by decide +kernel) rfl, vwX6_rests.1, vwX6_rests.2⟩
theorem mX11_238 : jm_mv RX11 238 iX2_goThrough 1 := ⟨cwX2_goThrough, jm_tw (n := 942) (by decide +kernel) rfl, vwX2_goThrough.1, vwX2_goThrough.2⟩
theorem mX11_242 : jm_mv RX11 242 iX8_claimOf 2 := ⟨cwX8_claimOf, jm_tw (n := 954) (by decide +kernel) rfl, vwX8_claimOf.1, vwX8_claimOf.2⟩
theorem mX11_254 : jm_mv RX11 254 iX1_sungBy 1 := ⟨cwX1_sungBy, jm_tw (n := 955) (by decide +kernel) rfl, vwX1_sungBy.1, vwX1_sungBy.2⟩
theorem mX11_257 : jm_mv RX11 257 iX0_shakeOf 2 := ⟨cwX0_shakeOf, jm_tw (n := 956) (by decide +kernel) rfl, vwX0_shakeOf.1, vwX0_shakeOf.2⟩
theorem mX11_260 : jm_mv RX11 260 iX0_weightOfTestimony 1 := ⟨cwX0_weightOfTestimony, jm_tw (n := 961) (by decide +kernel) rfl, vwX0_weightOfTestimony.1, vwX0_weightOfTestimony.2⟩
theorem mX11_275 : jm_mv RX11 275 iX5_stepOf 2 := ⟨cwX5_stepOf, jm_tw (n := 978) (by decide +kernel) rfl, vwX5_stepOf.1, vwX5_stepOf.2⟩
theorem mX11_284 : jm_mv RX11 284 iX0_motiveOf 2 := ⟨cwX0_motiveOf, jm_tw (n := 987) (by decide +kernel) rfl, vwX0_motiveOf.1, vwX0_motiveOf.2⟩
theorem mX11_287 : jm_mv RX11 287 iX0_howManyKeys 2 := ⟨cwX0_howManyKeys, jm_tw (n := 988) (by decide +kernel) rfl, vwX0_howManyKeys.1, vwX0_howManyKeys.2⟩
theorem mX11_290 : jm_mv RX11 290 iX0_lowestKey 2 := ⟨cwX0_lowestKey, jm_tw (n := 993) (by decide +kernel) rfl, vwX0_lowestKey.1, vwX0_lowestKey.2⟩
theorem mX11_293 : jm_mv RX11 293 iX0_highestKey 2 := ⟨cwX0_highestKey, jm_tw (n := 994) (by decide +kernel) rfl, vwX0_highestKey.1, vwX0_highestKey.2⟩
theorem mX11_296 : jm_mv RX11 296 iX0_canSing 3 := ⟨cwX0_canSing, jm_tw (n := 999) (by decide +kernel) rfl, vwX0_canSing.1, vwX0_canSing.2⟩
theorem mX11_299 : jm_mv RX11 299 iX10_likelyWithin 4 := ⟨cwX10_likelyWithin, jm_tw (n := 1000) (by decide +kernel) rfl, vwX10_likelyWithin.1, vwX10_likelyWithin.2⟩
theorem mX11_309 : jm_mv RX11 309 iX10_motivesHeard 2 := ⟨cwX10_motivesHeard, jm_tw (n := 1019) (by decide +kernel) rfl, vwX10_motivesHeard.1, vwX10_motivesHeard.2⟩
theorem mX11_312 : jm_mv RX11 312 iX10_soundingBars 2 := ⟨cwX10_soundingBars, jm_tw (n := 1038) (by decide +kernel) rfl, vwX10_soundingBars.1, vwX10_soundingBars.2⟩
theorem mX11_315 : jm_mv RX11 315 iX10_bestKey 4 := ⟨cwX10_bestKey, jm_tw (n := 1064) (by decide +kernel) rfl, vwX10_bestKey.1, vwX10_bestKey.2⟩
theorem mX11_318 : jm_mv RX11 318 iX10_soundingBehind 2 := ⟨cwX10_soundingBehind, jm_tw (n := 1078) (by decide +kernel) rfl, vwX10_soundingBehind.1, vwX10_soundingBehind.2⟩
theorem mX11_321 : jm_ms RX11 321 iX11_isValue 1 := ⟨cwX11_isValue, jm_tw (n := 1086) (by decide +kernel) rfl, vwX11_isValue⟩
theorem mX11_324 : jm_mv RX11 324 iX9_weightFor 2 := ⟨cwX9_weightFor, jm_tw (n := 1089) (by decide +kernel) rfl, vwX9_weightFor.1, vwX9_weightFor.2⟩
theorem mX11_327 : jm_mv RX11 327 iX9_finding 1 := ⟨cwX9_finding, jm_tw (n := 1103) (by decide +kernel) rfl, vwX9_finding.1, vwX9_finding.2⟩
theorem mX11_330 : jm_mv RX11 330 iX9_fewestCallers 2 := ⟨cwX9_fewestCallers, jm_tw (n := 1116) (by decide +kernel) rfl, vwX9_fewestCallers.1, vwX9_fewestCallers.2⟩
theorem mX11_333 : jm_ms RX11 333 iJ6_bitCount_0f7a4 1 := ⟨cwJ6_bitCount_0f7a4, jm_tw (n := 1137) (by decide +kernel) rfl, vwJ6_bitCount_0f7a4⟩
theorem mX11_338 : jm_mv RX11 338 iX9_largestChoir 0 := ⟨cwX9_largestChoir, jm_tw (n := 1142) (by decide +kernel) rfl, vwX9_largestChoir.1, vwX9_largestChoir.2⟩
theorem mX11_341 : jm_mv RX11 341 iX9_worldsWith 2 := ⟨cwX9_worldsWith, jm_tw (n := 1162) (by decide +kernel) rfl, vwX9_worldsWith.1, vwX9_worldsWith.2⟩
theorem mX11_344 : jm_mv RX11 344 iX10_chordOf 5 := ⟨cwX10_chordOf, jm_tw (n := 1190) (by decide +kernel) rfl, vwX10_chordOf.1, vwX10_chordOf.2⟩
theorem mX11_348 : jm_mv RX11 348 iX1_copyFrom 1 := ⟨cwX1_copyFrom, jm_tw (n := 824) (by decide +kernel) rfl, vwX1_copyFrom.1, vwX1_copyFrom.2⟩
theorem mX11_352 : jm_mv RX11 352 iX8_copyFrom 1 := ⟨cwX8_copyFrom, jm_tw (n := 1226) (by decide +kernel) rfl, vwX8_copyFrom.1, vwX8_copyFrom.2⟩
theorem mX11_375 : jm_mv RX11 375 iX5_copyFrom 1 := ⟨cwX5_copyFrom, jm_tw (n := 638) (by decide +kernel) rfl, vwX5_copyFrom.1, vwX5_copyFrom.2⟩
theorem mX11_378 : jm_mv RX11 378 iX3_copyFrom 1 := ⟨cwX3_copyFrom, jm_tw (n := 703) (by decide +kernel) rfl, vwX3_copyFrom.1, vwX3_copyFrom.2⟩
theorem mX11_381 : jm_mv RX11 381 iX6_copyFrom 1 := ⟨cwX6_copyFrom, jm_tw (n := 755) (by decide +kernel) rfl, vwX6_copyFrom.1, vwX6_copyFrom.2⟩
theorem mX11_384 : jm_mth RX11 384 Lib.Math.min.name Lib.Math.min.code 2 := ⟨jm_tw (n := 829) (by decide +kernel) rfl, jm_tw (n := 830) (by decide +kernel) rfl, jm_tw (n := 19) (by decide +kernel) rfl, jm_tw (n := 831) (by decide +kernel) rfl⟩
theorem mX11_389 : jm_mth RX11 389 Lib.Math.max.name Lib.Math.max.code 2 := ⟨jm_tw (n := 880) (by decide +kernel) rfl, jm_tw (n := 801) (by decide +kernel) rfl, jm_tw (n := 19) (by decide +kernel) rfl, jm_tw (n := 802) (by decide +kernel) rfl⟩
theorem mX12_124 : jm_mv RX12 124 iX12_held 3 := ⟨cwX12_held, jm_tw (n := 1462) (by decide +kernel) rfl, vwX12_held.1, vwX12_held.2⟩
theorem mX12_128 : jm_mv RX12 128 iX12_isIn 3 := ⟨cwX12_isIn, jm_tw (n := 1434) (by decide +kernel) rfl, vwX12_isIn.1, vwX12_isIn.2⟩
theorem mX12_132 : jm_mv RX12 132 iX12_isWitness 1 := ⟨cwX12_isWitness, jm_tw (n := 1442) (by decide +kernel) rfl, vwX12_isWitness.1, vwX12_isWitness.2⟩
theorem mX12_136 : jm_mv RX12 136 iX12_isFact 1 := ⟨cwX12_isFact, jm_tw (n := 1446) (by decide +kernel) rfl, vwX12_isFact.1, vwX12_isFact.2⟩
theorem mX12_139 : jm_mv RX12 139 iX12_canSet 3 := ⟨cwX12_canSet, jm_tw (n := 1454) (by decide +kernel) rfl, vwX12_canSet.1, vwX12_canSet.2⟩
theorem mX12_142 : jm_mv RX12 142 iX12_nerveBe 2 := ⟨cwX12_nerveBe, jm_tw (n := 1458) (by decide +kernel) rfl, vwX12_nerveBe.1, vwX12_nerveBe.2⟩
theorem mX12_149 : jm_mv RX12 149 iX12_types 1 := ⟨cwX12_types, jm_tw (n := 1470) (by decide +kernel) rfl, vwX12_types.1, vwX12_types.2⟩
theorem mX12_156 : jm_mv RX12 156 iX12_raw 1 := ⟨cwX12_raw, jm_tw (n := 1490) (by decide +kernel) rfl, vwX12_raw.1, vwX12_raw.2⟩
theorem mX12_169 : jm_mv RX12 169 iX12_isLetter 1 := ⟨cwX12_isLetter, jm_tw (n := 1494) (by decide +kernel) rfl, vwX12_isLetter.1, vwX12_isLetter.2⟩
theorem mX12_172 : jm_mv RX12 172 iX12_wordAt 2 := ⟨cwX12_wordAt, jm_tw (n := 1498) (by decide +kernel) rfl, vwX12_wordAt.1, vwX12_wordAt.2⟩
theorem mX12_176 : jm_mv RX12 176 iX12_isDigit 1 := ⟨cwX12_isDigit, jm_tw (n := 1502) (by decide +kernel) rfl, vwX12_isDigit.1, vwX12_isDigit.2⟩
theorem mX12_179 : jm_mv RX12 179 iX12_isMarkSign 1 := ⟨cwX12_isMarkSign, jm_tw (n := 1506) (by decide +kernel) rfl, vwX12_isMarkSign.1, vwX12_isMarkSign.2⟩
theorem mX12_191 : jm_mv RX12 191 iX12_canAsk 1 := ⟨cwX12_canAsk, jm_tw (n := 1594) (by decide +kernel) rfl, vwX12_canAsk.1, vwX12_canAsk.2⟩
theorem mX12_194 : jm_mv RX12 194 iX12_errs 1 := ⟨cwX12_errs, jm_tw (n := 1518) (by decide +kernel) rfl, vwX12_errs.1, vwX12_errs.2⟩
theorem mX12_197 : jm_mv RX12 197 iX12_emits 2 := ⟨cwX12_emits, jm_tw (n := 1598) (by decide +kernel) rfl, vwX12_emits.1, vwX12_emits.2⟩
theorem mX12_200 : jm_mv RX12 200 iX12_reads 0 := ⟨cwX12_reads, jm_tw (n := 1486) (by decide +kernel) rfl, vwX12_reads.1, vwX12_reads.2⟩
theorem mX12_203 : jm_mv RX12 203 iX12_readUnit 0 := ⟨cwX12_readUnit, jm_tw (n := 1590) (by decide +kernel) rfl, vwX12_readUnit.1, vwX12_readUnit.2⟩
theorem mX12_207 : jm_mv RX12 207 iX12_isSign 1 := ⟨cwX12_isSign, jm_tw (n := 1542) (by decide +kernel) rfl, vwX12_isSign.1, vwX12_isSign.2⟩
theorem mX12_210 : jm_mv RX12 210 iX12_readProduct 0 := ⟨cwX12_readProduct, jm_tw (n := 1586) (by decide +kernel) rfl, vwX12_readProduct.1, vwX12_readProduct.2⟩
theorem mX12_213 : jm_mv RX12 213 iX12_readSum 0 := ⟨cwX12_readSum, jm_tw (n := 1582) (by decide +kernel) rfl, vwX12_readSum.1, vwX12_readSum.2⟩
theorem mX12_222 : jm_mv RX12 222 iX12_isWord 1 := ⟨cwX12_isWord, jm_tw (n := 1514) (by decide +kernel) rfl, vwX12_isWord.1, vwX12_isWord.2⟩
theorem mX12_225 : jm_mv RX12 225 iX12_waits 1 := ⟨cwX12_waits, jm_tw (n := 1606) (by decide +kernel) rfl, vwX12_waits.1, vwX12_waits.2⟩
theorem mX12_228 : jm_mv RX12 228 iX12_readCompared 0 := ⟨cwX12_readCompared, jm_tw (n := 1610) (by decide +kernel) rfl, vwX12_readCompared.1, vwX12_readCompared.2⟩
theorem mX12_231 : jm_mv RX12 231 iX12_settles 1 := ⟨cwX12_settles, jm_tw (n := 1614) (by decide +kernel) rfl, vwX12_settles.1, vwX12_settles.2⟩
theorem mX12_234 : jm_mv RX12 234 iX12_isLineWord 0 := ⟨cwX12_isLineWord, jm_tw (n := 1578) (by decide +kernel) rfl, vwX12_isLineWord.1, vwX12_isLineWord.2⟩
theorem mX12_238 : jm_mv RX12 238 iX12_readAny 0 := ⟨cwX12_readAny, jm_tw (n := 1602) (by decide +kernel) rfl, vwX12_readAny.1, vwX12_readAny.2⟩
theorem mX12_244 : jm_mv RX12 244 iX12_readNumber 2 := ⟨cwX12_readNumber, jm_tw (n := 1530) (by decide +kernel) rfl, vwX12_readNumber.1, vwX12_readNumber.2⟩
theorem mX12_247 : jm_mv RX12 247 iX12_readTold 3 := ⟨cwX12_readTold, jm_tw (n := 1526) (by decide +kernel) rfl, vwX12_readTold.1, vwX12_readTold.2⟩
theorem mX12_250 : jm_mv RX12 250 iX12_readStep 1 := ⟨cwX12_readStep, jm_tw (n := 1534) (by decide +kernel) rfl, vwX12_readStep.1, vwX12_readStep.2⟩
theorem mX12_253 : jm_mv RX12 253 iX12_readMark 1 := ⟨cwX12_readMark, jm_tw (n := 1538) (by decide +kernel) rfl, vwX12_readMark.1, vwX12_readMark.2⟩
theorem mX12_256 : jm_mv RX12 256 iX12_readMotive 0 := ⟨cwX12_readMotive, jm_tw (n := 1522) (by decide +kernel) rfl, vwX12_readMotive.1, vwX12_readMotive.2⟩
theorem mX12_262 : jm_mv RX12 262 iX12_emitsStep 4 := ⟨cwX12_emitsStep, jm_tw (n := 1554) (by decide +kernel) rfl, vwX12_emitsStep.1, vwX12_emitsStep.2⟩
theorem mX12_266 : jm_mv RX12 266 iX12_readCall 0 := ⟨cwX12_readCall, jm_tw (n := 1550) (by decide +kernel) rfl, vwX12_readCall.1, vwX12_readCall.2⟩
theorem mX12_269 : jm_mv RX12 269 iX12_readCross 0 := ⟨cwX12_readCross, jm_tw (n := 1558) (by decide +kernel) rfl, vwX12_readCross.1, vwX12_readCross.2⟩
theorem mX12_272 : jm_mv RX12 272 iX12_readAgain 0 := ⟨cwX12_readAgain, jm_tw (n := 1562) (by decide +kernel) rfl, vwX12_readAgain.1, vwX12_readAgain.2⟩
theorem mX12_275 : jm_mv RX12 275 iX12_readOther 0 := ⟨cwX12_readOther, jm_tw (n := 1566) (by decide +kernel) rfl, vwX12_readOther.1, vwX12_readOther.2⟩
theorem mX12_278 : jm_mv RX12 278 iX12_readMotives 0 := ⟨cwX12_readMotives, jm_tw (n := 1510) (by decide +kernel) rfl, vwX12_readMotives.1, vwX12_readMotives.2⟩
theorem mX12_281 : jm_mv RX12 281 iX12_readSteps 0 := ⟨cwX12_readSteps, jm_tw (n := 1546) (by decide +kernel) rfl, vwX12_readSteps.1, vwX12_readSteps.2⟩
theorem mX12_284 : jm_mv RX12 284 iX12_laysDeeds 0 := ⟨cwX12_laysDeeds, jm_tw (n := 1570) (by decide +kernel) rfl, vwX12_laysDeeds.1, vwX12_laysDeeds.2⟩
theorem mX12_287 : jm_mv RX12 287 iX12_readLaw 0 := ⟨cwX12_readLaw, jm_tw (n := 1574) (by decide +kernel) rfl, vwX12_readLaw.1, vwX12_readLaw.2⟩
theorem mX12_299 : jm_mv RX12 299 iX12_readsText 1 := ⟨cwX12_readsText, jm_tw (n := 1482) (by decide +kernel) rfl, vwX12_readsText.1, vwX12_readsText.2⟩
theorem mX12_302 : jm_mv RX12 302 iX12_takesLaw 1 := ⟨cwX12_takesLaw, jm_tw (n := 1618) (by decide +kernel) rfl, vwX12_takesLaw.1, vwX12_takesLaw.2⟩
theorem mX12_305 : jm_mv RX12 305 iX12_takesOther 2 := ⟨cwX12_takesOther, jm_tw (n := 1622) (by decide +kernel) rfl, vwX12_takesOther.1, vwX12_takesOther.2⟩
theorem mX12_308 : jm_mv RX12 308 iX12_twoOf 3 := ⟨cwX12_twoOf, jm_tw (n := 1720) (by decide +kernel) rfl, vwX12_twoOf.1, vwX12_twoOf.2⟩
theorem mX12_311 : jm_mv RX12 311 iX12_runs 3 := ⟨cwX12_runs, jm_tw (n := 1716) (by decide +kernel) rfl, vwX12_runs.1, vwX12_runs.2⟩
theorem mX12_314 : jm_mv RX12 314 iX12_ofTestimony 2 := ⟨cwX12_ofTestimony, jm_tw (n := 1704) (by decide +kernel) rfl, vwX12_ofTestimony.1, vwX12_ofTestimony.2⟩
theorem mX12_317 : jm_mv RX12 317 iX12_nerveOf 1 := ⟨cwX12_nerveOf, jm_tw (n := 1696) (by decide +kernel) rfl, vwX12_nerveOf.1, vwX12_nerveOf.2⟩
theorem mX12_320 : jm_mv RX12 320 iX12_sungBy 1 := ⟨cwX12_sungBy, jm_tw (n := 1700) (by decide +kernel) rfl, vwX12_sungBy.1, vwX12_sungBy.2⟩
theorem mX12_323 : jm_mv RX12 323 iX12_lineOf 1 := ⟨cwX12_lineOf, jm_tw (n := 1712) (by decide +kernel) rfl, vwX12_lineOf.1, vwX12_lineOf.2⟩
theorem mX12_326 : jm_mv RX12 326 iX12_asks 4 := ⟨cwX12_asks, jm_tw (n := 1692) (by decide +kernel) rfl, vwX12_asks.1, vwX12_asks.2⟩
theorem mX12_329 : jm_mv RX12 329 iX12_lawTells 3 := ⟨cwX12_lawTells, jm_tw (n := 1708) (by decide +kernel) rfl, vwX12_lawTells.1, vwX12_lawTells.2⟩
theorem mX12_332 : jm_mv RX12 332 iX12_stepOf 2 := ⟨cwX12_stepOf, jm_tw (n := 1662) (by decide +kernel) rfl, vwX12_stepOf.1, vwX12_stepOf.2⟩
theorem mX12_335 : jm_mv RX12 335 iX12_notesOf 1 := ⟨cwX12_notesOf, jm_tw (n := 1650) (by decide +kernel) rfl, vwX12_notesOf.1, vwX12_notesOf.2⟩
theorem mX12_338 : jm_mv RX12 338 iX12_aboveOf 2 := ⟨cwX12_aboveOf, jm_tw (n := 1658) (by decide +kernel) rfl, vwX12_aboveOf.1, vwX12_aboveOf.2⟩
theorem mX12_341 : jm_mv RX12 341 iX12_claimOf 2 := ⟨cwX12_claimOf, jm_tw (n := 1646) (by decide +kernel) rfl, vwX12_claimOf.1, vwX12_claimOf.2⟩
theorem mX12_344 : jm_mv RX12 344 iX12_motiveOf 2 := ⟨cwX12_motiveOf, jm_tw (n := 1642) (by decide +kernel) rfl, vwX12_motiveOf.1, vwX12_motiveOf.2⟩
theorem mX12_347 : jm_mv RX12 347 iX12_canSing 4 := ⟨cwX12_canSing, jm_tw (n := 1654) (by decide +kernel) rfl, vwX12_canSing.1, vwX12_canSing.2⟩
theorem mX12_351 : jm_mv RX12 351 iX12_isSung 3 := ⟨cwX12_isSung, jm_tw (n := 1638) (by decide +kernel) rfl, vwX12_isSung.1, vwX12_isSung.2⟩
theorem mX12_354 : jm_mv RX12 354 iX12_barsFor 2 := ⟨cwX12_barsFor, jm_tw (n := 1666) (by decide +kernel) rfl, vwX12_barsFor.1, vwX12_barsFor.2⟩
theorem mX12_357 : jm_mv RX12 357 iX12_bars 1 := ⟨cwX12_bars, jm_tw (n := 1678) (by decide +kernel) rfl, vwX12_bars.1, vwX12_bars.2⟩
theorem mX12_360 : jm_mv RX12 360 iX12_draw 1 := ⟨cwX12_draw, jm_tw (n := 1682) (by decide +kernel) rfl, vwX12_draw.1, vwX12_draw.2⟩
theorem mX12_363 : jm_mv RX12 363 iX12_slipOf 5 := ⟨cwX12_slipOf, jm_tw (n := 1688) (by decide +kernel) rfl, vwX12_slipOf.1, vwX12_slipOf.2⟩
theorem mX12_367 : jm_mv RX12 367 iX12_shakeOf 3 := ⟨cwX12_shakeOf, jm_tw (n := 1724) (by decide +kernel) rfl, vwX12_shakeOf.1, vwX12_shakeOf.2⟩
theorem mX12_370 : jm_mv RX12 370 iX12_notes 4 := ⟨cwX12_notes, jm_tw (n := 1728) (by decide +kernel) rfl, vwX12_notes.1, vwX12_notes.2⟩
theorem mX12_373 : jm_mv RX12 373 iX12_canCall 3 := ⟨cwX12_canCall, jm_tw (n := 1634) (by decide +kernel) rfl, vwX12_canCall.1, vwX12_canCall.2⟩
theorem mX12_376 : jm_mv RX12 376 iX12_keepsAhead 0 := ⟨cwX12_keepsAhead, jm_tw (n := 1670) (by decide +kernel) rfl, vwX12_keepsAhead.1, vwX12_keepsAhead.2⟩
theorem mX12_379 : jm_mv RX12 379 iX12_sings 3 := ⟨cwX12_sings, jm_tw (n := 1674) (by decide +kernel) rfl, vwX12_sings.1, vwX12_sings.2⟩
theorem mX12_382 : jm_mv RX12 382 iX12_crosses 1 := ⟨cwX12_crosses, jm_tw (n := 1736) (by decide +kernel) rfl, vwX12_crosses.1, vwX12_crosses.2⟩
theorem mX12_385 : jm_mv RX12 385 iX12_isTestimony 1 := ⟨cwX12_isTestimony, jm_tw (n := 1744) (by decide +kernel) rfl, vwX12_isTestimony.1, vwX12_isTestimony.2⟩
theorem mX12_388 : jm_mv RX12 388 iX12_isStruck 1 := ⟨cwX12_isStruck, jm_tw (n := 1748) (by decide +kernel) rfl, vwX12_isStruck.1, vwX12_isStruck.2⟩
theorem mX12_391 : jm_mv RX12 391 iX12_restsDay 0 := ⟨cwX12_restsDay, jm_tw (n := 1756) (by decide +kernel) rfl, vwX12_restsDay.1, vwX12_restsDay.2⟩
theorem mX12_394 : jm_mv RX12 394 iX12_hoarseMany 0 := ⟨cwX12_hoarseMany, jm_tw (n := 1760) (by decide +kernel) rfl, vwX12_hoarseMany.1, vwX12_hoarseMany.2⟩
theorem mX12_397 : jm_mv RX12 397 iX12_ofDeed 2 := ⟨cwX12_ofDeed, jm_tw (n := 1772) (by decide +kernel) rfl, vwX12_ofDeed.1, vwX12_ofDeed.2⟩
theorem mX12_400 : jm_mv RX12 400 iX12_restsOfTrial 0 := ⟨cwX12_restsOfTrial, jm_tw (n := 1768) (by decide +kernel) rfl, vwX12_restsOfTrial.1, vwX12_restsOfTrial.2⟩
theorem mX12_403 : jm_mv RX12 403 iX12_isDone 1 := ⟨cwX12_isDone, jm_tw (n := 1776) (by decide +kernel) rfl, vwX12_isDone.1, vwX12_isDone.2⟩
theorem mX12_406 : jm_mv RX12 406 iX12_weighOf 4 := ⟨cwX12_weighOf, jm_tw (n := 1788) (by decide +kernel) rfl, vwX12_weighOf.1, vwX12_weighOf.2⟩
theorem mX12_419 : jm_mv RX12 419 iX12_findsKeys 2 := ⟨cwX12_findsKeys, jm_tw (n := 1808) (by decide +kernel) rfl, vwX12_findsKeys.1, vwX12_findsKeys.2⟩
theorem mX12_428 : jm_mv RX12 428 iX12_lesser 2 := ⟨cwX12_lesser, jm_tw (n := 1830) (by decide +kernel) rfl, vwX12_lesser.1, vwX12_lesser.2⟩
theorem mX12_431 : jm_mv RX12 431 iX12_unlikeTo 1 := ⟨cwX12_unlikeTo, jm_tw (n := 1826) (by decide +kernel) rfl, vwX12_unlikeTo.1, vwX12_unlikeTo.2⟩
theorem mX12_434 : jm_mv RX12 434 iX12_soundNow 0 := ⟨cwX12_soundNow, jm_tw (n := 1842) (by decide +kernel) rfl, vwX12_soundNow.1, vwX12_soundNow.2⟩
theorem mX12_437 : jm_mv RX12 437 iX12_far 2 := ⟨cwX12_far, jm_tw (n := 1846) (by decide +kernel) rfl, vwX12_far.1, vwX12_far.2⟩
theorem mX12_440 : jm_mv RX12 440 iX12_doSound 2 := ⟨cwX12_doSound, jm_tw (n := 1838) (by decide +kernel) rfl, vwX12_doSound.1, vwX12_doSound.2⟩
theorem mX12_444 : jm_mv RX12 444 iX12_soundsWith 3 := ⟨cwX12_soundsWith, jm_tw (n := 1854) (by decide +kernel) rfl, vwX12_soundsWith.1, vwX12_soundsWith.2⟩
theorem mX12_447 : jm_mv RX12 447 iX12_greater 2 := ⟨cwX12_greater, jm_tw (n := 1858) (by decide +kernel) rfl, vwX12_greater.1, vwX12_greater.2⟩
theorem mX12_450 : jm_mv RX12 450 iX12_flatsNow 0 := ⟨cwX12_flatsNow, jm_tw (n := 1874) (by decide +kernel) rfl, vwX12_flatsNow.1, vwX12_flatsNow.2⟩
theorem mX12_453 : jm_mv RX12 453 iX12_weighedFor 2 := ⟨cwX12_weighedFor, jm_tw (n := 1870) (by decide +kernel) rfl, vwX12_weighedFor.1, vwX12_weighedFor.2⟩
theorem mX12_456 : jm_mv RX12 456 iX12_needNow 0 := ⟨cwX12_needNow, jm_tw (n := 1886) (by decide +kernel) rfl, vwX12_needNow.1, vwX12_needNow.2⟩
theorem mX12_459 : jm_mv RX12 459 iX12_isFoundWith 3 := ⟨cwX12_isFoundWith, jm_tw (n := 1882) (by decide +kernel) rfl, vwX12_isFoundWith.1, vwX12_isFoundWith.2⟩
theorem mX12_462 : jm_mv RX12 462 iX12_singersFor 2 := ⟨cwX12_singersFor, jm_tw (n := 1894) (by decide +kernel) rfl, vwX12_singersFor.1, vwX12_singersFor.2⟩
theorem mX12_465 : jm_mv RX12 465 iX12_onesOf 1 := ⟨cwX12_onesOf, jm_tw (n := 1898) (by decide +kernel) rfl, vwX12_onesOf.1, vwX12_onesOf.2⟩
theorem mX12_468 : jm_mv RX12 468 iX12_doAgree 2 := ⟨cwX12_doAgree, jm_tw (n := 1910) (by decide +kernel) rfl, vwX12_doAgree.1, vwX12_doAgree.2⟩
theorem mX12_471 : jm_mv RX12 471 iX12_isChoir 1 := ⟨cwX12_isChoir, jm_tw (n := 1906) (by decide +kernel) rfl, vwX12_isChoir.1, vwX12_isChoir.2⟩
theorem mX12_474 : jm_mv RX12 474 iX12_valueIn 2 := ⟨cwX12_valueIn, jm_tw (n := 1926) (by decide +kernel) rfl, vwX12_valueIn.1, vwX12_valueIn.2⟩
theorem mX12_477 : jm_mv RX12 477 iX12_liarsIn 1 := ⟨cwX12_liarsIn, jm_tw (n := 1922) (by decide +kernel) rfl, vwX12_liarsIn.1, vwX12_liarsIn.2⟩
theorem mX12_480 : jm_mv RX12 480 iX12_findsWorlds 1 := ⟨cwX12_findsWorlds, jm_tw (n := 1918) (by decide +kernel) rfl, vwX12_findsWorlds.1, vwX12_findsWorlds.2⟩
theorem mX12_483 : jm_mv RX12 483 iX12_mostIn 1 := ⟨cwX12_mostIn, jm_tw (n := 1930) (by decide +kernel) rfl, vwX12_mostIn.1, vwX12_mostIn.2⟩
theorem mX12_486 : jm_mv RX12 486 iX12_isUnlike 4 := ⟨cwX12_isUnlike, jm_tw (n := 1942) (by decide +kernel) rfl, vwX12_isUnlike.1, vwX12_isUnlike.2⟩
theorem mX12_489 : jm_mv RX12 489 iX12_areWitnesses 4 := ⟨cwX12_areWitnesses, jm_tw (n := 1938) (by decide +kernel) rfl, vwX12_areWitnesses.1, vwX12_areWitnesses.2⟩
theorem mX12_499 : jm_mv RX12 499 iX12_keeps 1 := ⟨cwX12_keeps, jm_tw (n := 1950) (by decide +kernel) rfl, vwX12_keeps.1, vwX12_keeps.2⟩
theorem mX12_505 : jm_mv RX12 505 iX12_keepsTold 0 := ⟨cwX12_keepsTold, jm_tw (n := 1954) (by decide +kernel) rfl, vwX12_keepsTold.1, vwX12_keepsTold.2⟩
theorem mX12_508 : jm_mv RX12 508 iX12_keepsLaw 0 := ⟨cwX12_keepsLaw, jm_tw (n := 1958) (by decide +kernel) rfl, vwX12_keepsLaw.1, vwX12_keepsLaw.2⟩
theorem mX2_27 : jm_mv RX2 27 iX0_motiveOf 2 := ⟨cwX0_motiveOf, jm_tw (n := 773) (by decide +kernel) rfl, vwX0_motiveOf.1, vwX0_motiveOf.2⟩
theorem mX2_31 : jm_mv RX2 31 iX0_canSing 3 := ⟨cwX0_canSing, jm_tw (n := 783) (by decide +kernel) rfl, vwX0_canSing.1, vwX0_canSing.2⟩
theorem mX2_35 : jm_mv RX2 35 iX2_barsOf 2 := ⟨cwX2_barsOf, jm_tw (n := 812) (by decide +kernel) rfl, vwX2_barsOf.1, vwX2_barsOf.2⟩
theorem mX2_38 : jm_mv RX2 38 iX1_hasRoom 1 := ⟨cwX1_hasRoom, jm_tw (n := 816) (by decide +kernel) rfl, vwX1_hasRoom.1, vwX1_hasRoom.2⟩
theorem mX2_63 : jm_mv RX2 63 iX2_singNotes 3 := ⟨cwX2_singNotes, jm_tw (n := 836) (by decide +kernel) rfl, vwX2_singNotes.1, vwX2_singNotes.2⟩
theorem mX2_67 : jm_mv RX2 67 iX0_shakeOf 2 := ⟨cwX0_shakeOf, jm_tw (n := 882) (by decide +kernel) rfl, vwX0_shakeOf.1, vwX0_shakeOf.2⟩
theorem mX2_70 : jm_mv RX2 70 iX2_loseNerve 2 := ⟨cwX2_loseNerve, jm_tw (n := 886) (by decide +kernel) rfl, vwX2_loseNerve.1, vwX2_loseNerve.2⟩
theorem mX2_74 : jm_mv RX2 74 iX1_addTestimony 4 := ⟨cwX1_addTestimony, jm_tw (n := 891) (by decide +kernel) rfl, vwX1_addTestimony.1, vwX1_addTestimony.2⟩
theorem mX2_78 : jm_mv RX2 78 iX1_write 4 := ⟨cwX1_write, jm_tw (n := 895) (by decide +kernel) rfl, vwX1_write.1, vwX1_write.2⟩
theorem mX2_81 : jm_mv RX2 81 iX1_addBar 1 := ⟨cwX1_addBar, jm_tw (n := 840) (by decide +kernel) rfl, vwX1_addBar.1, vwX1_addBar.2⟩
theorem mX2_85 : jm_mv RX2 85 iX1_draw 1 := ⟨cwX1_draw, jm_tw (n := 844) (by decide +kernel) rfl, vwX1_draw.1, vwX1_draw.2⟩
theorem mX2_89 : jm_mv RX2 89 iX0_slipOf 4 := ⟨cwX0_slipOf, jm_tw (n := 850) (by decide +kernel) rfl, vwX0_slipOf.1, vwX0_slipOf.2⟩
theorem mX2_93 : jm_mv RX2 93 iX5_stepOf 2 := ⟨cwX5_stepOf, jm_tw (n := 881) (by decide +kernel) rfl, vwX5_stepOf.1, vwX5_stepOf.2⟩
theorem mX2_99 : jm_mth RX2 99 Lib.Math.max.name Lib.Math.max.code 2 := ⟨jm_tw (n := 890) (by decide +kernel) rfl, jm_tw (n := 801) (by decide +kernel) rfl, jm_tw (n := 19) (by decide +kernel) rfl, jm_tw (n := 802) (by decide +kernel) rfl⟩
theorem mX2_107 : jm_mth RX2 107 Lib.Math.min.name Lib.Math.min.code 2 := ⟨jm_tw (n := 929) (by decide +kernel) rfl, jm_tw (n := 830) (by decide +kernel) rfl, jm_tw (n := 19) (by decide +kernel) rfl, jm_tw (n := 831) (by decide +kernel) rfl⟩
theorem mX2_124 : jm_mv RX2 124 iX2_restOneDay 0 := ⟨cwX2_restOneDay, jm_tw (n := 946) (by decide +kernel) rfl, vwX2_restOneDay.1, vwX2_restOneDay.2⟩
theorem mX2_130 : jm_mv RX2 130 iX2_crossExamine 1 := ⟨cwX2_crossExamine, jm_tw (n := 947) (by decide +kernel) rfl, vwX2_crossExamine.1, vwX2_crossExamine.2⟩
theorem mX2_139 : jm_mv RX2 139 iX2_canBeCalled 3 := ⟨cwX2_canBeCalled, jm_tw (n := 948) (by decide +kernel) rfl, vwX2_canBeCalled.1, vwX2_canBeCalled.2⟩
theorem mX2_142 : jm_mv RX2 142 iX2_sing 3 := ⟨cwX2_sing, jm_tw (n := 949) (by decide +kernel) rfl, vwX2_sing.1, vwX2_sing.2⟩
theorem mX3_37 : jm_acp RX3 37 := ⟨jm_tw (n := 707) (by decide +kernel) rfl, jm_tw (n := 644) (by decide +kernel) rfl, jm_tw (n := 643) (by decide +kernel) rfl, jm_tw (n := 18) (by decide +kernel) rfl⟩
theorem mX3_43 : jm_mv RX3 43 iX3_worth 3 := ⟨cwX3_worth, jm_tw (n := 870) (by decide +kernel) rfl, vwX3_worth.1, vwX3_worth.2⟩
theorem mX3_47 : jm_ms RX3 47 iX3_joined 3 := ⟨cwX3_joined, jm_tw (n := 874) (by decide +kernel) rfl, vwX3_joined⟩
theorem mX4_25 : jm_mv RX4 25 iX3_clear 0 := ⟨cwX3_clear, jm_tw (n := 649) (by decide +kernel) rfl, vwX3_clear.1, vwX3_clear.2⟩
theorem mX4_28 : jm_mv RX4 28 iX7_kind 0 := ⟨cwX7_kind, jm_tw (n := 653) (by decide +kernel) rfl, vwX7_kind.1, vwX7_kind.2⟩
theorem mX4_32 {g : jm_G} (hg : jm_HC g) : jm_mn g RX4 32 iX11_isWithin "SungEvidence" 3 := ⟨cwX11_isWithin, vwX11_isWithin, fun s h => nwX4_32 hg s h⟩
theorem mX4_36 : jm_mv RX4 36 iX7_refuse 1 := ⟨cwX7_refuse, jm_tw (n := 655) (by decide +kernel) rfl, vwX7_refuse.1, vwX7_refuse.2⟩
theorem mX4_40 : jm_mv RX4 40 iX7_skip 0 := ⟨cwX7_skip, jm_tw (n := 656) (by decide +kernel) rfl, vwX7_skip.1, vwX7_skip.2⟩
theorem mX4_43 : jm_mv RX4 43 iX3_openLine 1 := ⟨cwX3_openLine, jm_tw (n := 657) (by decide +kernel) rfl, vwX3_openLine.1, vwX3_openLine.2⟩
theorem mX4_47 : jm_mv RX4 47 iX4_readSum 0 := ⟨cwX4_readSum, jm_tw (n := 661) (by decide +kernel) rfl, vwX4_readSum.1, vwX4_readSum.2⟩
theorem mX4_51 : jm_mv RX4 51 iX3_openCondition 0 := ⟨cwX3_openCondition, jm_tw (n := 679) (by decide +kernel) rfl, vwX3_openCondition.1, vwX3_openCondition.2⟩
theorem mX4_54 : jm_mv RX4 54 iX4_readCondition 1 := ⟨cwX4_readCondition, jm_tw (n := 683) (by decide +kernel) rfl, vwX4_readCondition.1, vwX4_readCondition.2⟩
theorem mX4_57 : jm_mv RX4 57 iX3_closeLine 0 := ⟨cwX3_closeLine, jm_tw (n := 695) (by decide +kernel) rfl, vwX3_closeLine.1, vwX3_closeLine.2⟩
theorem mX4_60 : jm_mv RX4 60 iX7_take 1 := ⟨cwX7_take, jm_tw (n := 691) (by decide +kernel) rfl, vwX7_take.1, vwX7_take.2⟩
theorem mX4_63 : jm_mv RX4 63 iX4_readTest 1 := ⟨cwX4_readTest, jm_tw (n := 687) (by decide +kernel) rfl, vwX4_readTest.1, vwX4_readTest.2⟩
theorem mX4_66 : jm_mv RX4 66 iX3_addOrder 2 := ⟨cwX3_addOrder, jm_tw (n := 674) (by decide +kernel) rfl, vwX3_addOrder.1, vwX3_addOrder.2⟩
theorem mX4_70 : jm_ms RX4 70 iX4_comparisonOf 1 := ⟨cwX4_comparisonOf, jm_tw (n := 692) (by decide +kernel) rfl, vwX4_comparisonOf⟩
theorem mX4_74 : jm_mv RX4 74 iX4_readProduct 0 := ⟨cwX4_readProduct, jm_tw (n := 665) (by decide +kernel) rfl, vwX4_readProduct.1, vwX4_readProduct.2⟩
theorem mX4_77 : jm_mv RX4 77 iX4_readUnit 0 := ⟨cwX4_readUnit, jm_tw (n := 669) (by decide +kernel) rfl, vwX4_readUnit.1, vwX4_readUnit.2⟩
theorem mX4_80 : jm_mv RX4 80 iX7_isNumberWithin 2 := ⟨cwX7_isNumberWithin, jm_tw (n := 678) (by decide +kernel) rfl, vwX7_isNumberWithin.1, vwX7_isNumberWithin.2⟩
theorem mX4_83 : jm_mv RX4 83 iX7_number 0 := ⟨cwX7_number, jm_tw (n := 673) (by decide +kernel) rfl, vwX7_number.1, vwX7_number.2⟩
theorem mX5_24 : jm_acp RX5 24 := ⟨jm_tw (n := 642) (by decide +kernel) rfl, jm_tw (n := 644) (by decide +kernel) rfl, jm_tw (n := 643) (by decide +kernel) rfl, jm_tw (n := 18) (by decide +kernel) rfl⟩
theorem mX5_30 {g : jm_G} (hg : jm_HC g) : jm_mn g RX5 30 iX11_isWithin "SungEvidence" 3 := ⟨cwX11_isWithin, vwX11_isWithin, fun s h => nwX5_30 hg s h⟩
theorem mX5_34 : jm_mv RX5 34 iX5_stepOf 2 := ⟨cwX5_stepOf, jm_tw (n := 795) (by decide +kernel) rfl, vwX5_stepOf.1, vwX5_stepOf.2⟩
theorem mX5_38 : jm_mth RX5 38 Lib.Math.max.name Lib.Math.max.code 2 := ⟨jm_tw (n := 800) (by decide +kernel) rfl, jm_tw (n := 801) (by decide +kernel) rfl, jm_tw (n := 19) (by decide +kernel) rfl, jm_tw (n := 802) (by decide +kernel) rfl⟩
theorem mX5_43 : jm_mv RX5 43 iX7_kind 0 := ⟨cwX7_kind, jm_tw (n := 596) (by decide +kernel) rfl, vwX7_kind.1, vwX7_kind.2⟩
theorem mX5_47 : jm_mv RX5 47 iX5_readLine 1 := ⟨cwX5_readLine, jm_tw (n := 600) (by decide +kernel) rfl, vwX5_readLine.1, vwX5_readLine.2⟩
theorem mX5_51 : jm_mv RX5 51 iX7_refuse 1 := ⟨cwX7_refuse, jm_tw (n := 604) (by decide +kernel) rfl, vwX7_refuse.1, vwX7_refuse.2⟩
theorem mX5_55 : jm_mv RX5 55 iX7_take 1 := ⟨cwX7_take, jm_tw (n := 608) (by decide +kernel) rfl, vwX7_take.1, vwX7_take.2⟩
theorem mX5_58 : jm_mv RX5 58 iX7_isNumberWithin 2 := ⟨cwX7_isNumberWithin, jm_tw (n := 617) (by decide +kernel) rfl, vwX7_isNumberWithin.1, vwX7_isNumberWithin.2⟩
theorem mX5_62 : jm_mv RX5 62 iX7_number 0 := ⟨cwX7_number, jm_tw (n := 625) (by decide +kernel) rfl, vwX7_number.1, vwX7_number.2⟩
theorem mX5_65 : jm_mv RX5 65 iX7_skip 0 := ⟨cwX7_skip, jm_tw (n := 626) (by decide +kernel) rfl, vwX7_skip.1, vwX7_skip.2⟩
theorem mX5_68 : jm_mv RX5 68 iX5_readSteps 2 := ⟨cwX5_readSteps, jm_tw (n := 627) (by decide +kernel) rfl, vwX5_readSteps.1, vwX5_readSteps.2⟩
theorem mX5_72 : jm_ms RX5 72 iX5_readStep 2 := ⟨cwX5_readStep, jm_tw (n := 631) (by decide +kernel) rfl, vwX5_readStep⟩
theorem mX6_39 : jm_acp RX6 39 := ⟨jm_tw (n := 759) (by decide +kernel) rfl, jm_tw (n := 644) (by decide +kernel) rfl, jm_tw (n := 643) (by decide +kernel) rfl, jm_tw (n := 18) (by decide +kernel) rfl⟩
theorem mX6_45 : jm_mv RX6 45 iX7_kind 0 := ⟨cwX7_kind, jm_tw (n := 712) (by decide +kernel) rfl, vwX7_kind.1, vwX7_kind.2⟩
theorem mX6_49 : jm_mv RX6 49 iX6_readEnd 1 := ⟨cwX6_readEnd, jm_tw (n := 713) (by decide +kernel) rfl, vwX6_readEnd.1, vwX6_readEnd.2⟩
theorem mX6_53 : jm_mv RX6 53 iX6_readDeed 2 := ⟨cwX6_readDeed, jm_tw (n := 718) (by decide +kernel) rfl, vwX6_readDeed.1, vwX6_readDeed.2⟩
theorem mX6_57 : jm_mv RX6 57 iX7_refuse 1 := ⟨cwX7_refuse, jm_tw (n := 717) (by decide +kernel) rfl, vwX7_refuse.1, vwX7_refuse.2⟩
theorem mX6_61 : jm_mv RX6 61 iX6_readCall 2 := ⟨cwX6_readCall, jm_tw (n := 722) (by decide +kernel) rfl, vwX6_readCall.1, vwX6_readCall.2⟩
theorem mX6_64 : jm_mv RX6 64 iX6_readCross 2 := ⟨cwX6_readCross, jm_tw (n := 734) (by decide +kernel) rfl, vwX6_readCross.1, vwX6_readCross.2⟩
theorem mX6_67 : jm_mv RX6 67 iX7_skip 0 := ⟨cwX7_skip, jm_tw (n := 726) (by decide +kernel) rfl, vwX7_skip.1, vwX7_skip.2⟩
theorem mX6_70 : jm_mv RX6 70 iX6_addDeed 4 := ⟨cwX6_addDeed, jm_tw (n := 730) (by decide +kernel) rfl, vwX6_addDeed.1, vwX6_addDeed.2⟩
theorem mX6_74 : jm_mv RX6 74 iX6_readAgain 1 := ⟨cwX6_readAgain, jm_tw (n := 738) (by decide +kernel) rfl, vwX6_readAgain.1, vwX6_readAgain.2⟩
theorem mX6_77 : jm_mv RX6 77 iX6_closeAgain 1 := ⟨cwX6_closeAgain, jm_tw (n := 742) (by decide +kernel) rfl, vwX6_closeAgain.1, vwX6_closeAgain.2⟩
theorem mX6_80 : jm_mv RX6 80 iX7_isNumberWithin 2 := ⟨cwX7_isNumberWithin, jm_tw (n := 727) (by decide +kernel) rfl, vwX7_isNumberWithin.1, vwX7_isNumberWithin.2⟩
theorem mX6_84 : jm_mv RX6 84 iX7_number 0 := ⟨cwX7_number, jm_tw (n := 728) (by decide +kernel) rfl, vwX7_number.1, vwX7_number.2⟩
theorem mX6_87 : jm_mv RX6 87 iX7_take 1 := ⟨cwX7_take, jm_tw (n := 729) (by decide +kernel) rfl, vwX7_take.1, vwX7_take.2⟩
theorem mX6_90 : jm_mv RX6 90 iX6_copyDeed 2 := ⟨cwX6_copyDeed, jm_tw (n := 746) (by decide +kernel) rfl, vwX6_copyDeed.1, vwX6_copyDeed.2⟩
theorem mX6_94 {g : jm_G} (hg : jm_HC g) : jm_mn g RX6 94 iX11_isWithin "SungEvidence" 3 := ⟨cwX11_isWithin, vwX11_isWithin, fun s h => nwX6_94 hg s h⟩
theorem mX7_40 : jm_mv RX7 40 iX7_refuse 1 := ⟨cwX7_refuse, jm_tw (n := 612) (by decide +kernel) rfl, vwX7_refuse.1, vwX7_refuse.2⟩
theorem mX7_44 : jm_mv RX7 44 iX7_skip 0 := ⟨cwX7_skip, jm_tw (n := 613) (by decide +kernel) rfl, vwX7_skip.1, vwX7_skip.2⟩
theorem mX7_47 : jm_mv RX7 47 iX7_number 0 := ⟨cwX7_number, jm_tw (n := 621) (by decide +kernel) rfl, vwX7_number.1, vwX7_number.2⟩
theorem mX7_51 {g : jm_G} (hg : jm_HC g) : jm_mn g RX7 51 iX11_isWithin "SungEvidence" 3 := ⟨cwX11_isWithin, vwX11_isWithin, fun s h => nwX7_51 hg s h⟩
theorem mX7_61 : jm_ms RX7 61 iX7_sortOf 1 := ⟨cwX7_sortOf, jm_tw (n := 524) (by decide +kernel) rfl, vwX7_sortOf⟩
theorem mX7_65 : jm_mv RX7 65 iX7_addToken 1 := ⟨cwX7_addToken, jm_tw (n := 528) (by decide +kernel) rfl, vwX7_addToken.1, vwX7_addToken.2⟩
theorem mX7_69 : jm_mv RX7 69 iX7_kindOf 2 := ⟨cwX7_kindOf, jm_tw (n := 532) (by decide +kernel) rfl, vwX7_kindOf.1, vwX7_kindOf.2⟩
theorem mX7_73 : jm_mv RX7 73 iX7_wordOf 2 := ⟨cwX7_wordOf, jm_tw (n := 536) (by decide +kernel) rfl, vwX7_wordOf.1, vwX7_wordOf.2⟩
theorem mX7_76 : jm_mv RX7 76 iJ0_length_8abf5 0 := ⟨cwJ0_length_8abf5, jm_tw (n := 540) (by decide +kernel) rfl, vwJ0_length_8abf5.1, vwJ0_length_8abf5.2⟩
theorem mX7_80 : jm_mv RX7 80 iJ0_charAt_5068e 1 := ⟨cwJ0_charAt_5068e, jm_tw (n := 550) (by decide +kernel) rfl, vwJ0_charAt_5068e.1, vwJ0_charAt_5068e.2⟩
theorem mX7_84 : jm_mv RX7 84 iX7_isSpelled 4 := ⟨cwX7_isSpelled, jm_tw (n := 588) (by decide +kernel) rfl, vwX7_isSpelled.1, vwX7_isSpelled.2⟩
theorem mX8_64 : jm_acp RX8 64 := ⟨jm_tw (n := 1230) (by decide +kernel) rfl, jm_tw (n := 644) (by decide +kernel) rfl, jm_tw (n := 643) (by decide +kernel) rfl, jm_tw (n := 18) (by decide +kernel) rfl⟩
theorem mX8_70 : jm_mv RX8 70 iX5_copyFrom 1 := ⟨cwX5_copyFrom, jm_tw (n := 1231) (by decide +kernel) rfl, vwX5_copyFrom.1, vwX5_copyFrom.2⟩
theorem mX8_74 : jm_mv RX8 74 iX3_copyFrom 1 := ⟨cwX3_copyFrom, jm_tw (n := 1232) (by decide +kernel) rfl, vwX3_copyFrom.1, vwX3_copyFrom.2⟩
theorem mX8_77 : jm_mv RX8 77 iX6_copyFrom 1 := ⟨cwX6_copyFrom, jm_tw (n := 1233) (by decide +kernel) rfl, vwX6_copyFrom.1, vwX6_copyFrom.2⟩
theorem mX8_80 : jm_mv RX8 80 iX8_isWitness 1 := ⟨cwX8_isWitness, jm_tw (n := 781) (by decide +kernel) rfl, vwX8_isWitness.1, vwX8_isWitness.2⟩
theorem mX8_84 {g : jm_G} (hg : jm_HC g) : jm_mn g RX8 84 iX11_isFact "SungEvidence" 1 := ⟨cwX11_isFact, vwX11_isFact, fun s h => nwX8_84 hg s h⟩
theorem mX8_87 : jm_mth RX8 87 Lib.Math.abs.name Lib.Math.abs.code 1 := ⟨jm_tw (n := 1057) (by decide +kernel) rfl, jm_tw (n := 1058) (by decide +kernel) rfl, jm_tw (n := 19) (by decide +kernel) rfl, jm_tw (n := 1059) (by decide +kernel) rfl⟩
theorem mX8_93 : jm_mv RX8 93 iX8_sounds 2 := ⟨cwX8_sounds, jm_tw (n := 1053) (by decide +kernel) rfl, vwX8_sounds.1, vwX8_sounds.2⟩
theorem mX9_40 : jm_mv RX9 40 iX9_weighAll 1 := ⟨cwX9_weighAll, jm_tw (n := 1093) (by decide +kernel) rfl, vwX9_weighAll.1, vwX9_weighAll.2⟩
theorem mX9_50 : jm_mv RX9 50 iX1_ofTestimony 2 := ⟨cwX1_ofTestimony, jm_tw (n := 1097) (by decide +kernel) rfl, vwX1_ofTestimony.1, vwX1_ofTestimony.2⟩
theorem mX9_59 : jm_mv RX9 59 iX0_weightOfTestimony 1 := ⟨cwX0_weightOfTestimony, jm_tw (n := 1098) (by decide +kernel) rfl, vwX0_weightOfTestimony.1, vwX0_weightOfTestimony.2⟩
theorem mX9_63 : jm_mv RX9 63 iX9_missingFor 1 := ⟨cwX9_missingFor, jm_tw (n := 1107) (by decide +kernel) rfl, vwX9_missingFor.1, vwX9_missingFor.2⟩
theorem mX9_69 : jm_mth RX9 69 Lib.Math.max.name Lib.Math.max.code 2 := ⟨jm_tw (n := 1111) (by decide +kernel) rfl, jm_tw (n := 801) (by decide +kernel) rfl, jm_tw (n := 19) (by decide +kernel) rfl, jm_tw (n := 802) (by decide +kernel) rfl⟩
theorem mX9_74 : jm_mv RX9 74 iX9_callable 2 := ⟨cwX9_callable, jm_tw (n := 1120) (by decide +kernel) rfl, vwX9_callable.1, vwX9_callable.2⟩
theorem mX9_80 : jm_ms RX9 80 iJ6_bitCount_0f7a4 1 := ⟨cwJ6_bitCount_0f7a4, jm_tw (n := 1127) (by decide +kernel) rfl, vwJ6_bitCount_0f7a4⟩
theorem mX9_85 : jm_mv RX9 85 iX9_sumOf 1 := ⟨cwX9_sumOf, jm_tw (n := 1133) (by decide +kernel) rfl, vwX9_sumOf.1, vwX9_sumOf.2⟩
theorem mX9_88 : jm_mv RX9 88 iX0_motiveOf 2 := ⟨cwX0_motiveOf, jm_tw (n := 1124) (by decide +kernel) rfl, vwX0_motiveOf.1, vwX0_motiveOf.2⟩
theorem mX9_91 : jm_mv RX9 91 iX0_howManyKeys 2 := ⟨cwX0_howManyKeys, jm_tw (n := 1125) (by decide +kernel) rfl, vwX0_howManyKeys.1, vwX0_howManyKeys.2⟩
theorem mX9_94 : jm_mv RX9 94 iX0_weightOf 3 := ⟨cwX0_weightOf, jm_tw (n := 1126) (by decide +kernel) rfl, vwX0_weightOf.1, vwX0_weightOf.2⟩
theorem mX9_98 : jm_mv RX9 98 iX9_opponentsOf 1 := ⟨cwX9_opponentsOf, jm_tw (n := 1146) (by decide +kernel) rfl, vwX9_opponentsOf.1, vwX9_opponentsOf.2⟩
theorem mX9_101 : jm_mv RX9 101 iX9_agree 1 := ⟨cwX9_agree, jm_tw (n := 1154) (by decide +kernel) rfl, vwX9_agree.1, vwX9_agree.2⟩
theorem mX9_105 : jm_mv RX9 105 iX8_claimOf 2 := ⟨cwX8_claimOf, jm_tw (n := 1150) (by decide +kernel) rfl, vwX8_claimOf.1, vwX8_claimOf.2⟩
theorem mX9_108 : jm_ms RX9 108 iX9_areUnlike 2 := ⟨cwX9_areUnlike, jm_tw (n := 1151) (by decide +kernel) rfl, vwX9_areUnlike⟩
theorem mX9_112 : jm_mv RX9 112 iX9_tellLiars 0 := ⟨cwX9_tellLiars, jm_tw (n := 1166) (by decide +kernel) rfl, vwX9_tellLiars.1, vwX9_tellLiars.2⟩
theorem mX9_115 : jm_mv RX9 115 iX9_countWorlds 3 := ⟨cwX9_countWorlds, jm_tw (n := 1170) (by decide +kernel) rfl, vwX9_countWorlds.1, vwX9_countWorlds.2⟩
theorem mX9_118 : jm_mv RX9 118 iX9_sureFacts 1 := ⟨cwX9_sureFacts, jm_tw (n := 1174) (by decide +kernel) rfl, vwX9_sureFacts.1, vwX9_sureFacts.2⟩
theorem mX9_121 : jm_mv RX9 121 iX9_factToAsk 1 := ⟨cwX9_factToAsk, jm_tw (n := 1182) (by decide +kernel) rfl, vwX9_factToAsk.1, vwX9_factToAsk.2⟩
theorem mX9_124 : jm_mv RX9 124 iX9_mostAlike 1 := ⟨cwX9_mostAlike, jm_tw (n := 1178) (by decide +kernel) rfl, vwX9_mostAlike.1, vwX9_mostAlike.2⟩
theorem fX0_11 : jm_fl RX0 11 0 2 := ⟨(RX0, TX0, 3), rfl, by decide, uX0, jm_tw (n := 301) (by decide +kernel) rfl⟩
theorem fX0_15 : jm_fl RX0 15 0 0 := ⟨(RX0, TX0, 3), rfl, by decide, uX0, jm_tw (n := 294) (by decide +kernel) rfl⟩
theorem fX0_19 : jm_fl RX0 19 0 1 := ⟨(RX0, TX0, 3), rfl, by decide, uX0, jm_tw (n := 297) (by decide +kernel) rfl⟩
theorem fX0_29 : jm_fl RX0 29 8 10 := ⟨(RX8, TX8, 13), rfl, by decide, uX8, jm_tw (n := 197) (by decide +kernel) rfl⟩
theorem fX0_33 : jm_fl RX0 33 5 1 := ⟨(RX5, TX5, 3), rfl, by decide, uX5, jm_tw (n := 83) (by decide +kernel) rfl⟩
theorem fX0_38 : jm_fl RX0 38 8 1 := ⟨(RX8, TX8, 13), rfl, by decide, uX8, jm_tw (n := 169) (by decide +kernel) rfl⟩
theorem fX0_45 : jm_fl RX0 45 8 2 := ⟨(RX8, TX8, 13), rfl, by decide, uX8, jm_tw (n := 173) (by decide +kernel) rfl⟩
theorem fX0_70 : jm_fl RX0 70 8 11 := ⟨(RX8, TX8, 13), rfl, by decide, uX8, jm_tw (n := 202) (by decide +kernel) rfl⟩
theorem fX0_83 : jm_fl RX0 83 1 3 := ⟨(RX1, TX1, 10), rfl, by decide, uX1, jm_tw (n := 252) (by decide +kernel) rfl⟩
theorem fX0_95 : jm_fl RX0 95 1 2 := ⟨(RX1, TX1, 10), rfl, by decide, uX1, jm_tw (n := 248) (by decide +kernel) rfl⟩
theorem fX0_98 : jm_fl RX0 98 8 3 := ⟨(RX8, TX8, 13), rfl, by decide, uX8, jm_tw (n := 178) (by decide +kernel) rfl⟩
theorem fX0_101 : jm_fl RX0 101 1 1 := ⟨(RX1, TX1, 10), rfl, by decide, uX1, jm_tw (n := 243) (by decide +kernel) rfl⟩
theorem fX1_9 : jm_fl RX1 9 1 0 := ⟨(RX1, TX1, 10), rfl, by decide, uX1, jm_tw (n := 239) (by decide +kernel) rfl⟩
theorem fX1_15 : jm_fl RX1 15 1 1 := ⟨(RX1, TX1, 10), rfl, by decide, uX1, jm_tw (n := 241) (by decide +kernel) rfl⟩
theorem fX1_18 : jm_fl RX1 18 1 2 := ⟨(RX1, TX1, 10), rfl, by decide, uX1, jm_tw (n := 245) (by decide +kernel) rfl⟩
theorem fX1_22 : jm_fl RX1 22 1 3 := ⟨(RX1, TX1, 10), rfl, by decide, uX1, jm_tw (n := 249) (by decide +kernel) rfl⟩
theorem fX1_25 : jm_fl RX1 25 1 4 := ⟨(RX1, TX1, 10), rfl, by decide, uX1, jm_tw (n := 253) (by decide +kernel) rfl⟩
theorem fX1_28 : jm_fl RX1 28 1 5 := ⟨(RX1, TX1, 10), rfl, by decide, uX1, jm_tw (n := 256) (by decide +kernel) rfl⟩
theorem fX1_31 : jm_fl RX1 31 1 6 := ⟨(RX1, TX1, 10), rfl, by decide, uX1, jm_tw (n := 257) (by decide +kernel) rfl⟩
theorem fX1_34 : jm_fl RX1 34 1 7 := ⟨(RX1, TX1, 10), rfl, by decide, uX1, jm_tw (n := 260) (by decide +kernel) rfl⟩
theorem fX1_37 : jm_fl RX1 37 1 8 := ⟨(RX1, TX1, 10), rfl, by decide, uX1, jm_tw (n := 262) (by decide +kernel) rfl⟩
theorem fX1_40 : jm_fl RX1 40 1 9 := ⟨(RX1, TX1, 10), rfl, by decide, uX1, jm_tw (n := 264) (by decide +kernel) rfl⟩
theorem fX10_9 : jm_fl RX10 9 10 3 := ⟨(RX10, TX10, 5), rfl, by decide, uX10, jm_tw (n := 334) (by decide +kernel) rfl⟩
theorem fX10_15 : jm_fl RX10 15 10 4 := ⟨(RX10, TX10, 5), rfl, by decide, uX10, jm_tw (n := 335) (by decide +kernel) rfl⟩
theorem fX10_19 : jm_fl RX10 19 10 0 := ⟨(RX10, TX10, 5), rfl, by decide, uX10, jm_tw (n := 331) (by decide +kernel) rfl⟩
theorem fX10_29 : jm_fl RX10 29 10 1 := ⟨(RX10, TX10, 5), rfl, by decide, uX10, jm_tw (n := 332) (by decide +kernel) rfl⟩
theorem fX10_34 : jm_fl RX10 34 10 2 := ⟨(RX10, TX10, 5), rfl, by decide, uX10, jm_tw (n := 333) (by decide +kernel) rfl⟩
theorem fX10_36 : jm_fl RX10 36 8 10 := ⟨(RX8, TX8, 13), rfl, by decide, uX8, jm_tw (n := 198) (by decide +kernel) rfl⟩
theorem fX10_42 : jm_fl RX10 42 5 1 := ⟨(RX5, TX5, 3), rfl, by decide, uX5, jm_tw (n := 84) (by decide +kernel) rfl⟩
theorem fX10_59 : jm_fl RX10 59 8 8 := ⟨(RX8, TX8, 13), rfl, by decide, uX8, jm_tw (n := 191) (by decide +kernel) rfl⟩
theorem fX10_81 : jm_fl RX10 81 8 9 := ⟨(RX8, TX8, 13), rfl, by decide, uX8, jm_tw (n := 194) (by decide +kernel) rfl⟩
theorem fX10_109 : jm_fl RX10 109 8 1 := ⟨(RX8, TX8, 13), rfl, by decide, uX8, jm_tw (n := 170) (by decide +kernel) rfl⟩
theorem fX10_112 : jm_fl RX10 112 8 2 := ⟨(RX8, TX8, 13), rfl, by decide, uX8, jm_tw (n := 174) (by decide +kernel) rfl⟩
theorem fX11_12 : jm_fl RX11 12 11 0 := ⟨(RX11, TX11, 17), rfl, by decide, uX11, jm_tw (n := 396) (by decide +kernel) rfl⟩
theorem fX11_19 : jm_fl RX11 19 11 1 := ⟨(RX11, TX11, 17), rfl, by decide, uX11, jm_tw (n := 397) (by decide +kernel) rfl⟩
theorem fX11_26 : jm_fl RX11 26 11 2 := ⟨(RX11, TX11, 17), rfl, by decide, uX11, jm_tw (n := 398) (by decide +kernel) rfl⟩
theorem fX11_35 : jm_fl RX11 35 11 3 := ⟨(RX11, TX11, 17), rfl, by decide, uX11, jm_tw (n := 399) (by decide +kernel) rfl⟩
theorem fX11_44 : jm_fl RX11 44 11 4 := ⟨(RX11, TX11, 17), rfl, by decide, uX11, jm_tw (n := 400) (by decide +kernel) rfl⟩
theorem fX11_51 : jm_fl RX11 51 11 5 := ⟨(RX11, TX11, 17), rfl, by decide, uX11, jm_tw (n := 401) (by decide +kernel) rfl⟩
theorem fX11_58 : jm_fl RX11 58 11 6 := ⟨(RX11, TX11, 17), rfl, by decide, uX11, jm_tw (n := 402) (by decide +kernel) rfl⟩
theorem fX11_65 : jm_fl RX11 65 11 7 := ⟨(RX11, TX11, 17), rfl, by decide, uX11, jm_tw (n := 403) (by decide +kernel) rfl⟩
theorem fX11_72 : jm_fl RX11 72 11 8 := ⟨(RX11, TX11, 17), rfl, by decide, uX11, jm_tw (n := 404) (by decide +kernel) rfl⟩
theorem fX11_79 : jm_fl RX11 79 11 9 := ⟨(RX11, TX11, 17), rfl, by decide, uX11, jm_tw (n := 405) (by decide +kernel) rfl⟩
theorem fX11_88 : jm_fl RX11 88 11 10 := ⟨(RX11, TX11, 17), rfl, by decide, uX11, jm_tw (n := 406) (by decide +kernel) rfl⟩
theorem fX11_92 : jm_fl RX11 92 11 11 := ⟨(RX11, TX11, 17), rfl, by decide, uX11, jm_tw (n := 407) (by decide +kernel) rfl⟩
theorem fX11_95 : jm_fl RX11 95 11 12 := ⟨(RX11, TX11, 17), rfl, by decide, uX11, jm_tw (n := 408) (by decide +kernel) rfl⟩
theorem fX11_98 : jm_fl RX11 98 11 13 := ⟨(RX11, TX11, 17), rfl, by decide, uX11, jm_tw (n := 409) (by decide +kernel) rfl⟩
theorem fX11_102 : jm_fl RX11 102 11 14 := ⟨(RX11, TX11, 17), rfl, by decide, uX11, jm_tw (n := 410) (by decide +kernel) rfl⟩
theorem fX11_106 : jm_fl RX11 106 11 15 := ⟨(RX11, TX11, 17), rfl, by decide, uX11, jm_tw (n := 411) (by decide +kernel) rfl⟩
theorem fX11_110 : jm_fl RX11 110 11 16 := ⟨(RX11, TX11, 17), rfl, by decide, uX11, jm_tw (n := 412) (by decide +kernel) rfl⟩
theorem fX11_113 : jm_fl RX11 113 1 0 := ⟨(RX1, TX1, 10), rfl, by decide, uX1, jm_tw (n := 240) (by decide +kernel) rfl⟩
theorem fX11_127 : jm_fl RX11 127 8 0 := ⟨(RX8, TX8, 13), rfl, by decide, uX8, jm_tw (n := 165) (by decide +kernel) rfl⟩
theorem fX11_134 : jm_fl RX11 134 1 2 := ⟨(RX1, TX1, 10), rfl, by decide, uX1, jm_tw (n := 246) (by decide +kernel) rfl⟩
theorem fX11_138 : jm_fl RX11 138 1 3 := ⟨(RX1, TX1, 10), rfl, by decide, uX1, jm_tw (n := 250) (by decide +kernel) rfl⟩
theorem fX11_147 : jm_fl RX11 147 8 4 := ⟨(RX8, TX8, 13), rfl, by decide, uX8, jm_tw (n := 181) (by decide +kernel) rfl⟩
theorem fX11_164 : jm_fl RX11 164 7 1 := ⟨(RX7, TX7, 9), rfl, by decide, uX7, jm_tw (n := 38) (by decide +kernel) rfl⟩
theorem fX11_194 : jm_fl RX11 194 7 2 := ⟨(RX7, TX7, 9), rfl, by decide, uX7, jm_tw (n := 40) (by decide +kernel) rfl⟩
theorem fX11_197 : jm_fl RX11 197 7 3 := ⟨(RX7, TX7, 9), rfl, by decide, uX7, jm_tw (n := 42) (by decide +kernel) rfl⟩
theorem fX11_222 : jm_fl RX11 222 1 1 := ⟨(RX1, TX1, 10), rfl, by decide, uX1, jm_tw (n := 244) (by decide +kernel) rfl⟩
theorem fX11_232 : jm_fl RX11 232 8 12 := ⟨(RX8, TX8, 13), rfl, by decide, uX8, jm_tw (n := 205) (by decide +kernel) rfl⟩
theorem fX11_245 : jm_fl RX11 245 8 1 := ⟨(RX8, TX8, 13), rfl, by decide, uX8, jm_tw (n := 171) (by decide +kernel) rfl⟩
theorem fX11_248 : jm_fl RX11 248 8 2 := ⟨(RX8, TX8, 13), rfl, by decide, uX8, jm_tw (n := 175) (by decide +kernel) rfl⟩
theorem fX11_251 : jm_fl RX11 251 8 3 := ⟨(RX8, TX8, 13), rfl, by decide, uX8, jm_tw (n := 179) (by decide +kernel) rfl⟩
theorem fX11_263 : jm_fl RX11 263 1 6 := ⟨(RX1, TX1, 10), rfl, by decide, uX1, jm_tw (n := 259) (by decide +kernel) rfl⟩
theorem fX11_266 : jm_fl RX11 266 1 7 := ⟨(RX1, TX1, 10), rfl, by decide, uX1, jm_tw (n := 261) (by decide +kernel) rfl⟩
theorem fX11_269 : jm_fl RX11 269 8 10 := ⟨(RX8, TX8, 13), rfl, by decide, uX8, jm_tw (n := 200) (by decide +kernel) rfl⟩
theorem fX11_272 : jm_fl RX11 272 5 1 := ⟨(RX5, TX5, 3), rfl, by decide, uX5, jm_tw (n := 86) (by decide +kernel) rfl⟩
theorem fX11_278 : jm_fl RX11 278 1 8 := ⟨(RX1, TX1, 10), rfl, by decide, uX1, jm_tw (n := 263) (by decide +kernel) rfl⟩
theorem fX11_281 : jm_fl RX11 281 1 9 := ⟨(RX1, TX1, 10), rfl, by decide, uX1, jm_tw (n := 265) (by decide +kernel) rfl⟩
theorem fX11_303 : jm_fl RX11 303 8 8 := ⟨(RX8, TX8, 13), rfl, by decide, uX8, jm_tw (n := 192) (by decide +kernel) rfl⟩
theorem fX11_306 : jm_fl RX11 306 8 9 := ⟨(RX8, TX8, 13), rfl, by decide, uX8, jm_tw (n := 195) (by decide +kernel) rfl⟩
theorem fX11_355 : jm_fl RX11 355 1 4 := ⟨(RX1, TX1, 10), rfl, by decide, uX1, jm_tw (n := 255) (by decide +kernel) rfl⟩
theorem fX11_358 : jm_fl RX11 358 5 0 := ⟨(RX5, TX5, 3), rfl, by decide, uX5, jm_tw (n := 81) (by decide +kernel) rfl⟩
theorem fX11_359 : jm_fl RX11 359 8 11 := ⟨(RX8, TX8, 13), rfl, by decide, uX8, jm_tw (n := 203) (by decide +kernel) rfl⟩
theorem fX11_362 : jm_fl RX11 362 3 0 := ⟨(RX3, TX3, 8), rfl, by decide, uX3, jm_tw (n := 102) (by decide +kernel) rfl⟩
theorem fX11_363 : jm_fl RX11 363 6 0 := ⟨(RX6, TX6, 8), rfl, by decide, uX6, jm_tw (n := 135) (by decide +kernel) rfl⟩
theorem fX11_366 : jm_fl RX11 366 8 5 := ⟨(RX8, TX8, 13), rfl, by decide, uX8, jm_tw (n := 183) (by decide +kernel) rfl⟩
theorem fX11_369 : jm_fl RX11 369 8 6 := ⟨(RX8, TX8, 13), rfl, by decide, uX8, jm_tw (n := 186) (by decide +kernel) rfl⟩
theorem fX11_372 : jm_fl RX11 372 8 7 := ⟨(RX8, TX8, 13), rfl, by decide, uX8, jm_tw (n := 189) (by decide +kernel) rfl⟩
theorem fX12_7 : jm_fl RX12 7 12 1 := ⟨(RX12, TX12, 59), rfl, by decide, uX12, jm_tw (n := 1245) (by decide +kernel) rfl⟩
theorem fX12_13 : jm_fl RX12 13 12 2 := ⟨(RX12, TX12, 59), rfl, by decide, uX12, jm_tw (n := 1246) (by decide +kernel) rfl⟩
theorem fX12_16 : jm_fl RX12 16 12 5 := ⟨(RX12, TX12, 59), rfl, by decide, uX12, jm_tw (n := 1249) (by decide +kernel) rfl⟩
theorem fX12_19 : jm_fl RX12 19 12 6 := ⟨(RX12, TX12, 59), rfl, by decide, uX12, jm_tw (n := 1250) (by decide +kernel) rfl⟩
theorem fX12_22 : jm_fl RX12 22 12 7 := ⟨(RX12, TX12, 59), rfl, by decide, uX12, jm_tw (n := 1251) (by decide +kernel) rfl⟩
theorem fX12_25 : jm_fl RX12 25 12 8 := ⟨(RX12, TX12, 59), rfl, by decide, uX12, jm_tw (n := 1252) (by decide +kernel) rfl⟩
theorem fX12_28 : jm_fl RX12 28 12 12 := ⟨(RX12, TX12, 59), rfl, by decide, uX12, jm_tw (n := 1256) (by decide +kernel) rfl⟩
theorem fX12_31 : jm_fl RX12 31 12 18 := ⟨(RX12, TX12, 59), rfl, by decide, uX12, jm_tw (n := 1262) (by decide +kernel) rfl⟩
theorem fX12_34 : jm_fl RX12 34 12 19 := ⟨(RX12, TX12, 59), rfl, by decide, uX12, jm_tw (n := 1263) (by decide +kernel) rfl⟩
theorem fX12_37 : jm_fl RX12 37 12 20 := ⟨(RX12, TX12, 59), rfl, by decide, uX12, jm_tw (n := 1264) (by decide +kernel) rfl⟩
theorem fX12_40 : jm_fl RX12 40 12 21 := ⟨(RX12, TX12, 59), rfl, by decide, uX12, jm_tw (n := 1265) (by decide +kernel) rfl⟩
theorem fX12_43 : jm_fl RX12 43 12 22 := ⟨(RX12, TX12, 59), rfl, by decide, uX12, jm_tw (n := 1266) (by decide +kernel) rfl⟩
theorem fX12_46 : jm_fl RX12 46 12 23 := ⟨(RX12, TX12, 59), rfl, by decide, uX12, jm_tw (n := 1267) (by decide +kernel) rfl⟩
theorem fX12_49 : jm_fl RX12 49 12 24 := ⟨(RX12, TX12, 59), rfl, by decide, uX12, jm_tw (n := 1268) (by decide +kernel) rfl⟩
theorem fX12_52 : jm_fl RX12 52 12 25 := ⟨(RX12, TX12, 59), rfl, by decide, uX12, jm_tw (n := 1269) (by decide +kernel) rfl⟩
theorem fX12_55 : jm_fl RX12 55 12 29 := ⟨(RX12, TX12, 59), rfl, by decide, uX12, jm_tw (n := 1273) (by decide +kernel) rfl⟩
theorem fX12_58 : jm_fl RX12 58 12 34 := ⟨(RX12, TX12, 59), rfl, by decide, uX12, jm_tw (n := 1278) (by decide +kernel) rfl⟩
theorem fX12_62 : jm_fl RX12 62 12 36 := ⟨(RX12, TX12, 59), rfl, by decide, uX12, jm_tw (n := 1280) (by decide +kernel) rfl⟩
theorem fX12_65 : jm_fl RX12 65 12 37 := ⟨(RX12, TX12, 59), rfl, by decide, uX12, jm_tw (n := 1281) (by decide +kernel) rfl⟩
theorem fX12_68 : jm_fl RX12 68 12 40 := ⟨(RX12, TX12, 59), rfl, by decide, uX12, jm_tw (n := 1284) (by decide +kernel) rfl⟩
theorem fX12_71 : jm_fl RX12 71 12 41 := ⟨(RX12, TX12, 59), rfl, by decide, uX12, jm_tw (n := 1285) (by decide +kernel) rfl⟩
theorem fX12_74 : jm_fl RX12 74 12 42 := ⟨(RX12, TX12, 59), rfl, by decide, uX12, jm_tw (n := 1286) (by decide +kernel) rfl⟩
theorem fX12_77 : jm_fl RX12 77 12 43 := ⟨(RX12, TX12, 59), rfl, by decide, uX12, jm_tw (n := 1287) (by decide +kernel) rfl⟩
theorem fX12_80 : jm_fl RX12 80 12 44 := ⟨(RX12, TX12, 59), rfl, by decide, uX12, jm_tw (n := 1288) (by decide +kernel) rfl⟩
theorem fX12_83 : jm_fl RX12 83 12 45 := ⟨(RX12, TX12, 59), rfl, by decide, uX12, jm_tw (n := 1289) (by decide +kernel) rfl⟩
theorem fX12_86 : jm_fl RX12 86 12 46 := ⟨(RX12, TX12, 59), rfl, by decide, uX12, jm_tw (n := 1290) (by decide +kernel) rfl⟩
theorem fX12_89 : jm_fl RX12 89 12 47 := ⟨(RX12, TX12, 59), rfl, by decide, uX12, jm_tw (n := 1291) (by decide +kernel) rfl⟩
theorem fX12_92 : jm_fl RX12 92 12 51 := ⟨(RX12, TX12, 59), rfl, by decide, uX12, jm_tw (n := 1295) (by decide +kernel) rfl⟩
theorem fX12_95 : jm_fl RX12 95 12 53 := ⟨(RX12, TX12, 59), rfl, by decide, uX12, jm_tw (n := 1297) (by decide +kernel) rfl⟩
theorem fX12_98 : jm_fl RX12 98 12 54 := ⟨(RX12, TX12, 59), rfl, by decide, uX12, jm_tw (n := 1298) (by decide +kernel) rfl⟩
theorem fX12_101 : jm_fl RX12 101 12 58 := ⟨(RX12, TX12, 59), rfl, by decide, uX12, jm_tw (n := 1302) (by decide +kernel) rfl⟩
theorem fX12_104 : jm_fl RX12 104 12 0 := ⟨(RX12, TX12, 59), rfl, by decide, uX12, jm_tw (n := 1244) (by decide +kernel) rfl⟩
theorem fX12_107 : jm_fl RX12 107 12 3 := ⟨(RX12, TX12, 59), rfl, by decide, uX12, jm_tw (n := 1247) (by decide +kernel) rfl⟩
theorem fX12_112 : jm_fl RX12 112 12 9 := ⟨(RX12, TX12, 59), rfl, by decide, uX12, jm_tw (n := 1253) (by decide +kernel) rfl⟩
theorem fX12_115 : jm_fl RX12 115 12 10 := ⟨(RX12, TX12, 59), rfl, by decide, uX12, jm_tw (n := 1254) (by decide +kernel) rfl⟩
theorem fX12_118 : jm_fl RX12 118 12 11 := ⟨(RX12, TX12, 59), rfl, by decide, uX12, jm_tw (n := 1255) (by decide +kernel) rfl⟩
theorem fX12_121 : jm_fl RX12 121 12 4 := ⟨(RX12, TX12, 59), rfl, by decide, uX12, jm_tw (n := 1248) (by decide +kernel) rfl⟩
theorem fX12_146 : jm_fl RX12 146 12 13 := ⟨(RX12, TX12, 59), rfl, by decide, uX12, jm_tw (n := 1257) (by decide +kernel) rfl⟩
theorem fX12_153 : jm_fl RX12 153 12 14 := ⟨(RX12, TX12, 59), rfl, by decide, uX12, jm_tw (n := 1258) (by decide +kernel) rfl⟩
theorem fX12_160 : jm_fl RX12 160 12 15 := ⟨(RX12, TX12, 59), rfl, by decide, uX12, jm_tw (n := 1259) (by decide +kernel) rfl⟩
theorem fX12_163 : jm_fl RX12 163 12 16 := ⟨(RX12, TX12, 59), rfl, by decide, uX12, jm_tw (n := 1260) (by decide +kernel) rfl⟩
theorem fX12_166 : jm_fl RX12 166 12 17 := ⟨(RX12, TX12, 59), rfl, by decide, uX12, jm_tw (n := 1261) (by decide +kernel) rfl⟩
theorem fX12_182 : jm_fl RX12 182 12 31 := ⟨(RX12, TX12, 59), rfl, by decide, uX12, jm_tw (n := 1275) (by decide +kernel) rfl⟩
theorem fX12_185 : jm_fl RX12 185 12 32 := ⟨(RX12, TX12, 59), rfl, by decide, uX12, jm_tw (n := 1276) (by decide +kernel) rfl⟩
theorem fX12_188 : jm_fl RX12 188 12 27 := ⟨(RX12, TX12, 59), rfl, by decide, uX12, jm_tw (n := 1271) (by decide +kernel) rfl⟩
theorem fX12_216 : jm_fl RX12 216 12 30 := ⟨(RX12, TX12, 59), rfl, by decide, uX12, jm_tw (n := 1274) (by decide +kernel) rfl⟩
theorem fX12_219 : jm_fl RX12 219 12 28 := ⟨(RX12, TX12, 59), rfl, by decide, uX12, jm_tw (n := 1272) (by decide +kernel) rfl⟩
theorem fX12_241 : jm_fl RX12 241 12 26 := ⟨(RX12, TX12, 59), rfl, by decide, uX12, jm_tw (n := 1270) (by decide +kernel) rfl⟩
theorem fX12_259 : jm_fl RX12 259 12 38 := ⟨(RX12, TX12, 59), rfl, by decide, uX12, jm_tw (n := 1282) (by decide +kernel) rfl⟩
theorem fX12_290 : jm_fl RX12 290 12 35 := ⟨(RX12, TX12, 59), rfl, by decide, uX12, jm_tw (n := 1279) (by decide +kernel) rfl⟩
theorem fX12_293 : jm_fl RX12 293 12 39 := ⟨(RX12, TX12, 59), rfl, by decide, uX12, jm_tw (n := 1283) (by decide +kernel) rfl⟩
theorem fX12_296 : jm_fl RX12 296 12 33 := ⟨(RX12, TX12, 59), rfl, by decide, uX12, jm_tw (n := 1277) (by decide +kernel) rfl⟩
theorem fX12_410 : jm_fl RX12 410 12 48 := ⟨(RX12, TX12, 59), rfl, by decide, uX12, jm_tw (n := 1292) (by decide +kernel) rfl⟩
theorem fX12_413 : jm_fl RX12 413 12 49 := ⟨(RX12, TX12, 59), rfl, by decide, uX12, jm_tw (n := 1293) (by decide +kernel) rfl⟩
theorem fX12_416 : jm_fl RX12 416 12 50 := ⟨(RX12, TX12, 59), rfl, by decide, uX12, jm_tw (n := 1294) (by decide +kernel) rfl⟩
theorem fX12_425 : jm_fl RX12 425 12 52 := ⟨(RX12, TX12, 59), rfl, by decide, uX12, jm_tw (n := 1296) (by decide +kernel) rfl⟩
theorem fX12_492 : jm_fl RX12 492 12 57 := ⟨(RX12, TX12, 59), rfl, by decide, uX12, jm_tw (n := 1301) (by decide +kernel) rfl⟩
theorem fX12_495 : jm_fl RX12 495 12 55 := ⟨(RX12, TX12, 59), rfl, by decide, uX12, jm_tw (n := 1299) (by decide +kernel) rfl⟩
theorem fX12_502 : jm_fl RX12 502 12 56 := ⟨(RX12, TX12, 59), rfl, by decide, uX12, jm_tw (n := 1300) (by decide +kernel) rfl⟩
theorem fX2_9 : jm_fl RX2 9 2 0 := ⟨(RX2, TX2, 3), rfl, by decide, uX2, jm_tw (n := 315) (by decide +kernel) rfl⟩
theorem fX2_21 : jm_fl RX2 21 2 1 := ⟨(RX2, TX2, 3), rfl, by decide, uX2, jm_tw (n := 316) (by decide +kernel) rfl⟩
theorem fX2_26 : jm_fl RX2 26 2 2 := ⟨(RX2, TX2, 3), rfl, by decide, uX2, jm_tw (n := 317) (by decide +kernel) rfl⟩
theorem fX2_44 : jm_fl RX2 44 8 10 := ⟨(RX8, TX8, 13), rfl, by decide, uX8, jm_tw (n := 199) (by decide +kernel) rfl⟩
theorem fX2_50 : jm_fl RX2 50 5 1 := ⟨(RX5, TX5, 3), rfl, by decide, uX5, jm_tw (n := 85) (by decide +kernel) rfl⟩
theorem fX2_56 : jm_fl RX2 56 8 3 := ⟨(RX8, TX8, 13), rfl, by decide, uX8, jm_tw (n := 177) (by decide +kernel) rfl⟩
theorem fX2_59 : jm_fl RX2 59 1 6 := ⟨(RX1, TX1, 10), rfl, by decide, uX1, jm_tw (n := 258) (by decide +kernel) rfl⟩
theorem fX2_96 : jm_fl RX2 96 1 2 := ⟨(RX1, TX1, 10), rfl, by decide, uX1, jm_tw (n := 247) (by decide +kernel) rfl⟩
theorem fX2_104 : jm_fl RX2 104 8 0 := ⟨(RX8, TX8, 13), rfl, by decide, uX8, jm_tw (n := 167) (by decide +kernel) rfl⟩
theorem fX2_110 : jm_fl RX2 110 1 3 := ⟨(RX1, TX1, 10), rfl, by decide, uX1, jm_tw (n := 251) (by decide +kernel) rfl⟩
theorem fX2_113 : jm_fl RX2 113 1 1 := ⟨(RX1, TX1, 10), rfl, by decide, uX1, jm_tw (n := 242) (by decide +kernel) rfl⟩
theorem fX2_116 : jm_fl RX2 116 6 0 := ⟨(RX6, TX6, 8), rfl, by decide, uX6, jm_tw (n := 134) (by decide +kernel) rfl⟩
theorem fX2_121 : jm_fl RX2 121 6 1 := ⟨(RX6, TX6, 8), rfl, by decide, uX6, jm_tw (n := 137) (by decide +kernel) rfl⟩
theorem fX2_127 : jm_fl RX2 127 6 2 := ⟨(RX6, TX6, 8), rfl, by decide, uX6, jm_tw (n := 139) (by decide +kernel) rfl⟩
theorem fX2_133 : jm_fl RX2 133 6 3 := ⟨(RX6, TX6, 8), rfl, by decide, uX6, jm_tw (n := 141) (by decide +kernel) rfl⟩
theorem fX2_136 : jm_fl RX2 136 6 4 := ⟨(RX6, TX6, 8), rfl, by decide, uX6, jm_tw (n := 143) (by decide +kernel) rfl⟩
theorem fX3_9 : jm_fl RX3 9 3 0 := ⟨(RX3, TX3, 8), rfl, by decide, uX3, jm_tw (n := 101) (by decide +kernel) rfl⟩
theorem fX3_15 : jm_fl RX3 15 3 1 := ⟨(RX3, TX3, 8), rfl, by decide, uX3, jm_tw (n := 103) (by decide +kernel) rfl⟩
theorem fX3_18 : jm_fl RX3 18 3 2 := ⟨(RX3, TX3, 8), rfl, by decide, uX3, jm_tw (n := 104) (by decide +kernel) rfl⟩
theorem fX3_22 : jm_fl RX3 22 3 3 := ⟨(RX3, TX3, 8), rfl, by decide, uX3, jm_tw (n := 105) (by decide +kernel) rfl⟩
theorem fX3_25 : jm_fl RX3 25 3 4 := ⟨(RX3, TX3, 8), rfl, by decide, uX3, jm_tw (n := 106) (by decide +kernel) rfl⟩
theorem fX3_28 : jm_fl RX3 28 3 5 := ⟨(RX3, TX3, 8), rfl, by decide, uX3, jm_tw (n := 107) (by decide +kernel) rfl⟩
theorem fX3_31 : jm_fl RX3 31 3 6 := ⟨(RX3, TX3, 8), rfl, by decide, uX3, jm_tw (n := 108) (by decide +kernel) rfl⟩
theorem fX3_34 : jm_fl RX3 34 3 7 := ⟨(RX3, TX3, 8), rfl, by decide, uX3, jm_tw (n := 109) (by decide +kernel) rfl⟩
theorem fX4_17 : jm_fl RX4 17 4 0 := ⟨(RX4, TX4, 2), rfl, by decide, uX4, jm_tw (n := 388) (by decide +kernel) rfl⟩
theorem fX4_21 : jm_fl RX4 21 4 1 := ⟨(RX4, TX4, 2), rfl, by decide, uX4, jm_tw (n := 389) (by decide +kernel) rfl⟩
theorem fX5_11 : jm_fl RX5 11 5 0 := ⟨(RX5, TX5, 3), rfl, by decide, uX5, jm_tw (n := 80) (by decide +kernel) rfl⟩
theorem fX5_17 : jm_fl RX5 17 5 1 := ⟨(RX5, TX5, 3), rfl, by decide, uX5, jm_tw (n := 82) (by decide +kernel) rfl⟩
theorem fX5_21 : jm_fl RX5 21 5 2 := ⟨(RX5, TX5, 3), rfl, by decide, uX5, jm_tw (n := 87) (by decide +kernel) rfl⟩
theorem fX6_11 : jm_fl RX6 11 6 0 := ⟨(RX6, TX6, 8), rfl, by decide, uX6, jm_tw (n := 133) (by decide +kernel) rfl⟩
theorem fX6_17 : jm_fl RX6 17 6 1 := ⟨(RX6, TX6, 8), rfl, by decide, uX6, jm_tw (n := 136) (by decide +kernel) rfl⟩
theorem fX6_21 : jm_fl RX6 21 6 2 := ⟨(RX6, TX6, 8), rfl, by decide, uX6, jm_tw (n := 138) (by decide +kernel) rfl⟩
theorem fX6_24 : jm_fl RX6 24 6 3 := ⟨(RX6, TX6, 8), rfl, by decide, uX6, jm_tw (n := 140) (by decide +kernel) rfl⟩
theorem fX6_27 : jm_fl RX6 27 6 4 := ⟨(RX6, TX6, 8), rfl, by decide, uX6, jm_tw (n := 142) (by decide +kernel) rfl⟩
theorem fX6_30 : jm_fl RX6 30 6 5 := ⟨(RX6, TX6, 8), rfl, by decide, uX6, jm_tw (n := 144) (by decide +kernel) rfl⟩
theorem fX6_33 : jm_fl RX6 33 6 6 := ⟨(RX6, TX6, 8), rfl, by decide, uX6, jm_tw (n := 145) (by decide +kernel) rfl⟩
theorem fX6_36 : jm_fl RX6 36 6 7 := ⟨(RX6, TX6, 8), rfl, by decide, uX6, jm_tw (n := 146) (by decide +kernel) rfl⟩
theorem fX7_11 : jm_fl RX7 11 7 0 := ⟨(RX7, TX7, 9), rfl, by decide, uX7, jm_tw (n := 36) (by decide +kernel) rfl⟩
theorem fX7_15 : jm_fl RX7 15 7 1 := ⟨(RX7, TX7, 9), rfl, by decide, uX7, jm_tw (n := 37) (by decide +kernel) rfl⟩
theorem fX7_19 : jm_fl RX7 19 7 2 := ⟨(RX7, TX7, 9), rfl, by decide, uX7, jm_tw (n := 39) (by decide +kernel) rfl⟩
theorem fX7_22 : jm_fl RX7 22 7 3 := ⟨(RX7, TX7, 9), rfl, by decide, uX7, jm_tw (n := 41) (by decide +kernel) rfl⟩
theorem fX7_25 : jm_fl RX7 25 7 4 := ⟨(RX7, TX7, 9), rfl, by decide, uX7, jm_tw (n := 43) (by decide +kernel) rfl⟩
theorem fX7_28 : jm_fl RX7 28 7 5 := ⟨(RX7, TX7, 9), rfl, by decide, uX7, jm_tw (n := 44) (by decide +kernel) rfl⟩
theorem fX7_31 : jm_fl RX7 31 7 6 := ⟨(RX7, TX7, 9), rfl, by decide, uX7, jm_tw (n := 45) (by decide +kernel) rfl⟩
theorem fX7_34 : jm_fl RX7 34 7 7 := ⟨(RX7, TX7, 9), rfl, by decide, uX7, jm_tw (n := 46) (by decide +kernel) rfl⟩
theorem fX7_37 : jm_fl RX7 37 7 8 := ⟨(RX7, TX7, 9), rfl, by decide, uX7, jm_tw (n := 47) (by decide +kernel) rfl⟩
theorem fX8_9 : jm_fl RX8 9 8 0 := ⟨(RX8, TX8, 13), rfl, by decide, uX8, jm_tw (n := 164) (by decide +kernel) rfl⟩
theorem fX8_15 : jm_fl RX8 15 8 1 := ⟨(RX8, TX8, 13), rfl, by decide, uX8, jm_tw (n := 168) (by decide +kernel) rfl⟩
theorem fX8_19 : jm_fl RX8 19 8 2 := ⟨(RX8, TX8, 13), rfl, by decide, uX8, jm_tw (n := 172) (by decide +kernel) rfl⟩
theorem fX8_22 : jm_fl RX8 22 8 3 := ⟨(RX8, TX8, 13), rfl, by decide, uX8, jm_tw (n := 176) (by decide +kernel) rfl⟩
theorem fX8_25 : jm_fl RX8 25 8 4 := ⟨(RX8, TX8, 13), rfl, by decide, uX8, jm_tw (n := 180) (by decide +kernel) rfl⟩
theorem fX8_28 : jm_fl RX8 28 8 5 := ⟨(RX8, TX8, 13), rfl, by decide, uX8, jm_tw (n := 182) (by decide +kernel) rfl⟩
theorem fX8_31 : jm_fl RX8 31 8 6 := ⟨(RX8, TX8, 13), rfl, by decide, uX8, jm_tw (n := 184) (by decide +kernel) rfl⟩
theorem fX8_34 : jm_fl RX8 34 8 7 := ⟨(RX8, TX8, 13), rfl, by decide, uX8, jm_tw (n := 187) (by decide +kernel) rfl⟩
theorem fX8_37 : jm_fl RX8 37 8 8 := ⟨(RX8, TX8, 13), rfl, by decide, uX8, jm_tw (n := 190) (by decide +kernel) rfl⟩
theorem fX8_40 : jm_fl RX8 40 8 9 := ⟨(RX8, TX8, 13), rfl, by decide, uX8, jm_tw (n := 193) (by decide +kernel) rfl⟩
theorem fX8_46 : jm_fl RX8 46 8 10 := ⟨(RX8, TX8, 13), rfl, by decide, uX8, jm_tw (n := 196) (by decide +kernel) rfl⟩
theorem fX8_53 : jm_fl RX8 53 8 11 := ⟨(RX8, TX8, 13), rfl, by decide, uX8, jm_tw (n := 201) (by decide +kernel) rfl⟩
theorem fX8_60 : jm_fl RX8 60 8 12 := ⟨(RX8, TX8, 13), rfl, by decide, uX8, jm_tw (n := 204) (by decide +kernel) rfl⟩
theorem fX9_9 : jm_fl RX9 9 9 3 := ⟨(RX9, TX9, 7), rfl, by decide, uX9, jm_tw (n := 357) (by decide +kernel) rfl⟩
theorem fX9_15 : jm_fl RX9 15 9 4 := ⟨(RX9, TX9, 7), rfl, by decide, uX9, jm_tw (n := 358) (by decide +kernel) rfl⟩
theorem fX9_18 : jm_fl RX9 18 9 5 := ⟨(RX9, TX9, 7), rfl, by decide, uX9, jm_tw (n := 359) (by decide +kernel) rfl⟩
theorem fX9_21 : jm_fl RX9 21 9 6 := ⟨(RX9, TX9, 7), rfl, by decide, uX9, jm_tw (n := 360) (by decide +kernel) rfl⟩
theorem fX9_24 : jm_fl RX9 24 9 0 := ⟨(RX9, TX9, 7), rfl, by decide, uX9, jm_tw (n := 354) (by decide +kernel) rfl⟩
theorem fX9_34 : jm_fl RX9 34 9 1 := ⟨(RX9, TX9, 7), rfl, by decide, uX9, jm_tw (n := 355) (by decide +kernel) rfl⟩
theorem fX9_39 : jm_fl RX9 39 9 2 := ⟨(RX9, TX9, 7), rfl, by decide, uX9, jm_tw (n := 356) (by decide +kernel) rfl⟩
theorem fX9_44 : jm_fl RX9 44 1 4 := ⟨(RX1, TX1, 10), rfl, by decide, uX1, jm_tw (n := 254) (by decide +kernel) rfl⟩
theorem fX9_54 : jm_fl RX9 54 8 7 := ⟨(RX8, TX8, 13), rfl, by decide, uX8, jm_tw (n := 188) (by decide +kernel) rfl⟩
theorem fX9_66 : jm_fl RX9 66 8 6 := ⟨(RX8, TX8, 13), rfl, by decide, uX8, jm_tw (n := 185) (by decide +kernel) rfl⟩
theorem fX9_77 : jm_fl RX9 77 8 0 := ⟨(RX8, TX8, 13), rfl, by decide, uX8, jm_tw (n := 166) (by decide +kernel) rfl⟩
theorem kX1_49 : Cond.constant RX1 49 1664525 ∈ jm_T := jm_tw (n := 848) (by decide +kernel) rfl
theorem kX1_50 : Cond.constant RX1 50 1013904223 ∈ jm_T := jm_tw (n := 849) (by decide +kernel) rfl
theorem kX10_35 : Cond.constant RX10 35 1000000 ∈ jm_T := jm_tw (n := 1004) (by decide +kernel) rfl
theorem kX12_110 : Cond.constant RX12 110 1664525 ∈ jm_T := jm_tw (n := 1686) (by decide +kernel) rfl
theorem kX12_111 : Cond.constant RX12 111 1013904223 ∈ jm_T := jm_tw (n := 1687) (by decide +kernel) rfl
theorem kX12_422 : Cond.constant RX12 422 1000000 ∈ jm_T := jm_tw (n := 1816) (by decide +kernel) rfl
theorem kX12_423 : Cond.constantLong RX12 423 1000 ∈ jm_T := jm_tw (n := 1817) (by decide +kernel) rfl
theorem kJ13_314 : Cond.constantLong RJ13 314 6148914691236517205 ∈ jm_T := jm_tw (n := 1209) (by decide +kernel) rfl
theorem kJ13_316 : Cond.constantLong RJ13 316 3689348814741910323 ∈ jm_T := jm_tw (n := 1210) (by decide +kernel) rfl
theorem kJ13_318 : Cond.constantLong RJ13 318 1085102592571150095 ∈ jm_T := jm_tw (n := 1211) (by decide +kernel) rfl
theorem kJ6_265 : Cond.constant RJ6 265 1431655765 ∈ jm_T := jm_tw (n := 1130) (by decide +kernel) rfl
theorem kJ6_266 : Cond.constant RJ6 266 858993459 ∈ jm_T := jm_tw (n := 1131) (by decide +kernel) rfl
theorem kJ6_267 : Cond.constant RJ6 267 252645135 ∈ jm_T := jm_tw (n := 1132) (by decide +kernel) rfl
end JW
