abbrev MT : Type := MethodName × (ByteArray × (Option FieldType × TB))
def mT : List MT := [
  (yX0_add, (cX0_add, ((none), tb_X0_add))),
  (yX0_formOf, (cX0_formOf, ((some (FieldType.object "java/lang/String")), tb_X0_formOf))),
  (yX0_fits, (cX0_fits, ((some FieldType.boolean), tb_X0_fits))),
  (yX0_kindOf, (cX0_kindOf, ((some FieldType.int), tb_X0_kindOf))),
  (yX0_firstWrong, (cX0_firstWrong, ((some FieldType.int), tb_X0_firstWrong))),
  (yX0_letterAt, (cX0_letterAt, ((some FieldType.int), tb_X0_letterAt))),
  (yX0_digitAt, (cX0_digitAt, ((some FieldType.int), tb_X0_digitAt))),
  (yX0_numberAt, (cX0_numberAt, ((some FieldType.int), tb_X0_numberAt))),
  (yX0_tell, (cX0_tell, ((some FieldType.boolean), tb_X0_tell))),
  (yX0_tellDays, (cX0_tellDays, ((some FieldType.boolean), tb_X0_tellDays))),
  (yX1_hear, (cX1_hear, ((some FieldType.int), tb_X1_hear))),
  (yX1_behind, (cX1_behind, ((some (FieldType.object "LeansAgainstReason$Rack")), tb_X1_behind))),
  (yX1_downBehind, (cX1_downBehind, ((some FieldType.int), tb_X1_downBehind))),
  (yX1_downFromThen, (cX1_downFromThen, ((some FieldType.int), tb_X1_downFromThen))),
  (yX1_firstDownBehind, (cX1_firstDownBehind, ((some FieldType.int), tb_X1_firstDownBehind))),
  (yX1_flatBehind, (cX1_flatBehind, ((some FieldType.int), tb_X1_flatBehind))),
  (yX1_betterLean, (cX1_betterLean, ((some FieldType.int), tb_X1_betterLean))),
  (yX1_bestOfThree, (cX1_bestOfThree, ((some FieldType.int), tb_X1_bestOfThree))),
  (yX1_standingLeant, (cX1_standingLeant, ((some FieldType.int), tb_X1_standingLeant))),
  (yX1_toMend, (cX1_toMend, ((some FieldType.int), tb_X1_toMend))),
  (yX1_toBreak, (cX1_toBreak, ((some FieldType.int), tb_X1_toBreak))),
  (yX1_standingWith, (cX1_standingWith, ((some FieldType.int), tb_X1_standingWith))),
  (yX1_safestPlace, (cX1_safestPlace, ((some FieldType.int), tb_X1_safestPlace))),
  (yX1_felledFrom, (cX1_felledFrom, ((some FieldType.int), tb_X1_felledFrom))),
  (yX1_standingRobbed, (cX1_standingRobbed, ((some FieldType.int), tb_X1_standingRobbed))),
  (yX1_nothingToRobBehind, (cX1_nothingToRobBehind, ((some FieldType.int), tb_X1_nothingToRobBehind))),
  (yX1_waysUp, (cX1_waysUp, ((some FieldType.long), tb_X1_waysUp))),
  (yX1_isUpDraughted, (cX1_isUpDraughted, ((some FieldType.boolean), tb_X1_isUpDraughted))),
  (yX1_settled, (cX1_settled, ((some FieldType.int), tb_X1_settled))),
  (yX1_standingPushed, (cX1_standingPushed, ((some FieldType.int), tb_X1_standingPushed))),
  (yX1_weakensAs, (cX1_weakensAs, ((some FieldType.boolean), tb_X1_weakensAs))),
  (yX1_firstMisjudged, (cX1_firstMisjudged, ((some FieldType.int), tb_X1_firstMisjudged))),
  (yX1_termsByLot, (cX1_termsByLot, ((some FieldType.int), tb_X1_termsByLot))),
  (yX1_nextSeed, (cX1_nextSeed, ((some FieldType.int), tb_X1_nextSeed))),
  (yX1_drawBelow, (cX1_drawBelow, ((some FieldType.int), tb_X1_drawBelow))),
  (yX2_become, (cX2_become, ((none), tb_X2_become))),
  (yX2_isPurpose, (cX2_isPurpose, ((some FieldType.boolean), tb_X2_isPurpose))),
  (yX2_isThing, (cX2_isThing, ((some FieldType.boolean), tb_X2_isThing))),
  (yX2_isUp, (cX2_isUp, ((some FieldType.boolean), tb_X2_isUp))),
  (yX2_isFreeFor, (cX2_isFreeFor, ((some FieldType.boolean), tb_X2_isFreeFor))),
  (yX2_standing, (cX2_standing, ((some FieldType.int), tb_X2_standing))),
  (yX2_spareOf, (cX2_spareOf, ((some FieldType.int), tb_X2_spareOf))),
  (yX2_allStrength, (cX2_allStrength, ((some FieldType.int), tb_X2_allStrength))),
  (yX2_allLoad, (cX2_allLoad, ((some FieldType.int), tb_X2_allLoad))),
  (yX2_addPurpose, (cX2_addPurpose, ((some FieldType.boolean), tb_X2_addPurpose))),
  (yX2_addThing, (cX2_addThing, ((some FieldType.boolean), tb_X2_addThing))),
  (yX2_leanOn, (cX2_leanOn, ((some FieldType.boolean), tb_X2_leanOn))),
  (yX2_raise, (cX2_raise, ((some FieldType.boolean), tb_X2_raise))),
  (yX2_strengthen, (cX2_strengthen, ((some FieldType.boolean), tb_X2_strengthen))),
  (yX2_moveTo, (cX2_moveTo, ((none), tb_X2_moveTo))),
  (yX2_weigh, (cX2_weigh, ((none), tb_X2_weigh))),
  (yX2_passDays, (cX2_passDays, ((none), tb_X2_passDays))),
  (yX2_passDay, (cX2_passDay, ((none), tb_X2_passDay))),
  (yX2_heaviestOn, (cX2_heaviestOn, ((some FieldType.int), tb_X2_heaviestOn))),
  (yX2_topple, (cX2_topple, ((some FieldType.int), tb_X2_topple))),
  (yX2_felledBy, (cX2_felledBy, ((some FieldType.int), tb_X2_felledBy))),
  (yX2_leastPlaced, (cX2_leastPlaced, ((some FieldType.int), tb_X2_leastPlaced))),
  (yX2_leastPlacedWithoutSpare, (cX2_leastPlacedWithoutSpare, ((some FieldType.int), tb_X2_leastPlacedWithoutSpare))),
  (yX2_worstPush, (cX2_worstPush, ((some FieldType.int), tb_X2_worstPush))),
  (yX2_gapBehind, (cX2_gapBehind, ((some FieldType.int), tb_X2_gapBehind))),
  (yX2_besideFrom, (cX2_besideFrom, ((some FieldType.int), tb_X2_besideFrom))),
  (yX2_longestFrom, (cX2_longestFrom, ((some FieldType.int), tb_X2_longestFrom))),
  (yX2_mostWithin, (cX2_mostWithin, ((some FieldType.int), tb_X2_mostWithin))),
  (yX2_weightOf, (cX2_weightOf, ((some FieldType.int), tb_X2_weightOf))),
  (yX3_by, (cX3_by, ((some FieldType.int), tb_X3_by))),
  (yX3_ofHabit, (cX3_ofHabit, ((some FieldType.int), tb_X3_ofHabit))),
  (yX4_letter, (cX4_letter, ((some FieldType.int), tb_X4_letter))),
  (yX4_rack, (cX4_rack, ((some FieldType.int), tb_X4_rack))),
  (yX4_purpose, (cX4_purpose, ((some FieldType.int), tb_X4_purpose))),
  (yX4_lessNextDay, (cX4_lessNextDay, ((some FieldType.int), tb_X4_lessNextDay))),
  (yX4_spare, (cX4_spare, ((some FieldType.int), tb_X4_spare))),
  (yX4_thing, (cX4_thing, ((some FieldType.int), tb_X4_thing))),
  (yX4_at, (cX4_at, ((some FieldType.int), tb_X4_at))),
  (yX4_count, (cX4_count, ((some FieldType.int), tb_X4_count))),
  (yX4_leans, (cX4_leans, ((some FieldType.int), tb_X4_leans))),
  (yX4_moves, (cX4_moves, ((some FieldType.int), tb_X4_moves))),
  (yX4_setsUp, (cX4_setsUp, ((some FieldType.int), tb_X4_setsUp))),
  (yX4_pushes, (cX4_pushes, ((some FieldType.int), tb_X4_pushes))),
  (yX4_strong, (cX4_strong, ((some FieldType.int), tb_X4_strong))),
  (yX4_turn, (cX4_turn, ((some FieldType.int), tb_X4_turn))),
  (yX4_days, (cX4_days, ((some FieldType.int), tb_X4_days))),
  (yX4_upThen, (cX4_upThen, ((some FieldType.int), tb_X4_upThen))),
  (yX4_allThen, (cX4_allThen, ((some FieldType.int), tb_X4_allThen))),
  (yX4_purposeThen, (cX4_purposeThen, ((some FieldType.int), tb_X4_purposeThen))),
  (yX4_falls, (cX4_falls, ((some FieldType.int), tb_X4_falls))),
  (yX4_first, (cX4_first, ((some FieldType.int), tb_X4_first))),
  (yX4_pushed, (cX4_pushed, ((some FieldType.int), tb_X4_pushed))),
  (yX4_worst, (cX4_worst, ((some FieldType.int), tb_X4_worst))),
  (yX4_gap, (cX4_gap, ((some FieldType.int), tb_X4_gap))),
  (yX4_longest, (cX4_longest, ((some FieldType.int), tb_X4_longest))),
  (yX4_bestPlace, (cX4_bestPlace, ((some FieldType.int), tb_X4_bestPlace))),
  (yX4_lean, (cX4_lean, ((some FieldType.int), tb_X4_lean))),
  (yX4_bestLeans, (cX4_bestLeans, ((some FieldType.int), tb_X4_bestLeans))),
  (yX4_mended, (cX4_mended, ((some FieldType.int), tb_X4_mended))),
  (yX4_key, (cX4_key, ((some FieldType.int), tb_X4_key))),
  (yX4_takes, (cX4_takes, ((some FieldType.int), tb_X4_takes))),
  (yX4_balanced, (cX4_balanced, ((some FieldType.int), tb_X4_balanced))),
  (yX4_thief, (cX4_thief, ((some FieldType.int), tb_X4_thief))),
  (yX4_robbed, (cX4_robbed, ((some FieldType.int), tb_X4_robbed))),
  (yX4_draught, (cX4_draught, ((some FieldType.long), tb_X4_draught))),
  (yX4_offDraught, (cX4_offDraught, ((some FieldType.int), tb_X4_offDraught))),
  (yX4_two, (cX4_two, ((some FieldType.int), tb_X4_two))),
  (yX4_whatWas, (cX4_whatWas, ((some FieldType.int), tb_X4_whatWas))),
  (yX4_kindsThatFit, (cX4_kindsThatFit, ((some FieldType.int), tb_X4_kindsThatFit))),
  (yX4_figuresThatFit, (cX4_figuresThatFit, ((some FieldType.int), tb_X4_figuresThatFit))),
  (yX4_row, (cX4_row, ((some FieldType.int), tb_X4_row))),
  (yX4_judge, (cX4_judge, ((some FieldType.int), tb_X4_judge))),
  (yX4_clear, (cX4_clear, ((some FieldType.int), tb_X4_clear))),
  (yX4_lots, (cX4_lots, ((some FieldType.int), tb_X4_lots))),
  (yX4_image, (cX4_image, ((some FieldType.int), tb_X4_image))),
  (yX4_on, (cX4_on, ((some FieldType.int), tb_X4_on))),
  (yX4_refuse, (cX4_refuse, ((some FieldType.int), tb_X4_refuse))),
  (yX4_offUpThing, (cX4_offUpThing, ((some FieldType.int), tb_X4_offUpThing))),
  (yX4_outside, (cX4_outside, ((some FieldType.int), tb_X4_outside))),
  (yX4_isNeither, (cX4_isNeither, ((some FieldType.boolean), tb_X4_isNeither))),
  (yX4_isPlace, (cX4_isPlace, ((some FieldType.boolean), tb_X4_isPlace))),
  (yX4_has, (cX4_has, ((some FieldType.boolean), tb_X4_has))),
  (yX4_power, (cX4_power, ((some FieldType.long), tb_X4_power))),
  (yX4_commonDivisor, (cX4_commonDivisor, ((some FieldType.long), tb_X4_commonDivisor))),
  (yX5_isIn, (cX5_isIn, ((some FieldType.boolean), tb_X5_isIn))),
  (yX5_most, (cX5_most, ((some FieldType.int), tb_X5_most))),
  (yX5_copies, (cX5_copies, ((none), tb_X5_copies))),
  (yX5_no, (cX5_no, ((some FieldType.int), tb_X5_no))),
  (yX5_noFar, (cX5_noFar, ((some FieldType.int), tb_X5_noFar))),
  (yX5_noWide, (cX5_noWide, ((some FieldType.long), tb_X5_noWide))),
  (yX5_ofP, (cX5_ofP, ((some FieldType.int), tb_X5_ofP))),
  (yX5_ofT, (cX5_ofT, ((some FieldType.int), tb_X5_ofT))),
  (yX5_isPurpose, (cX5_isPurpose, ((some FieldType.boolean), tb_X5_isPurpose))),
  (yX5_isThing, (cX5_isThing, ((some FieldType.boolean), tb_X5_isThing))),
  (yX5_isPlace, (cX5_isPlace, ((some FieldType.boolean), tb_X5_isPlace))),
  (yX5_isUp, (cX5_isUp, ((some FieldType.boolean), tb_X5_isUp))),
  (yX5_bits, (cX5_bits, ((some FieldType.int), tb_X5_bits))),
  (yX5_loadOf, (cX5_loadOf, ((some FieldType.int), tb_X5_loadOf))),
  (yX5_spareOf, (cX5_spareOf, ((some FieldType.int), tb_X5_spareOf))),
  (yX5_lessBy, (cX5_lessBy, ((some FieldType.int), tb_X5_lessBy))),
  (yX5_whoAt, (cX5_whoAt, ((some FieldType.int), tb_X5_whoAt))),
  (yX5_fells, (cX5_fells, ((some FieldType.int), tb_X5_fells))),
  (yX5_heaviestOn, (cX5_heaviestOn, ((some FieldType.int), tb_X5_heaviestOn))),
  (yX5_day, (cX5_day, ((none), tb_X5_day))),
  (yX5_daysOn, (cX5_daysOn, ((none), tb_X5_daysOn))),
  (yX5_upSet, (cX5_upSet, ((some FieldType.int), tb_X5_upSet))),
  (yX5_upIn, (cX5_upIn, ((some FieldType.int), tb_X5_upIn))),
  (yX5_letter, (cX5_letter, ((some FieldType.int), tb_X5_letter))),
  (yX5_here, (cX5_here, ((some FieldType.int), tb_X5_here))),
  (yX5_readsNumber, (cX5_readsNumber, ((some FieldType.boolean), tb_X5_readsNumber))),
  (yX5_kindBy, (cX5_kindBy, ((some FieldType.int), tb_X5_kindBy))),
  (yX5_readsKind, (cX5_readsKind, ((some FieldType.boolean), tb_X5_readsKind))),
  (yX5_readsStatement, (cX5_readsStatement, ((some FieldType.boolean), tb_X5_readsStatement))),
  (yX5_addsPurpose, (cX5_addsPurpose, ((some FieldType.boolean), tb_X5_addsPurpose))),
  (yX5_addsThing, (cX5_addsThing, ((some FieldType.boolean), tb_X5_addsThing))),
  (yX5_isDone, (cX5_isDone, ((some FieldType.boolean), tb_X5_isDone))),
  (yX5_rack, (cX5_rack, ((some FieldType.int), tb_X5_rack))),
  (yX5_purpose, (cX5_purpose, ((some FieldType.int), tb_X5_purpose))),
  (yX5_spare, (cX5_spare, ((some FieldType.int), tb_X5_spare))),
  (yX5_thing, (cX5_thing, ((some FieldType.int), tb_X5_thing))),
  (yX5_at, (cX5_at, ((some FieldType.int), tb_X5_at))),
  (yX5_leans, (cX5_leans, ((some FieldType.int), tb_X5_leans))),
  (yX5_moves, (cX5_moves, ((some FieldType.int), tb_X5_moves))),
  (yX5_setsUp, (cX5_setsUp, ((some FieldType.int), tb_X5_setsUp))),
  (yX5_wrongUp, (cX5_wrongUp, ((some FieldType.int), tb_X5_wrongUp))),
  (yX5_pushes, (cX5_pushes, ((some FieldType.int), tb_X5_pushes))),
  (yX5_wrongBy, (cX5_wrongBy, ((some FieldType.int), tb_X5_wrongBy))),
  (yX5_strong, (cX5_strong, ((some FieldType.int), tb_X5_strong))),
  (yX5_turn, (cX5_turn, ((some FieldType.int), tb_X5_turn))),
  (yX5_days, (cX5_days, ((some FieldType.int), tb_X5_days))),
  (yX5_takesOn, (cX5_takesOn, ((none), tb_X5_takesOn))),
  (yX5_upThen, (cX5_upThen, ((some FieldType.int), tb_X5_upThen))),
  (yX5_allThen, (cX5_allThen, ((some FieldType.int), tb_X5_allThen))),
  (yX5_purposeThen, (cX5_purposeThen, ((some FieldType.int), tb_X5_purposeThen))),
  (yX5_downIn, (cX5_downIn, ((some FieldType.int), tb_X5_downIn))),
  (yX5_fallsOf, (cX5_fallsOf, ((some FieldType.int), tb_X5_fallsOf))),
  (yX5_falls, (cX5_falls, ((some FieldType.int), tb_X5_falls))),
  (yX5_first, (cX5_first, ((some FieldType.int), tb_X5_first))),
  (yX5_pushedBy, (cX5_pushedBy, ((some FieldType.int), tb_X5_pushedBy))),
  (yX5_pushed, (cX5_pushed, ((some FieldType.int), tb_X5_pushed))),
  (yX5_worst, (cX5_worst, ((some FieldType.int), tb_X5_worst))),
  (yX5_gap, (cX5_gap, ((some FieldType.int), tb_X5_gap))),
  (yX5_longest, (cX5_longest, ((some FieldType.int), tb_X5_longest))),
  (yX5_orNever, (cX5_orNever, ((some FieldType.int), tb_X5_orNever))),
  (yX5_lean, (cX5_lean, ((some FieldType.int), tb_X5_lean))),
  (yX5_bestLeans, (cX5_bestLeans, ((some FieldType.int), tb_X5_bestLeans))),
  (yX5_upWith, (cX5_upWith, ((some FieldType.int), tb_X5_upWith))),
  (yX5_mended, (cX5_mended, ((some FieldType.int), tb_X5_mended))),
  (yX5_key, (cX5_key, ((some FieldType.int), tb_X5_key))),
  (yX5_takes, (cX5_takes, ((some FieldType.int), tb_X5_takes))),
  (yX5_weightOf, (cX5_weightOf, ((some FieldType.int), tb_X5_weightOf))),
  (yX5_balanced, (cX5_balanced, ((some FieldType.int), tb_X5_balanced))),
  (yX5_leastToPush, (cX5_leastToPush, ((some FieldType.int), tb_X5_leastToPush))),
  (yX5_pushesLeast, (cX5_pushesLeast, ((none), tb_X5_pushesLeast))),
  (yX5_thief, (cX5_thief, ((some FieldType.int), tb_X5_thief))),
  (yX5_robbed, (cX5_robbed, ((some FieldType.int), tb_X5_robbed))),
  (yX5_bestPlace, (cX5_bestPlace, ((some FieldType.int), tb_X5_bestPlace))),
  (yX5_gcd, (cX5_gcd, ((some FieldType.long), tb_X5_gcd))),
  (yX5_partOf, (cX5_partOf, ((some FieldType.long), tb_X5_partOf))),
  (yX5_draught, (cX5_draught, ((some FieldType.long), tb_X5_draught))),
  (yX5_upPushed, (cX5_upPushed, ((some FieldType.int), tb_X5_upPushed))),
  (yX5_two, (cX5_two, ((some FieldType.int), tb_X5_two))),
  (yX5_whatWas, (cX5_whatWas, ((some FieldType.int), tb_X5_whatWas))),
  (yX5_row, (cX5_row, ((some FieldType.int), tb_X5_row))),
  (yX5_judge, (cX5_judge, ((some FieldType.int), tb_X5_judge))),
  (yX5_clear, (cX5_clear, ((some FieldType.int), tb_X5_clear))),
  (yX5_drawn, (cX5_drawn, ((some FieldType.int), tb_X5_drawn))),
  (yX5_strengthAll, (cX5_strengthAll, ((some FieldType.int), tb_X5_strengthAll))),
  (yX5_lots, (cX5_lots, ((some FieldType.int), tb_X5_lots))),
  (yX5_image, (cX5_image, ((some FieldType.int), tb_X5_image))),
  (yX5_on, (cX5_on, ((some FieldType.int), tb_X5_on))),
  (yX5_count, (cX5_count, ((some FieldType.int), tb_X5_count))),
  (yJ6_bitCount_0f7a4, (cJ6_bitCount_0f7a4, ((some FieldType.int), tb_J6_bitCount_0f7a4))),
  (yJ0_length_8abf5, (cJ0_length_8abf5, ((some FieldType.int), tb_J0_length_8abf5))),
  (yJ0_charAt_5068e, (cJ0_charAt_5068e, ((some FieldType.char), tb_J0_charAt_5068e))),
  (yJ0_indexOf_0f7a4, (cJ0_indexOf_0f7a4, ((some FieldType.int), tb_J0_indexOf_0f7a4))),
  (yJ0_indexOf_7cf53, (cJ0_indexOf_7cf53, ((some FieldType.int), tb_J0_indexOf_7cf53))),
  (yJ0_coder_7d493, (cJ0_coder_7d493, ((some FieldType.byte), tb_J0_coder_7d493))),
  (yJ0_isLatin1_aae02, (cJ0_isLatin1_aae02, ((some FieldType.boolean), tb_J0_isLatin1_aae02))),
  (yJ0_checkIndex_df160, (cJ0_checkIndex_df160, ((none), tb_J0_checkIndex_df160))),
  (yJ1_charAt_3b067, (cJ1_charAt_3b067, ((some FieldType.char), tb_J1_charAt_3b067))),
  (yJ1_canEncode_9a6ad, (cJ1_canEncode_9a6ad, ((some FieldType.boolean), tb_J1_canEncode_9a6ad))),
  (yJ1_indexOf_4cfef, (cJ1_indexOf_4cfef, ((some FieldType.int), tb_J1_indexOf_4cfef))),
  (yJ1_indexOfChar_4cfef, (cJ1_indexOfChar_4cfef, ((some FieldType.int), tb_J1_indexOfChar_4cfef))),
  (yJ3_checkIndex_8e157, (cJ3_checkIndex_8e157, ((some FieldType.int), tb_J3_checkIndex_8e157))),
  (yL_law, (code, (some .boolean, tb_L_law)))]
def mD : MT := (yX0_add, (cX0_add, (none, [])))
abbrev MI : Type := Nat × (Nat × (Nat × (Nat × (Nat × (Nat × Bool)))))
def mI : List MI := [(0, (2, (0, (0, (0, (2, false)))))), (0, (1, (0, (0, (6, (1, true)))))), (0, (2, (5, (111, (2, (2, true)))))), (0, (1, (4, (91, (1, (1, true)))))), (0, (4, (6, (132, (1, (1, false)))))), (0, (2, (0, (0, (1, (2, false)))))), (0, (2, (1, (21, (1, (2, false)))))), (0, (2, (2, (42, (1, (2, false)))))), (0, (3, (5, (111, (2, (3, false)))))), (0, (3, (3, (72, (2, (2, true)))))), (1, (5, (6, (133, (1, (2, false)))))), (1, (2, (4, (94, (6, (2, false)))))), (1, (2, (4, (94, (1, (2, false)))))), (1, (3, (3, (72, (1, (2, false)))))), (1, (2, (3, (72, (1, (1, false)))))), (1, (2, (3, (72, (1, (1, false)))))), (1, (7, (4, (94, (1, (2, false)))))), (1, (12, (5, (119, (1, (5, false)))))), (1, (6, (4, (94, (1, (6, false)))))), (1, (6, (5, (117, (1, (2, false)))))), (1, (6, (5, (117, (1, (2, false)))))), (1, (4, (4, (94, (1, (4, false)))))), (1, (6, (4, (91, (1, (2, false)))))), (1, (3, (3, (69, (1, (3, false)))))), (1, (3, (3, (72, (1, (2, false)))))), (1, (3, (3, (72, (1, (1, false)))))), (1, (7, (4, (96, (5, (4, false)))))), (1, (5, (3, (72, (2, (4, false)))))), (1, (5, (5, (117, (1, (4, false)))))), (1, (4, (4, (94, (1, (4, false)))))), (1, (7, (3, (72, (2, (6, false)))))), (1, (4, (3, (72, (1, (3, false)))))), (1, (8, (4, (94, (1, (4, false)))))), (1, (1, (0, (0, (1, (1, true)))))), (1, (2, (0, (0, (1, (2, true)))))), (2, (2, (1, (48, (0, (2, false)))))), (2, (2, (0, (0, (2, (2, false)))))), (2, (2, (0, (0, (2, (2, false)))))), (2, (2, (0, (0, (2, (2, false)))))), (2, (3, (1, (20, (2, (3, false)))))), (2, (1, (1, (20, (1, (1, false)))))), (2, (2, (1, (21, (1, (2, false)))))), (2, (3, (0, (0, (1, (1, false)))))), (2, (3, (0, (0, (1, (1, false)))))), (2, (4, (0, (0, (2, (4, false)))))), (2, (5, (2, (44, (2, (4, false)))))), (2, (3, (1, (23, (2, (3, false)))))), (2, (2, (1, (23, (2, (2, false)))))), (2, (3, (1, (21, (2, (3, false)))))), (2, (3, (2, (42, (0, (3, false)))))), (2, (4, (0, (0, (0, (3, false)))))), (2, (3, (3, (72, (0, (2, false)))))), (2, (3, (2, (50, (0, (1, false)))))), (2, (6, (1, (21, (1, (2, false)))))), (2, (4, (1, (27, (1, (2, false)))))), (2, (8, (0, (0, (1, (3, false)))))), (2, (3, (1, (21, (1, (2, false)))))), (2, (3, (2, (42, (1, (1, false)))))), (2, (6, (1, (27, (1, (1, false)))))), (2, (6, (1, (27, (1, (2, false)))))), (2, (4, (1, (21, (1, (2, false)))))), (2, (5, (2, (44, (1, (1, false)))))), (2, (5, (2, (44, (1, (2, false)))))), (2, (4, (1, (21, (1, (2, false)))))), (3, (8, (1, (22, (1, (5, true)))))), (3, (3, (0, (0, (1, (2, true)))))), (4, (2, (1, (21, (1, (2, false)))))), (4, (3, (7, (157, (1, (1, false)))))), (4, (3, (3, (71, (1, (3, false)))))), (4, (3, (2, (49, (1, (2, false)))))), (4, (2, (2, (42, (1, (2, false)))))), (4, (3, (1, (21, (1, (3, false)))))), (4, (2, (1, (21, (1, (2, false)))))), (4, (2, (1, (22, (1, (2, false)))))), (4, (4, (2, (45, (1, (3, false)))))), (4, (4, (3, (64, (1, (3, false)))))), (4, (2, (2, (44, (1, (2, false)))))), (4, (3, (2, (50, (1, (2, false)))))), (4, (5, (1, (22, (1, (3, false)))))), (4, (6, (1, (22, (1, (4, false)))))), (4, (3, (4, (94, (1, (2, false)))))), (4, (4, (5, (115, (1, (3, false)))))), (4, (3, (5, (115, (1, (2, false)))))), (4, (6, (5, (115, (1, (4, false)))))), (4, (2, (5, (115, (1, (2, false)))))), (4, (3, (5, (115, (1, (2, false)))))), (4, (3, (2, (42, (1, (2, false)))))), (4, (3, (2, (52, (1, (2, false)))))), (4, (3, (2, (52, (1, (2, false)))))), (4, (3, (3, (68, (1, (2, false)))))), (4, (4, (5, (116, (1, (3, false)))))), (4, (3, (5, (120, (1, (2, false)))))), (4, (8, (6, (150, (1, (6, false)))))), (4, (3, (6, (142, (1, (2, false)))))), (4, (3, (6, (142, (1, (2, false)))))), (4, (5, (5, (115, (1, (3, false)))))), (4, (4, (3, (68, (1, (3, false)))))), (4, (3, (4, (94, (1, (2, false)))))), (4, (1, (4, (94, (1, (1, false)))))), (4, (12, (5, (122, (5, (5, false)))))), (4, (5, (1, (21, (1, (5, false)))))), (4, (5, (6, (141, (1, (4, false)))))), (4, (3, (5, (121, (1, (3, false)))))), (4, (4, (4, (98, (1, (2, false)))))), (4, (4, (4, (98, (1, (2, false)))))), (4, (3, (1, (22, (1, (2, false)))))), (4, (2, (4, (95, (1, (1, false)))))), (4, (2, (0, (0, (1, (1, false)))))), (4, (5, (5, (121, (1, (4, false)))))), (4, (1, (2, (69, (1, (1, false)))))), (4, (1, (2, (69, (1, (1, false)))))), (4, (2, (0, (0, (1, (2, false)))))), (4, (2, (1, (21, (1, (2, false)))))), (4, (3, (0, (0, (1, (3, true)))))), (4, (1, (0, (0, (2, (1, true)))))), (4, (1, (0, (0, (2, (1, true)))))), (4, (2, (0, (0, (2, (2, true)))))), (4, (5, (0, (0, (5, (2, true)))))), (4, (11, (0, (0, (5, (2, true)))))), (5, (3, (0, (0, (2, (3, true)))))), (5, (2, (0, (0, (1, (2, true)))))), (5, (3, (0, (0, (0, (2, true)))))), (5, (2, (0, (0, (1, (2, false)))))), (5, (2, (1, (21, (1, (2, false)))))), (5, (2, (1, (21, (5, (2, false)))))), (5, (1, (0, (0, (1, (1, true)))))), (5, (1, (0, (0, (1, (1, true)))))), (5, (2, (1, (22, (2, (2, false)))))), (5, (2, (1, (22, (2, (2, false)))))), (5, (1, (1, (22, (2, (1, true)))))), (5, (2, (1, (20, (2, (2, true)))))), (5, (3, (0, (0, (1, (1, true)))))), (5, (4, (2, (41, (1, (2, true)))))), (5, (2, (3, (64, (1, (2, true)))))), (5, (6, (3, (64, (1, (3, true)))))), (5, (3, (1, (20, (1, (2, true)))))), (5, (5, (2, (42, (1, (2, true)))))), (5, (5, (2, (41, (1, (2, true)))))), (5, (5, (4, (89, (0, (2, false)))))), (5, (4, (5, (113, (0, (3, false)))))), (5, (3, (1, (20, (1, (1, true)))))), (5, (2, (6, (136, (1, (2, false)))))), (5, (2, (1, (21, (1, (2, false)))))), (5, (1, (0, (0, (1, (1, false)))))), (5, (4, (1, (22, (2, (3, false)))))), (5, (1, (0, (0, (1, (1, true)))))), (5, (1, (1, (20, (2, (1, false)))))), (5, (3, (2, (45, (2, (1, false)))))), (5, (5, (1, (20, (2, (4, false)))))), (5, (5, (2, (43, (2, (4, false)))))), (5, (4, (6, (136, (2, (2, false)))))), (5, (6, (7, (159, (1, (1, false)))))), (5, (3, (4, (89, (1, (3, false)))))), (5, (2, (4, (85, (1, (2, false)))))), (5, (3, (2, (43, (1, (3, false)))))), (5, (2, (2, (42, (1, (2, false)))))), (5, (4, (2, (43, (1, (3, false)))))), (5, (5, (2, (43, (1, (3, false)))))), (5, (3, (2, (43, (1, (2, false)))))), (5, (2, (2, (43, (1, (2, false)))))), (5, (3, (3, (66, (1, (2, false)))))), (5, (2, (0, (0, (1, (2, true)))))), (5, (5, (2, (43, (1, (3, false)))))), (5, (7, (2, (43, (1, (4, false)))))), (5, (2, (6, (136, (1, (2, false)))))), (5, (2, (6, (136, (0, (2, false)))))), (5, (4, (7, (157, (1, (3, false)))))), (5, (3, (7, (157, (1, (2, false)))))), (5, (5, (7, (157, (1, (4, false)))))), (5, (5, (5, (113, (1, (3, false)))))), (5, (2, (6, (137, (1, (2, false)))))), (5, (2, (7, (158, (1, (2, false)))))), (5, (7, (7, (158, (1, (2, false)))))), (5, (3, (3, (66, (1, (2, false)))))), (5, (3, (4, (88, (1, (2, false)))))), (5, (7, (3, (66, (1, (2, false)))))), (5, (7, (3, (66, (1, (2, false)))))), (5, (7, (2, (42, (1, (2, false)))))), (5, (1, (0, (0, (1, (1, true)))))), (5, (7, (6, (137, (1, (2, false)))))), (5, (14, (7, (157, (1, (6, false)))))), (5, (4, (7, (157, (1, (4, false)))))), (5, (7, (8, (180, (1, (2, false)))))), (5, (7, (8, (180, (1, (2, false)))))), (5, (5, (7, (157, (1, (3, false)))))), (5, (4, (1, (20, (1, (2, false)))))), (5, (6, (2, (43, (1, (3, false)))))), (5, (4, (4, (85, (1, (2, true)))))), (5, (4, (5, (108, (0, (2, false)))))), (5, (4, (6, (131, (1, (2, false)))))), (5, (2, (6, (131, (1, (1, false)))))), (5, (9, (3, (66, (1, (3, false)))))), (5, (10, (0, (0, (5, (2, true)))))), (5, (5, (1, (29, (5, (3, true)))))), (5, (14, (6, (131, (5, (5, false)))))), (5, (8, (7, (157, (1, (6, false)))))), (5, (9, (8, (184, (1, (4, false)))))), (5, (7, (5, (113, (1, (3, false)))))), (5, (3, (1, (21, (1, (2, false)))))), (5, (3, (5, (113, (1, (1, false)))))), (5, (2, (0, (0, (1, (1, false)))))), (5, (2, (0, (0, (1, (2, false)))))), (5, (3, (1, (20, (1, (1, true)))))), (5, (7, (7, (157, (1, (4, false)))))), (5, (1, (1, (22, (1, (1, false)))))), (5, (1, (1, (22, (1, (1, false)))))), (5, (4, (3, (64, (1, (2, false)))))), (6, (1, (0, (0, (1, (1, true)))))), (7, (1, (1, (20, (1, (1, false)))))), (7, (2, (3, (64, (3, (2, false)))))), (7, (2, (3, (70, (1, (2, false)))))), (7, (3, (2, (48, (1, (3, false)))))), (7, (1, (0, (0, (4, (1, false)))))), (7, (1, (0, (0, (2, (1, false)))))), (7, (2, (1, (22, (0, (2, true)))))), (8, (2, (2, (43, (3, (2, true)))))), (8, (1, (0, (0, (2, (1, true)))))), (8, (4, (1, (25, (1, (4, true)))))), (8, (6, (0, (0, (1, (4, true)))))), (9, (3, (0, (0, (1, (3, true)))))), (10, (4, (9, (212, (2, (1, true))))))]
def mJ : MI := (0, (0, (0, (0, (0, (0, true))))))
def NM : Nat := 221
def k_X0_add : Nat := 0
def k_X0_formOf : Nat := 1
def k_X0_fits : Nat := 2
def k_X0_kindOf : Nat := 3
def k_X0_firstWrong : Nat := 4
def k_X0_letterAt : Nat := 5
def k_X0_digitAt : Nat := 6
def k_X0_numberAt : Nat := 7
def k_X0_tell : Nat := 8
def k_X0_tellDays : Nat := 9
def k_X1_hear : Nat := 10
def k_X1_behind : Nat := 11
def k_X1_downBehind : Nat := 12
def k_X1_downFromThen : Nat := 13
def k_X1_firstDownBehind : Nat := 14
def k_X1_flatBehind : Nat := 15
def k_X1_betterLean : Nat := 16
def k_X1_bestOfThree : Nat := 17
def k_X1_standingLeant : Nat := 18
def k_X1_toMend : Nat := 19
def k_X1_toBreak : Nat := 20
def k_X1_standingWith : Nat := 21
def k_X1_safestPlace : Nat := 22
def k_X1_felledFrom : Nat := 23
def k_X1_standingRobbed : Nat := 24
def k_X1_nothingToRobBehind : Nat := 25
def k_X1_waysUp : Nat := 26
def k_X1_isUpDraughted : Nat := 27
def k_X1_settled : Nat := 28
def k_X1_standingPushed : Nat := 29
def k_X1_weakensAs : Nat := 30
def k_X1_firstMisjudged : Nat := 31
def k_X1_termsByLot : Nat := 32
def k_X1_nextSeed : Nat := 33
def k_X1_drawBelow : Nat := 34
def k_X2_become : Nat := 35
def k_X2_isPurpose : Nat := 36
def k_X2_isThing : Nat := 37
def k_X2_isUp : Nat := 38
def k_X2_isFreeFor : Nat := 39
def k_X2_standing : Nat := 40
def k_X2_spareOf : Nat := 41
def k_X2_allStrength : Nat := 42
def k_X2_allLoad : Nat := 43
def k_X2_addPurpose : Nat := 44
def k_X2_addThing : Nat := 45
def k_X2_leanOn : Nat := 46
def k_X2_raise : Nat := 47
def k_X2_strengthen : Nat := 48
def k_X2_moveTo : Nat := 49
def k_X2_weigh : Nat := 50
def k_X2_passDays : Nat := 51
def k_X2_passDay : Nat := 52
def k_X2_heaviestOn : Nat := 53
def k_X2_topple : Nat := 54
def k_X2_felledBy : Nat := 55
def k_X2_leastPlaced : Nat := 56
def k_X2_leastPlacedWithoutSpare : Nat := 57
def k_X2_worstPush : Nat := 58
def k_X2_gapBehind : Nat := 59
def k_X2_besideFrom : Nat := 60
def k_X2_longestFrom : Nat := 61
def k_X2_mostWithin : Nat := 62
def k_X2_weightOf : Nat := 63
def k_X3_by : Nat := 64
def k_X3_ofHabit : Nat := 65
def k_X4_letter : Nat := 66
def k_X4_rack : Nat := 67
def k_X4_purpose : Nat := 68
def k_X4_lessNextDay : Nat := 69
def k_X4_spare : Nat := 70
def k_X4_thing : Nat := 71
def k_X4_at : Nat := 72
def k_X4_count : Nat := 73
def k_X4_leans : Nat := 74
def k_X4_moves : Nat := 75
def k_X4_setsUp : Nat := 76
def k_X4_pushes : Nat := 77
def k_X4_strong : Nat := 78
def k_X4_turn : Nat := 79
def k_X4_days : Nat := 80
def k_X4_upThen : Nat := 81
def k_X4_allThen : Nat := 82
def k_X4_purposeThen : Nat := 83
def k_X4_falls : Nat := 84
def k_X4_first : Nat := 85
def k_X4_pushed : Nat := 86
def k_X4_worst : Nat := 87
def k_X4_gap : Nat := 88
def k_X4_longest : Nat := 89
def k_X4_bestPlace : Nat := 90
def k_X4_lean : Nat := 91
def k_X4_bestLeans : Nat := 92
def k_X4_mended : Nat := 93
def k_X4_key : Nat := 94
def k_X4_takes : Nat := 95
def k_X4_balanced : Nat := 96
def k_X4_thief : Nat := 97
def k_X4_robbed : Nat := 98
def k_X4_draught : Nat := 99
def k_X4_offDraught : Nat := 100
def k_X4_two : Nat := 101
def k_X4_whatWas : Nat := 102
def k_X4_kindsThatFit : Nat := 103
def k_X4_figuresThatFit : Nat := 104
def k_X4_row : Nat := 105
def k_X4_judge : Nat := 106
def k_X4_clear : Nat := 107
def k_X4_lots : Nat := 108
def k_X4_image : Nat := 109
def k_X4_on : Nat := 110
def k_X4_refuse : Nat := 111
def k_X4_offUpThing : Nat := 112
def k_X4_outside : Nat := 113
def k_X4_isNeither : Nat := 114
def k_X4_isPlace : Nat := 115
def k_X4_has : Nat := 116
def k_X4_power : Nat := 117
def k_X4_commonDivisor : Nat := 118
def k_X5_isIn : Nat := 119
def k_X5_most : Nat := 120
def k_X5_copies : Nat := 121
def k_X5_no : Nat := 122
def k_X5_noFar : Nat := 123
def k_X5_noWide : Nat := 124
def k_X5_ofP : Nat := 125
def k_X5_ofT : Nat := 126
def k_X5_isPurpose : Nat := 127
def k_X5_isThing : Nat := 128
def k_X5_isPlace : Nat := 129
def k_X5_isUp : Nat := 130
def k_X5_bits : Nat := 131
def k_X5_loadOf : Nat := 132
def k_X5_spareOf : Nat := 133
def k_X5_lessBy : Nat := 134
def k_X5_whoAt : Nat := 135
def k_X5_fells : Nat := 136
def k_X5_heaviestOn : Nat := 137
def k_X5_day : Nat := 138
def k_X5_daysOn : Nat := 139
def k_X5_upSet : Nat := 140
def k_X5_upIn : Nat := 141
def k_X5_letter : Nat := 142
def k_X5_here : Nat := 143
def k_X5_readsNumber : Nat := 144
def k_X5_kindBy : Nat := 145
def k_X5_readsKind : Nat := 146
def k_X5_readsStatement : Nat := 147
def k_X5_addsPurpose : Nat := 148
def k_X5_addsThing : Nat := 149
def k_X5_isDone : Nat := 150
def k_X5_rack : Nat := 151
def k_X5_purpose : Nat := 152
def k_X5_spare : Nat := 153
def k_X5_thing : Nat := 154
def k_X5_at : Nat := 155
def k_X5_leans : Nat := 156
def k_X5_moves : Nat := 157
def k_X5_setsUp : Nat := 158
def k_X5_wrongUp : Nat := 159
def k_X5_pushes : Nat := 160
def k_X5_wrongBy : Nat := 161
def k_X5_strong : Nat := 162
def k_X5_turn : Nat := 163
def k_X5_days : Nat := 164
def k_X5_takesOn : Nat := 165
def k_X5_upThen : Nat := 166
def k_X5_allThen : Nat := 167
def k_X5_purposeThen : Nat := 168
def k_X5_downIn : Nat := 169
def k_X5_fallsOf : Nat := 170
def k_X5_falls : Nat := 171
def k_X5_first : Nat := 172
def k_X5_pushedBy : Nat := 173
def k_X5_pushed : Nat := 174
def k_X5_worst : Nat := 175
def k_X5_gap : Nat := 176
def k_X5_longest : Nat := 177
def k_X5_orNever : Nat := 178
def k_X5_lean : Nat := 179
def k_X5_bestLeans : Nat := 180
def k_X5_upWith : Nat := 181
def k_X5_mended : Nat := 182
def k_X5_key : Nat := 183
def k_X5_takes : Nat := 184
def k_X5_weightOf : Nat := 185
def k_X5_balanced : Nat := 186
def k_X5_leastToPush : Nat := 187
def k_X5_pushesLeast : Nat := 188
def k_X5_thief : Nat := 189
def k_X5_robbed : Nat := 190
def k_X5_bestPlace : Nat := 191
def k_X5_gcd : Nat := 192
def k_X5_partOf : Nat := 193
def k_X5_draught : Nat := 194
def k_X5_upPushed : Nat := 195
def k_X5_two : Nat := 196
def k_X5_whatWas : Nat := 197
def k_X5_row : Nat := 198
def k_X5_judge : Nat := 199
def k_X5_clear : Nat := 200
def k_X5_drawn : Nat := 201
def k_X5_strengthAll : Nat := 202
def k_X5_lots : Nat := 203
def k_X5_image : Nat := 204
def k_X5_on : Nat := 205
def k_X5_count : Nat := 206
def k_J6_bitCount_0f7a4 : Nat := 207
def k_J0_length_8abf5 : Nat := 208
def k_J0_charAt_5068e : Nat := 209
def k_J0_indexOf_0f7a4 : Nat := 210
def k_J0_indexOf_7cf53 : Nat := 211
def k_J0_coder_7d493 : Nat := 212
def k_J0_isLatin1_aae02 : Nat := 213
def k_J0_checkIndex_df160 : Nat := 214
def k_J1_charAt_3b067 : Nat := 215
def k_J1_canEncode_9a6ad : Nat := 216
def k_J1_indexOf_4cfef : Nat := 217
def k_J1_indexOfChar_4cfef : Nat := 218
def k_J3_checkIndex_8e157 : Nat := 219
def k_L_law : Nat := 220
def cNs : List String := [RX0, RX1, RX2, RX3, RX4, RX5, RJ6, RJ0, RJ1, RJ3, RL]
def cN (c : Nat) : String := cNs.getD c RX0
/-- Math.max, min: index, which, place of the word -/
def pmT : List (List (Nat × (Nat × Nat))) := [[], [], [(100, (0, 2137))], [], [(160, (1, 3009))], [], [], [], [(38, (1, 2012)), (92, (0, 2009))], [], []]
def pmP : List Nat := [1011, 2010, 2011, 2013, 2014]
def arP : List Nat := [2061, 2063, 2062, 1013]
/-- links of methods: class, then index, callee, place of the word -/
def lkT : List (List (Nat × (Nat × Nat))) := [
  [(33, (3, 1230)), (39, (210, 1234)), (44, (208, 1170)), (48, (1, 1180)), (52, (209, 1189)), (56, (2, 1227)), (60, (5, 2068)), (63, (6, 2072)), (66, (7, 2076)), (69, (44, 2080)), (75, (45, 2084)), (78, (46, 2115)), (82, (47, 2119)), (86, (48, 2120)), (89, (9, 2124)), (96, (52, 2127))],
  [(25, (35, 2057)), (35, (8, 2064)), (39, (5, 2163)), (43, (1, 2164)), (47, (208, 2165)), (53, (51, 3027)), (57, (13, 3047)), (60, (38, 3051)), (64, (52, 3052)), (73, (46, 3129)), (77, (18, 3138)), (81, (40, 3142)), (84, (11, 3152)), (88, (21, 3153)), (92, (48, 3157)), (95, (39, 3112)), (98, (23, 3113)), (102, (49, 3117)), (106, (55, 3118)), (109, (207, 3119)), (114, (57, 3190)), (117, (54, 3194)), (120, (27, 3216)), (131, (56, 3221)), (134, (29, 3237)), (137, (36, 4013)), (152, (33, 4042)), (155, (34, 4047)), (158, (42, 4051))],
  [(65, (207, 2157)), (71, (36, 2088)), (74, (39, 2092)), (78, (47, 2099)), (81, (37, 2103)), (84, (38, 2107)), (87, (50, 2111)), (91, (52, 3014)), (94, (64, 2131)), (106, (41, 2138)), (109, (53, 2142)), (112, (54, 2146)), (115, (55, 2150)), (121, (60, 3099)), (124, (63, 3178))],
  [(7, (65, 2134))],
  [(49, (111, 1153)), (56, (0, 1157)), (60, (4, 1165)), (64, (10, 2053)), (68, (36, 2171)), (84, (69, 2172)), (90, (64, 2176)), (97, (41, 2182)), (100, (37, 2187)), (112, (38, 2188)), (115, (115, 2193)), (130, (42, 2198)), (133, (43, 2202)), (136, (46, 2210)), (140, (39, 2215)), (143, (49, 2216)), (147, (47, 2224)), (150, (112, 2229)), (153, (54, 2233)), (156, (113, 2238)), (166, (51, 3010)), (169, (40, 3015)), (172, (11, 3023)), (176, (114, 3036)), (179, (12, 3043)), (182, (15, 3057)), (185, (14, 3061)), (188, (56, 3065)), (191, (55, 3073)), (194, (58, 3078)), (197, (207, 3082)), (202, (59, 3087)), (205, (61, 3095)), (208, (60, 3103)), (211, (22, 3108)), (214, (23, 3120)), (217, (16, 3125)), (220, (17, 3134)), (224, (18, 3143)), (227, (19, 3148)), (230, (20, 3162)), (233, (62, 3174)), (236, (24, 3186)), (239, (25, 3199)), (242, (100, 3207)), (247, (26, 3212)), (251, (117, 3225)), (255, (118, 3226)), (259, (28, 3233)), (262, (103, 4005)), (265, (104, 4014)), (268, (30, 4009)), (272, (31, 4026)), (276, (32, 4038)), (279, (35, 4056))],
  [(38, (122, 4114)), (44, (119, 4141)), (48, (126, 4168)), (51, (130, 4193)), (55, (125, 4155)), (58, (132, 4190)), (62, (135, 4165)), (65, (134, 4187)), (69, (120, 4196)), (73, (133, 4199)), (76, (137, 4202)), (79, (136, 4205)), (82, (138, 4183)), (86, (139, 4179)), (90, (140, 5024)), (94, (131, 5027)), (104, (143, 4126)), (108, (145, 4134)), (111, (146, 4130)), (115, (144, 4137)), (119, (129, 4162)), (123, (127, 4171)), (126, (148, 4151)), (129, (149, 4158)), (132, (128, 4175)), (135, (147, 4122)), (138, (121, 4144)), (142, (150, 4147)), (145, (123, 4216)), (148, (159, 5005)), (151, (161, 5013)), (154, (165, 5034)), (158, (141, 5042)), (161, (169, 5058)), (165, (170, 5054)), (168, (173, 5070)), (171, (178, 5090)), (174, (181, 5101)), (178, (185, 5117)), (181, (187, 5129)), (185, (188, 5125)), (189, (192, 5152)), (193, (124, 5144)), (197, (193, 5149)), (201, (195, 5159)), (214, (201, 5183)), (217, (202, 5190))],
  [],
  [(335, (212, 1174)), (492, (213, 1193)), (495, (215, 1197)), (505, (208, 2002)), (633, (211, 1238)), (637, (217, 2003)), (1059, (219, 1205))],
  [(9, (214, 1200)), (88, (216, 2006)), (95, (218, 2015))],
  [],
  [(13, (66, 1149)), (17, (142, 4110)), (18, (67, 1161)), (22, (151, 4118)), (23, (68, 2167)), (27, (152, 4208)), (28, (70, 2177)), (31, (153, 4212)), (32, (71, 2183)), (35, (154, 4221)), (36, (72, 2189)), (39, (155, 4225)), (40, (74, 2206)), (43, (156, 4229)), (44, (75, 2211)), (47, (157, 4233)), (48, (76, 2220)), (51, (158, 4237)), (52, (77, 2225)), (55, (160, 5001)), (56, (78, 2234)), (59, (162, 5009)), (60, (79, 3001)), (64, (163, 5016)), (65, (80, 3005)), (68, (164, 5020)), (69, (81, 3019)), (72, (166, 5030)), (73, (82, 3028)), (76, (167, 5038)), (77, (83, 3032)), (80, (168, 5046)), (81, (84, 3039)), (84, (171, 5050)), (85, (85, 3053)), (88, (172, 5062)), (89, (86, 3069)), (92, (174, 5066)), (93, (87, 3074)), (96, (175, 5074)), (97, (88, 3083)), (100, (176, 5078)), (101, (89, 3091)), (104, (177, 5082)), (105, (91, 3121)), (108, (179, 5086)), (109, (92, 3130)), (113, (180, 5093)), (114, (93, 3144)), (117, (182, 5097)), (118, (94, 3158)), (121, (183, 5105)), (122, (95, 3166)), (125, (184, 5109)), (126, (96, 3170)), (129, (186, 5113)), (130, (97, 3182)), (133, (189, 5121)), (134, (98, 3195)), (137, (190, 5132)), (138, (90, 3104)), (141, (191, 5136)), (142, (99, 3203)), (146, (194, 5140)), (147, (101, 3229)), (150, (196, 5155)), (151, (102, 4001)), (154, (197, 5163)), (155, (105, 4018)), (158, (198, 5167)), (159, (106, 4022)), (162, (199, 5171)), (163, (107, 4030)), (166, (200, 5175)), (167, (108, 4034)), (170, (203, 5179)), (171, (109, 4052)), (174, (204, 5193)), (175, (110, 4057)), (178, (205, 5197)), (179, (73, 2194)), (182, (206, 5201))]]
def lkN : List (List (Nat × Nat)) := [[], [(124, 117), (128, 116)], [(61, 115), (118, 116)], [], [], [], [], [], [], [], []]
def nsT : List (Nat × (Nat × Nat)) := [(1, (124, 117)), (1, (128, 116)), (2, (61, 115)), (2, (118, 116))]
/-- fields: index, class of the object (its place in vwC), place of the field, place of the word -/
def fkT : List (List (Nat × (Nat × (Nat × Nat)))) := [
  [(9, (0, (0, 1113))), (15, (0, (1, 1114))), (93, (2, (2, 1047)))],
  [(12, (1, (0, 1096))), (18, (1, (1, 1098))), (21, (1, (2, 1099))), (29, (0, (1, 1116))), (67, (2, (3, 1049))), (70, (2, (0, 1040))), (140, (2, (4, 1053))), (143, (2, (5, 1056))), (146, (2, (6, 1059))), (149, (2, (1, 1044)))],
  [(9, (2, (4, 1051))), (15, (2, (5, 1054))), (18, (2, (6, 1057))), (21, (2, (7, 1060))), (24, (2, (8, 1062))), (27, (2, (9, 1064))), (30, (2, (10, 1066))), (33, (2, (11, 1068))), (42, (2, (0, 1039))), (46, (2, (1, 1042))), (49, (2, (2, 1045))), (52, (2, (3, 1048)))],
  [],
  [(10, (3, (0, 1124))), (16, (1, (0, 1097))), (20, (3, (1, 1125))), (24, (3, (2, 1126))), (31, (3, (3, 1127))), (34, (3, (4, 1128))), (38, (3, (5, 1129))), (42, (3, (6, 1130))), (46, (3, (7, 1131))), (53, (0, (1, 1115))), (72, (2, (4, 1052))), (75, (2, (5, 1055))), (78, (2, (6, 1058))), (81, (2, (7, 1061))), (87, (2, (2, 1046))), (103, (2, (8, 1063))), (106, (2, (9, 1065))), (109, (2, (10, 1067))), (118, (2, (11, 1069))), (121, (2, (0, 1041))), (124, (2, (1, 1043))), (127, (2, (3, 1050)))],
  [(9, (4, (0, 4067))), (13, (4, (1, 4068))), (16, (4, (2, 4069))), (19, (4, (3, 4070))), (22, (4, (4, 4071))), (25, (4, (6, 4073))), (28, (4, (7, 4074))), (31, (4, (8, 4075))), (34, (4, (12, 4079))), (97, (4, (9, 4076))), (101, (4, (11, 4078))), (205, (4, (10, 4077))), (208, (4, (13, 4080))), (220, (4, (5, 4072)))],
  [],
  [],
  [],
  [],
  []]
def ckT : List (List (Nat × (Int × Nat))) := [[], [(161, (1664525, 4045)), (162, (1013904223, 4046)), (163, (2147483647, 4050))], [], [], [(96, (1000000000, 2181))], [(37, (1000000000, 4220)), (211, (1664525, 5187)), (212, (1013904223, 5188)), (213, (2147483647, 5189))], [(265, (1431655765, 2160)), (266, (858993459, 2161)), (267, (252645135, 2162))], [], [], [], []]
def clT : List (List (Nat × (Int × Nat))) := [[], [], [], [], [(245, (4000000000000000000, 3211))], [(42, (4000000000000000000, 5148))], [], [], [], [], []]
def strI : List Nat := [19, 21, 23, 25, 27, 29, 31, 37]
def strX : List String := ["pK999;", "t9999;", "l99;", "u9;", "s999;", "d99;", "", "phvowl"]
def strL : List Nat := [6, 6, 4, 3, 5, 4, 0, 6]
def strB : List (List Int) := [[112, 75, 57, 57, 57, 59], [116, 57, 57, 57, 57, 59], [108, 57, 57, 59], [117, 57, 59], [115, 57, 57, 57, 59], [100, 57, 57, 59], [], [112, 104, 118, 111, 119, 108]]
def strP : List Nat := [1183, 1184, 1185, 1186, 1187, 1188, 1169, 1233]
def wpT : List (Nat × (Nat × (Nat × Nat))) := [(1160, (1005, (1158, 1159))), (1182, (1005, (1181, 0))), (1229, (1005, (1228, 0))), (1232, (1005, (1231, 0))), (1168, (1005, (1166, 1167))), (2071, (1005, (2069, 2070))), (2075, (1005, (2073, 2074))), (2079, (1005, (2077, 2078))), (2067, (1005, (2065, 2066))), (2126, (1005, (2125, 0))), (2056, (1002, (2054, 2055))), (3026, (1002, (3024, 3025))), (3046, (1002, (3044, 3045))), (3050, (1002, (3049, 5))), (3064, (1002, (3062, 3063))), (3060, (1002, (3058, 3059))), (3128, (1002, (3126, 3127))), (3137, (1002, (3135, 3136))), (3141, (1002, (3139, 3140))), (3151, (1002, (3149, 3150))), (3165, (1002, (3163, 3164))), (3156, (1002, (3155, 6))), (3111, (1002, (3109, 3110))), (3116, (1002, (3114, 3115))), (3189, (1002, (3187, 3188))), (3202, (1002, (3200, 3201))), (3215, (1002, (3213, 3214))), (3219, (1002, (3218, 9))), (3236, (1002, (3234, 3235))), (4000, (1002, (3239, 10))), (4012, (1002, (4010, 4011))), (4029, (1002, (4027, 4028))), (4041, (1002, (4039, 4040))), (4044, (1002, (4043, 0))), (4049, (1002, (4048, 0))), (2060, (1003, (2058, 2059))), (2091, (1003, (2089, 2090))), (2106, (1003, (2104, 2105))), (2110, (1003, (2108, 2109))), (2095, (1003, (2093, 2094))), (3018, (1003, (3016, 3017))), (2141, (1003, (2139, 2140))), (2201, (1003, (2199, 2200))), (2205, (1003, (2203, 2204))), (2083, (1003, (2081, 2082))), (2087, (1003, (2085, 2086))), (2118, (1003, (2116, 2117))), (2102, (1003, (2100, 2101))), (2123, (1003, (2121, 2122))), (2219, (1003, (2217, 2218))), (2114, (1003, (2113, 1))), (3013, (1003, (3011, 3012))), (2130, (1003, (2128, 2129))), (2145, (1003, (2144, 2))), (2149, (1003, (2147, 2148))), (2153, (1003, (2151, 2152))), (3068, (1003, (3066, 3067))), (3193, (1003, (3191, 3192))), (3081, (1003, (3079, 3080))), (3090, (1003, (3088, 3089))), (3102, (1003, (3100, 3101))), (3098, (1003, (3096, 3097))), (3177, (1003, (3175, 3176))), (3181, (1003, (3180, 7))), (2133, (1014, (2132, 0))), (2136, (1014, (2135, 0))), (1152, (1001, (1150, 1151))), (1164, (1001, (1162, 1163))), (2170, (1001, (2168, 2169))), (2175, (1001, (2174, 3))), (2180, (1001, (2178, 2179))), (2186, (1001, (2184, 2185))), (2192, (1001, (2190, 2191))), (2197, (1001, (2195, 2196))), (2209, (1001, (2207, 2208))), (2214, (1001, (2212, 2213))), (2223, (1001, (2221, 2222))), (2228, (1001, (2226, 2227))), (2237, (1001, (2235, 2236))), (3004, (1001, (3002, 3003))), (3008, (1001, (3006, 3007))), (3022, (1001, (3020, 3021))), (3031, (1001, (3029, 3030))), (3035, (1001, (3033, 3034))), (3042, (1001, (3040, 3041))), (3056, (1001, (3054, 3055))), (3072, (1001, (3070, 3071))), (3077, (1001, (3075, 3076))), (3086, (1001, (3084, 3085))), (3094, (1001, (3092, 3093))), (3107, (1001, (3105, 3106))), (3124, (1001, (3122, 3123))), (3133, (1001, (3131, 3132))), (3147, (1001, (3145, 3146))), (3161, (1001, (3159, 3160))), (3169, (1001, (3167, 3168))), (3173, (1001, (3171, 3172))), (3185, (1001, (3183, 3184))), (3198, (1001, (3196, 3197))), (3206, (1001, (3204, 3205))), (3210, (1001, (3209, 8))), (3232, (1001, (3230, 3231))), (4004, (1001, (4002, 4003))), (4008, (1001, (4007, 11))), (4017, (1001, (4016, 12))), (4021, (1001, (4019, 4020))), (4025, (1001, (4023, 4024))), (4033, (1001, (4031, 4032))), (4037, (1001, (4035, 4036))), (4055, (1001, (4053, 4054))), (4060, (1001, (4058, 4059))), (1156, (1001, (1155, 0))), (2232, (1001, (2231, 4))), (3000, (1001, (2239, 0))), (3038, (1001, (3037, 0))), (2098, (1001, (2097, 0))), (2156, (1001, (2155, 0))), (3224, (1001, (3223, 0))), (3228, (1001, (3227, 0))), (4143, (1006, (4142, 0))), (4198, (1006, (4197, 0))), (4146, (1006, (4145, 0))), (4117, (1006, (4116, 13))), (4219, (1006, (4218, 25))), (5147, (1006, (5146, 35))), (4157, (1006, (4156, 0))), (4170, (1006, (4169, 0))), (4174, (1006, (4173, 21))), (4178, (1006, (4177, 22))), (4164, (1006, (4163, 0))), (4195, (1006, (4194, 0))), (5029, (1006, (5028, 0))), (4192, (1006, (4191, 0))), (4201, (1006, (4200, 0))), (4189, (1006, (4188, 0))), (4167, (1006, (4166, 0))), (4207, (1006, (4206, 0))), (4204, (1006, (4203, 0))), (4186, (1006, (4185, 24))), (4182, (1006, (4181, 23))), (5026, (1006, (5025, 0))), (5045, (1006, (5044, 28))), (4113, (1006, (4111, 4112))), (4129, (1006, (4128, 15))), (4140, (1006, (4139, 17))), (4136, (1006, (4135, 0))), (4133, (1006, (4132, 16))), (4125, (1006, (4124, 14))), (4154, (1006, (4153, 19))), (4161, (1006, (4160, 20))), (4150, (1006, (4149, 18))), (4121, (1006, (4119, 4120))), (4211, (1006, (4209, 4210))), (4215, (1006, (4213, 4214))), (4224, (1006, (4222, 4223))), (4228, (1006, (4226, 4227))), (4232, (1006, (4230, 4231))), (4236, (1006, (4234, 4235))), (5000, (1006, (4238, 4239))), (5008, (1006, (5007, 26))), (5004, (1006, (5002, 5003))), (5015, (1006, (5014, 0))), (5012, (1006, (5010, 5011))), (5019, (1006, (5017, 5018))), (5023, (1006, (5021, 5022))), (5037, (1006, (5036, 27))), (5033, (1006, (5031, 5032))), (5041, (1006, (5039, 5040))), (5049, (1006, (5047, 5048))), (5061, (1006, (5060, 30))), (5057, (1006, (5056, 29))), (5053, (1006, (5051, 5052))), (5065, (1006, (5063, 5064))), (5073, (1006, (5072, 31))), (5069, (1006, (5067, 5068))), (5077, (1006, (5075, 5076))), (5081, (1006, (5079, 5080))), (5085, (1006, (5083, 5084))), (5092, (1006, (5091, 0))), (5089, (1006, (5087, 5088))), (5096, (1006, (5094, 5095))), (5104, (1006, (5103, 32))), (5100, (1006, (5098, 5099))), (5108, (1006, (5106, 5107))), (5112, (1006, (5110, 5111))), (5120, (1006, (5119, 33))), (5116, (1006, (5114, 5115))), (5131, (1006, (5130, 0))), (5128, (1006, (5127, 34))), (5124, (1006, (5122, 5123))), (5135, (1006, (5133, 5134))), (5139, (1006, (5137, 5138))), (5154, (1006, (5153, 0))), (5151, (1006, (5150, 0))), (5143, (1006, (5141, 5142))), (5162, (1006, (5161, 36))), (5158, (1006, (5156, 5157))), (5166, (1006, (5164, 5165))), (5170, (1006, (5168, 5169))), (5174, (1006, (5172, 5173))), (5178, (1006, (5176, 5177))), (5186, (1006, (5185, 37))), (5192, (1006, (5191, 0))), (5182, (1006, (5180, 5181))), (5196, (1006, (5194, 5195))), (5200, (1006, (5198, 5199))), (5204, (1006, (5202, 5203))), (2159, (1015, (2158, 0))), (1173, (1007, (1171, 1172))), (1192, (1007, (1190, 1191))), (1237, (1007, (1235, 1236))), (2001, (1007, (1239, 2000))), (1177, (1007, (1175, 1176))), (1196, (1007, (1194, 1195))), (1202, (1007, (1201, 0))), (1199, (1008, (1198, 0))), (2008, (1008, (2007, 0))), (2005, (1008, (2004, 0))), (2017, (1008, (2016, 0))), (1207, (1009, (1206, 0))), (0, (0, (0, 0)))]
abbrev vwC : List vw_C := [(RX0, TX0, 2), (RX1, TX1, 3), (RX2, TX2, 12), (RX4, TX4, 8), (RX5, TX5, 14)]
/-! the abstract machine: ints are Int, references are (tag, instance), only ints are ever written -/
def mR (y : Nat) : MT := mT.getD y mD
def mN (y : Nat) : MethodName := (mR y).1
def mB (y : Nat) : ByteArray := (mR y).2.1
def mRt (y : Nat) : Option FieldType := (mR y).2.2.1
def mTb (y : Nat) : TB := (mR y).2.2.2
def mJJ (y : Nat) : MI := mI.getD y mJ
def mC (y : Nat) : Nat := (mJJ y).1
def mL (y : Nat) : Nat := (mJJ y).2.1
def mFr (y : Nat) : Nat := (mJJ y).2.2.1
def mLo (y : Nat) : Nat := (mJJ y).2.2.2.1
def mK (y : Nat) : Nat := (mJJ y).2.2.2.2.1
def mNA (y : Nat) : Nat := (mJJ y).2.2.2.2.2.1
def mSt (y : Nat) : Bool := (mJJ y).2.2.2.2.2.2
abbrev AV : Type := Int ⊕ ((Nat × Nat) ⊕ Int)
abbrev St : Type := Nat → Nat → Nat → Int
def uns : AV := .inr (.inl (99, 0))
def isU (v : AV) : Bool := match v with
  | .inr (.inl (t, _)) => t == 99
  | _ => false
def isLg (v : AV) : Bool := match v with
  | .inr (.inr _) => true
  | _ => false
def wr (x : Int) : Int := x.bmod 4294967296
def wl (x : Int) : Int := x.bmod 18446744073709551616
def up (σ : St) (t r k : Nat) (v : Int) : St := fun t' r' k' => if t' = t ∧ r' = r ∧ k' = k then v else σ t' r' k'
def cpy (σ : St) (t0 r0 sp t r dp n : Nat) : St := fun t' r' k' => if t' = t ∧ r' = r ∧ dp ≤ k' ∧ k' < dp + n then σ t0 r0 (sp + (k' - dp)) else σ t' r' k'
/-- lengths of the arrays, by tag; 0: not an int array that may be written -/
def alT : List Nat := [0, 0, 4, 0, 96, 16, 7, 0, 5, 5, 5, 5, 10, 10, 10, 20, 0, 58, 5, 96, 16, 7, 3]
def alen (t : Nat) : Nat := alT.getD t 0
/-- class of the objects, by tag (their place in vwC); 9: none -/
def ocT : List Nat := [3, 1, 9, 0, 9, 9, 9, 2, 9, 9, 9, 9, 9, 9, 9, 9, 4]
def ocl (t : Nat) : Nat := ocT.getD t 9
/-- number of the class, as methods have it, of the objects by tag -/
def rcT : List Nat := [4, 1, 99, 0, 99, 99, 99, 2, 99, 99, 99, 99, 99, 99, 99, 99, 5, 99, 99, 99, 99, 99, 99, 99, 99, 99, 99, 99, 99, 99, 7]
def rcl (t : Nat) : Nat := rcT.getD t 99
abbrev FD : Type := Nat ⊕ (Nat × Option Nat)
/-- fields of the objects: inl 0 an int, inl 1 a boolean, inr (tag, instance; none: the object's own) -/
def fdT : List (List FD) := [[.inr (1, some 0), .inr (7, some 0), .inr (3, some 0), .inr (7, some 2), .inl 1, .inr (5, some 0), .inl 0, .inr (6, some 0)],
  [.inr (7, some 0), .inr (7, some 1), .inr (2, some 0)], [], [.inr (4, some 0), .inl 0], [], [], [],
  [.inl 0, .inl 0, .inl 0, .inl 0, .inr (8, none), .inr (9, none), .inr (10, none), .inr (11, none), .inr (12, none), .inr (13, none), .inr (14, none), .inr (15, none)],
  [], [], [], [], [], [], [], [],
  [.inr (17, some 0), .inr (17, some 1), .inr (17, some 2), .inr (17, some 3), .inr (18, some 0), .inl 1, .inr (19, some 0), .inr (20, some 0), .inr (21, some 0), .inl 0, .inl 0, .inl 0, .inr (22, some 0), .inl 0]]
def fds (t : Nat) : List FD := fdT.getD t []
/-- the world's cells -/
def wlst : List (Nat × Nat) := [(0, 0), (1, 0), (2, 0), (3, 0), (4, 0), (5, 0), (6, 0),
  (7, 0), (8, 0), (9, 0), (10, 0), (11, 0), (12, 0), (13, 0), (14, 0), (15, 0),
  (7, 1), (8, 1), (9, 1), (10, 1), (11, 1), (12, 1), (13, 1), (14, 1), (15, 1),
  (7, 2), (8, 2), (9, 2), (10, 2), (11, 2), (12, 2), (13, 2), (14, 2), (15, 2),
  (16, 0), (17, 0), (17, 1), (17, 2), (17, 3), (18, 0), (19, 0), (20, 0), (21, 0), (22, 0)]
def wpos (t r : Nat) : Nat := if t < 7 then t else if t < 16 then 7 + 9 * r + (t - 7) else if t < 17 then 34 else if t < 18 then 35 + r else t + 21
def vld (t r : Nat) : Prop := wlst[wpos t r]? = some (t, r)
/-- string literals: tag 30 the text, tag 31 its bytes, tag 32 the script (its length: instance 1, place 0), tag 33 a JDK static -/
def slen (r : Nat) : Nat := strL.getD r 0
def sbyt (r k : Nat) : Int := (strB.getD r []).getD k 0
def tgt (pc : Nat) (off : Int) : Option Nat := if 0 ≤ (pc : Int) + off then some ((pc : Int) + off).toNat else none
def cmpI (c : ClassFile.Cond) (x y : Int) : Bool := match c with
  | .eq => decide (x = y)
  | .ne => !decide (x = y)
  | .lt => decide (x < y)
  | .ge => !decide (x < y)
  | .gt => decide (y < x)
  | .le => !decide (y < x)
def brn (b : Bool) (pc : Nat) (off : Int) : Option Nat := match tgt pc off with
  | none => none
  | some t => some (if b = true then t else pc + 3)
def stl (ls : List AV) (i : Nat) (v : AV) : List AV := match i with
  | 0 => ls.set 0 v
  | j + 1 => (if isLg (ls.getD j uns) = true then ls.set j uns else ls).set (j + 1) v
abbrev AC : Type := Nat × (List AV × (List AV × St))
def ldv (k : Nat) (ls : List AV) (i n pc : Nat) (st : List AV) (σ : St) : Option AC := match ls[i]? with
  | some (.inl x) => if k == 0 then some (pc + n, (ls, (.inl x :: st, σ))) else none
  | some (.inr (.inl (t, r))) => if k == 1 && !(t == 99) && !(t == 33) then some (pc + n, (ls, (.inr (.inl (t, r)) :: st, σ))) else none
  | some (.inr (.inr w)) => if k == 2 then some (pc + n, (ls, (.inr (.inr w) :: st, σ))) else none
  | none => none
def stv (k : Nat) (ls : List AV) (i n pc : Nat) (st : List AV) (σ : St) : Option AC := match st with
  | .inl x :: st' => if k == 0 && Nat.blt i ls.length then some (pc + n, (stl ls i (.inl x), (st', σ))) else none
  | .inr (.inl (t, r)) :: st' => if k == 1 && !(t == 99) && !(t == 33) && Nat.blt i ls.length then some (pc + n, (stl ls i (.inr (.inl (t, r))), (st', σ))) else none
  | .inr (.inr w) :: st' => if k == 2 && Nat.blt (i + 1) ls.length then some (pc + n, ((stl ls i (.inr (.inr w))).set (i + 1) uns, (st', σ))) else none
  | [] => none
def binI (i : Instr) (x y : Int) : Option Int := match i with
  | .iadd => some (wr (x + y))
  | .isub => some (wr (x - y))
  | .imul => some (wr (x * y))
  | .idiv => if y = 0 then none else some (wr (x.tdiv y))
  | .irem => if y = 0 then none else some (x.tmod y)
  | .iand => some (Int32.ofInt x &&& Int32.ofInt y).toInt
  | .ior => some (Int32.ofInt x ||| Int32.ofInt y).toInt
  | .ixor => some (Int32.ofInt x ^^^ Int32.ofInt y).toInt
  | .ishl => some (Int32.ofInt x <<< (Int32.ofInt y &&& 31)).toInt
  | .ishr => some (Int32.ofInt x >>> (Int32.ofInt y &&& 31)).toInt
  | .iushr => some ((Int32.ofInt x).toUInt32 >>> ((Int32.ofInt y).toUInt32 &&& Int32.toUInt32 31)).toInt32.toInt
  | _ => none
def binL (i : Instr) (x y : Int) : Option Int := match i with
  | .ladd => some (wl (x + y))
  | .lsub => some (wl (x - y))
  | .lmul => some (wl (x * y))
  | .ldiv => if y = 0 then none else some (wl (x.tdiv y))
  | .lrem => if y = 0 then none else some (x.tmod y)
  | _ => none
def unI (i : Instr) (x : Int) : Option Int := match i with
  | .ineg => some (wr (-x))
  | .i2b => some (Int32.ofInt x).toInt8.toInt32.toInt
  | .i2c => some ((Int32.ofInt x).toUInt32 % 65536).toInt32.toInt
  | _ => none
def aBin (i : Instr) (pc : Nat) (ls st : List AV) (σ : St) : Option AC := match st with
  | .inl y :: .inl x :: st' => match binI i x y with
    | some z => some (pc + 1, (ls, (.inl z :: st', σ)))
    | none => none
  | .inl x :: st' => match unI i x with
    | some z => some (pc + 1, (ls, (.inl z :: st', σ)))
    | none => none
  | .inr (.inr y) :: .inr (.inr x) :: st' => match binL i x y with
    | some z => some (pc + 1, (ls, (.inr (.inr z) :: st', σ)))
    | none => none
  | _ => none
def aUn (i : Instr) (pc : Nat) (ls st : List AV) (σ : St) : Option AC := match st with
  | .inl x :: st' => match unI i x with
    | some z => some (pc + 1, (ls, (.inl z :: st', σ)))
    | none => none
  | _ => none
def aGet (m idx pc : Nat) (ls st : List AV) (σ : St) : Option AC := match st with
  | .inr (.inl (t, r)) :: st' =>
    if t == 30 then (if mC m == 7 then (if idx == 9 then some (pc + 3, (ls, (.inr (.inl (31, r)) :: st', σ))) else if idx == 15 then some (pc + 3, (ls, (.inl 0 :: st', σ))) else none) else none)
    else match (fkT.getD (mC m) []).lookup idx with
      | none => none
      | some (o, (k, _)) => if ocl t == o then (match (fds t)[k]? with
        | some (.inl _) => some (pc + 3, (ls, (.inl (σ t r k) :: st', σ)))
        | some (.inr (t', rr)) => some (pc + 3, (ls, (.inr (.inl (t', rr.getD r)) :: st', σ)))
        | none => none) else none
  | _ => none
def aPut (m idx pc : Nat) (ls st : List AV) (σ : St) : Option AC := match st with
  | .inl v :: .inr (.inl (t, r)) :: st' => match (fkT.getD (mC m) []).lookup idx with
      | none => none
      | some (o, (k, _)) => if ocl t == o then (match (fds t)[k]? with
        | some (.inl ty) => if ty == 0 || decide (v = 0) || decide (v = 1) then some (pc + 3, (ls, (st', up σ t r k v))) else none
        | _ => none) else none
  | _ => none
def aIld (pc : Nat) (ls st : List AV) (σ : St) : Option AC := match st with
  | .inl i :: .inr (.inl (t, r)) :: st' => if 0 ≤ i ∧ i < (if t == 32 then σ 32 1 0 else (alen t : Int)) then some (pc + 1, (ls, (.inl (σ t (if t == 32 then 0 else r) i.toNat) :: st', σ))) else none
  | _ => none
def aIst (pc : Nat) (ls st : List AV) (σ : St) : Option AC := match st with
  | .inl v :: .inl i :: .inr (.inl (t, r)) :: st' => if 0 ≤ i ∧ i < (alen t : Int) then some (pc + 1, (ls, (st', up σ t r i.toNat v))) else none
  | _ => none
def aBld (pc : Nat) (ls st : List AV) (σ : St) : Option AC := match st with
  | .inl i :: .inr (.inl (t, r)) :: st' => if t == 31 then (if 0 ≤ i ∧ i < (slen r : Int) then some (pc + 1, (ls, (.inl (sbyt r i.toNat) :: st', σ))) else none) else none
  | _ => none
def aLen (pc : Nat) (ls st : List AV) (σ : St) : Option AC := match st with
  | .inr (.inl (t, r)) :: st' => if t == 31 then some (pc + 1, (ls, (.inl (slen r : Int) :: st', σ)))
    else if t == 32 then some (pc + 1, (ls, (.inl (σ 32 1 0) :: st', σ)))
    else if alen t == 0 then none else some (pc + 1, (ls, (.inl (alen t : Int) :: st', σ)))
  | _ => none
def aCpy (pc : Nat) (ls st : List AV) (σ : St) : Option AC := match st with
  | .inl n :: .inl dp :: .inr (.inl (t, r)) :: .inl sp :: .inr (.inl (t0, r0)) :: st' =>
    if 0 ≤ n ∧ 0 ≤ dp ∧ 0 ≤ sp ∧ sp + n ≤ (alen t0 : Int) ∧ dp + n ≤ (alen t : Int) ∧ alen t0 ≠ 0 ∧ alen t ≠ 0 ∧ st'.length = 0 then some (pc + 3, (ls, (st', cpy σ t0 r0 sp.toNat t r dp.toNat n.toNat))) else none
  | _ => none
def idxOf {α : Type} (p : α → Bool) : List α → Nat → Option Nat
  | [], _ => none
  | a :: l, k => if p a = true then some k else idxOf p l (k + 1)
def aLdc (m idx n pc : Nat) (ls st : List AV) (σ : St) : Option AC := match (ckT.getD (mC m) []).lookup idx with
  | some (v, _) => some (pc + n, (ls, (.inl v :: st, σ)))
  | none => if mC m == 0 && n == 2 then (match idxOf (fun j => j == idx) strI 0 with
    | some k => some (pc + 2, (ls, (.inr (.inl (30, k)) :: st, σ)))
    | none => none) else none
def aLd2 (m idx pc : Nat) (ls st : List AV) (σ : St) : Option AC := match (clT.getD (mC m) []).lookup idx with
  | some (v, _) => some (pc + 3, (ls, (.inr (.inr v) :: st, σ)))
  | none => none
def aGs (m idx pc : Nat) (ls st : List AV) (σ : St) : Option AC :=
  if mC m == 7 then (if idx == 38 then some (pc + 3, (ls, (.inl 1 :: st, σ))) else if idx == 1053 then some (pc + 3, (ls, (.inr (.inl (33, 0)) :: st, σ))) else none) else none
def aPrm (m idx pc : Nat) (ls st : List AV) (σ : St) : Option AC := match (pmT.getD (mC m) []).lookup idx with
  | none => none
  | some (w, _) => match st with
    | .inl y :: .inl x :: st' => if Nat.ble 1 (mFr m) && Nat.ble 21 (mLo m) && Nat.ble st'.length 4 then some (pc + 3, (ls, (.inl (if w == 0 then (if x < y then y else x) else (if y < x then y else x)) :: st', σ))) else none
    | _ => none
def jmp (o : Option Nat) (ls st : List AV) (σ : St) : Option AC := match o with
  | some t => some (t, (ls, (st, σ)))
  | none => none
/-- one step that is neither a call nor a return -/
def aStep (m : Nat) (i : Instr) (n pc : Nat) (ls st : List AV) (σ : St) : Option AC := match i with
  | .iconst v => if -10 ≤ v ∧ v ≤ 10 then some (pc + 1, (ls, (.inl v :: st, σ))) else none
  | .bipush v => if -128 ≤ v ∧ v ≤ 127 then some (pc + 2, (ls, (.inl v :: st, σ))) else none
  | .sipush v => if -32768 ≤ v ∧ v ≤ 32767 then some (pc + 3, (ls, (.inl v :: st, σ))) else none
  | .lconst v => some (pc + 1, (ls, (.inr (.inr ((v : Nat) : Int)) :: st, σ)))
  | .iload i => ldv 0 ls i 2 pc st σ
  | .iload_n i => ldv 0 ls i 1 pc st σ
  | .aload i => ldv 1 ls i 2 pc st σ
  | .aload_n i => ldv 1 ls i 1 pc st σ
  | .lload i => ldv 2 ls i 2 pc st σ
  | .lload_n i => ldv 2 ls i 1 pc st σ
  | .istore i => stv 0 ls i 2 pc st σ
  | .istore_n i => stv 0 ls i 1 pc st σ
  | .astore i => stv 1 ls i 2 pc st σ
  | .astore_n i => stv 1 ls i 1 pc st σ
  | .lstore i => stv 2 ls i 2 pc st σ
  | .lstore_n i => stv 2 ls i 1 pc st σ
  | .iinc i v => match ls[i]? with
    | some (.inl x) => some (pc + 3, (stl ls i (.inl (wr (x + v))), (st, σ)))
    | _ => none
  | .dup => match st with
    | v :: st' => if isLg v = true then none else some (pc + 1, (ls, (v :: v :: st', σ)))
    | _ => none
  | .dup2 => match st with
    | a :: b :: st' => if (isLg a || isLg b) = true then none else some (pc + 1, (ls, (a :: b :: a :: b :: st', σ)))
    | _ => none
  | .pop => match st with
    | v :: st' => if isLg v = true then none else some (pc + 1, (ls, (st', σ)))
    | _ => none
  | .iadd | .isub | .imul | .idiv | .irem | .iand | .ior | .ixor | .ishl | .ishr | .iushr | .ladd | .lsub | .lmul | .ldiv | .lrem => match st with
    | .inl y :: .inl x :: st' => match binI i x y with
      | some z => some (pc + 1, (ls, (.inl z :: st', σ)))
      | none => none
    | .inr (.inr y) :: .inr (.inr x) :: st' => match binL i x y with
      | some z => some (pc + 1, (ls, (.inr (.inr z) :: st', σ)))
      | none => none
    | _ => none
  | .ineg | .i2b | .i2c => aUn i pc ls st σ
  | .i2l => match st with
    | .inl x :: st' => some (pc + 1, (ls, (.inr (.inr x) :: st', σ)))
    | _ => none
  | .lcmp => match st with
    | .inr (.inr y) :: .inr (.inr x) :: st' => some (pc + 1, (ls, (.inl (if y < x then 1 else if x = y then 0 else -1) :: st', σ)))
    | _ => none
  | .goto off => jmp (tgt pc off) ls st σ
  | .ifCond c off => match st with
    | .inl x :: st' => jmp (brn (cmpI c x 0) pc off) ls st' σ
    | _ => none
  | .if_icmp c off => match st with
    | .inl y :: .inl x :: st' => jmp (brn (cmpI c x y) pc off) ls st' σ
    | _ => none
  | .tableswitch d lo hi offs => match st with
    | .inl x :: st' => if x < lo ∨ hi < x then jmp (tgt pc d) ls st' σ else match offs[(x - lo).toNat]? with
      | some off => jmp (tgt pc off) ls st' σ
      | none => none
    | _ => none
  | .lookupswitch d ps => match st with
    | .inl x :: st' => if (ps.toList.zip (ps.toList.drop 1)).all (fun (a, next) => a.1 < next.1) = true then jmp (tgt pc (Op.lookupswitch.offset ps.toList d x)) ls st' σ else none
    | _ => none
  | .getfield idx => aGet m idx pc ls st σ
  | .putfield idx => aPut m idx pc ls st σ
  | .iaload => aIld pc ls st σ
  | .iastore => aIst pc ls st σ
  | .baload => aBld pc ls st σ
  | .arraylength => aLen pc ls st σ
  | .getstatic idx => aGs m idx pc ls st σ
  | .ldc idx => aLdc m idx 2 pc ls st σ
  | .ldc_w idx => aLdc m idx 3 pc ls st σ
  | .ldc2_w idx => aLd2 m idx pc ls st σ
  | .invokestatic idx => if mC m == 2 && idx == 55 && Nat.ble 1 (mFr m) && Nat.ble 48 (mLo m) then aCpy pc ls st σ else aPrm m idx pc ls st σ
  | _ => none
/-- a return: the value that the method answers -/
def rkOK (k : Nat) (v : Int) : Bool := match k with
  | 1 => true
  | 2 => decide (v = 0) || decide (v = 1)
  | 3 => decide (0 ≤ v ∧ v < 65536)
  | 4 => decide (-128 ≤ v ∧ v < 128)
  | _ => false
def aRet (m : Nat) (i : Instr) (st : List AV) : Option (Option AV) := match i, st with
  | .return_, [] => if mK m == 0 then some none else none
  | .ireturn, [.inl v] => if rkOK (mK m) v = true then some (some (.inl v)) else none
  | .lreturn, [.inr (.inr v)] => if mK m == 5 then some (some (.inr (.inr v))) else none
  | .areturn, [.inr (.inl (t, r))] => if mK m == 6 && !(t == 33) then some (some (.inr (.inl (t, r)))) else none
  | _, _ => none
def catS : List AV → Nat
  | [] => 0
  | v :: l => (if isLg v = true then 2 else 1) + catS l
/-- a call: the method, what it is given, what stays on the stack -/
def aGo (m y : Nat) (st : List AV) : Option (Nat × (List AV × List AV)) :=
  if Nat.ble (mFr y + 1) (mFr m) && Nat.ble (19 + mL y + mLo y) (mLo m) && Nat.ble (mNA y) st.length && Nat.ble (catS (st.drop (mNA y))) 8 && Nat.ble (catS (st.take (mNA y)).reverse) (mL y) then some (y, ((st.take (mNA y)).reverse, st.drop (mNA y))) else none
def recv (y : Nat) (as : List AV) : Bool := match as with
  | .inr (.inl (t, _)) :: _ => rcl t == mC y
  | _ => false
def aCall (m : Nat) (i : Instr) (st : List AV) : Option (Nat × (List AV × List AV)) := match i with
  | .invokestatic idx => match (lkT.getD (mC m) []).lookup idx with
    | some (y, _) => if mSt y = true then aGo m y st else none
    | none => match (lkN.getD (mC m) []).lookup idx with
      | some y => if mSt y = true then aGo m y st else none
      | none => none
  | .invokevirtual idx => match (lkT.getD (mC m) []).lookup idx with
    | some (y, _) => match aGo m y st with
      | some (y', (as, rest)) => if mSt y = false && recv y as then some (y', (as, rest)) else none
      | none => none
    | none => none
  | _ => none
def spr : List AV → List AV
  | [] => []
  | v :: l => if isLg v = true then v :: uns :: spr l else v :: spr l
def ent (y : Nat) (as : List AV) : List AV := spr as ++ List.replicate (mL y - (spr as).length) uns
def fetch (m pc : Nat) : Option (Instr × Nat) := (mTb m).lookup pc
def ex : Nat → Nat → Nat → List AV → List AV → St → Option (Option AV × St)
  | 0, _, _, _, _, _ => none
  | n + 1, m, pc, ls, st, σ => match fetch m pc with
    | none => none
    | some (i, len) => match aRet m i st with
      | some rv => some (rv, σ)
      | none => match aCall m i st with
        | some (y, (as, rest)) => match ex n y 0 (ent y as) [] σ with
          | some (rv, σ') => ex n m (pc + 3) ls (rv.toList ++ rest) σ'
          | none => none
        | none => match aStep m i len pc ls st σ with
          | some (pc', (ls', (st', σ'))) => ex n m pc' ls' st' σ'
          | none => none
