def m_X0_takes : Mt := (yX0_takes, cX0_takes, 5, some (.int), { frames := 1, cells := 0, slots := 0, locals := 21 })
def m_X0_tripsBy : Mt := (yX0_tripsBy, cX0_tripsBy, 5, some (.int), { frames := 1, cells := 0, slots := 0, locals := 21 })
def m_X0_seenBy : Mt := (yX0_seenBy, cX0_seenBy, 4, some (.int), { frames := 1, cells := 0, slots := 0, locals := 21 })
def m_X0_isOrIsUnder : Mt := (yX0_isOrIsUnder, cX0_isOrIsUnder, 4, some (.boolean), { frames := 0, cells := 0, slots := 0, locals := 0 })
def m_X1_takeFrom : Mt := (yX1_takeFrom, cX1_takeFrom, 2, none, { frames := 0, cells := 0, slots := 0, locals := 0 })
def m_X1_held : Mt := (yX1_held, cX1_held, 1, some (.int), { frames := 1, cells := 0, slots := 0, locals := 21 })
def m_X1_step : Mt := (yX1_step, cX1_step, 4, none, { frames := 2, cells := 0, slots := 0, locals := 41 })
def m_X1_are : Mt := (yX1_are, cX1_are, 3, some (.boolean), { frames := 0, cells := 0, slots := 0, locals := 0 })
def m_X1_habit : Mt := (yX1_habit, cX1_habit, 4, some (.int), { frames := 3, cells := 0, slots := 0, locals := 64 })
def m_X2_lengthFrom : Mt := (yX2_lengthFrom, cX2_lengthFrom, 5, some (.int), { frames := 3, cells := 0, slots := 0, locals := 64 })
def m_X2_beginFrom : Mt := (yX2_beginFrom, cX2_beginFrom, 4, some (.int), { frames := 3, cells := 0, slots := 0, locals := 64 })
def m_X3_isDigit : Mt := (yX3_isDigit, cX3_isDigit, 2, some (.boolean), { frames := 0, cells := 0, slots := 0, locals := 0 })
def m_X3_isLetter : Mt := (yX3_isLetter, cX3_isLetter, 2, some (.boolean), { frames := 0, cells := 0, slots := 0, locals := 0 })
def m_X3_signAt : Mt := (yX3_signAt, cX3_signAt, 2, some (.int), { frames := 0, cells := 0, slots := 0, locals := 0 })
def m_X3_lookOn : Mt := (yX3_lookOn, cX3_lookOn, 1, none, { frames := 1, cells := 0, slots := 0, locals := 21 })
def m_J0_isLatin1_aae02 : Mt := (yJ0_isLatin1_aae02, cJ0_isLatin1_aae02, 1, some (.boolean), { frames := 0, cells := 0, slots := 0, locals := 0 })
def m_J3_checkIndex_8e157 : Mt := (yJ3_checkIndex_8e157, cJ3_checkIndex_8e157, 3, some (.int), { frames := 0, cells := 0, slots := 0, locals := 0 })
def m_J0_checkIndex_df160 : Mt := (yJ0_checkIndex_df160, cJ0_checkIndex_df160, 2, none, { frames := 1, cells := 0, slots := 0, locals := 22 })
def m_J1_charAt_3b067 : Mt := (yJ1_charAt_3b067, cJ1_charAt_3b067, 2, some (.char), { frames := 2, cells := 0, slots := 0, locals := 43 })
def m_J0_charAt_5068e : Mt := (yJ0_charAt_5068e, cJ0_charAt_5068e, 2, some (.char), { frames := 3, cells := 0, slots := 0, locals := 64 })
def m_J0_coder_7d493 : Mt := (yJ0_coder_7d493, cJ0_coder_7d493, 1, some (.byte), { frames := 0, cells := 0, slots := 0, locals := 0 })
def m_J0_length_8abf5 : Mt := (yJ0_length_8abf5, cJ0_length_8abf5, 1, some (.int), { frames := 1, cells := 0, slots := 0, locals := 20 })
def m_X3_isWord : Mt := (yX3_isWord, cX3_isWord, 3, some (.boolean), { frames := 4, cells := 0, slots := 0, locals := 85 })
def m_X3_nameOf : Mt := (yX3_nameOf, cX3_nameOf, 1, some (.object "java/lang/String"), { frames := 0, cells := 0, slots := 0, locals := 0 })
def m_X9_isWithin : Mt := (yX9_isWithin, cX9_isWithin, 3, some (.boolean), { frames := 0, cells := 0, slots := 0, locals := 0 })
def m_X3_isNumber : Mt := (yX3_isNumber, cX3_isNumber, 3, some (.boolean), { frames := 1, cells := 0, slots := 0, locals := 22 })
def m_X6_features : Mt := (yX6_features, cX6_features, 2, some (.array .int), { frames := 0, cells := 0, slots := 0, locals := 0 })
def m_X3_takeFeature : Mt := (yX3_takeFeature, cX3_takeFeature, 4, some (.boolean), { frames := 5, cells := 0, slots := 0, locals := 107 })
def m_X6_addLine : Mt := (yX6_addLine, cX6_addLine, 2, some (.int), { frames := 0, cells := 0, slots := 0, locals := 0 })
def m_X6_hasRoom : Mt := (yX6_hasRoom, cX6_hasRoom, 1, some (.boolean), { frames := 0, cells := 0, slots := 0, locals := 0 })
def m_X3_takeLine : Mt := (yX3_takeLine, cX3_takeLine, 3, some (.boolean), { frames := 6, cells := 0, slots := 0, locals := 130 })
def m_X3_takeDrift : Mt := (yX3_takeDrift, cX3_takeDrift, 3, some (.boolean), { frames := 2, cells := 0, slots := 0, locals := 44 })
def m_X3_takeRule : Mt := (yX3_takeRule, cX3_takeRule, 2, some (.boolean), { frames := 2, cells := 0, slots := 0, locals := 44 })
def m_X3_takePace : Mt := (yX3_takePace, cX3_takePace, 2, some (.boolean), { frames := 5, cells := 0, slots := 0, locals := 107 })
def m_X3_takeItem : Mt := (yX3_takeItem, cX3_takeItem, 2, some (.boolean), { frames := 7, cells := 0, slots := 0, locals := 152 })
def m_X3_tellTo : Mt := (yX3_tellTo, cX3_tellTo, 4, some (.int), { frames := 8, cells := 0, slots := 0, locals := 173 })
def m_X4_weigh : Mt := (yX4_weigh, cX4_weigh, 3, none, { frames := 1, cells := 0, slots := 0, locals := 21 })
def m_X6_linesAhead : Mt := (yX6_linesAhead, cX6_linesAhead, 1, some (.int), { frames := 0, cells := 0, slots := 0, locals := 0 })
def m_X6_takesOf : Mt := (yX6_takesOf, cX6_takesOf, 3, some (.int), { frames := 2, cells := 0, slots := 0, locals := 45 })
def m_X6_takesAhead : Mt := (yX6_takesAhead, cX6_takesAhead, 5, some (.int), { frames := 3, cells := 0, slots := 0, locals := 67 })
def m_X4_offHour : Mt := (yX4_offHour, cX4_offHour, 3, some (.int), { frames := 4, cells := 0, slots := 0, locals := 91 })
def m_X4_nearestWeights : Mt := (yX4_nearestWeights, cX4_nearestWeights, 6, some (.int), { frames := 5, cells := 0, slots := 0, locals := 113 })
def m_X6_unrestAhead : Mt := (yX6_unrestAhead, cX6_unrestAhead, 5, some (.int), { frames := 2, cells := 0, slots := 0, locals := 45 })
def m_X4_calmestEyes : Mt := (yX4_calmestEyes, cX4_calmestEyes, 7, some (.int), { frames := 3, cells := 0, slots := 0, locals := 69 })
def m_X6_tripsOf : Mt := (yX6_tripsOf, cX6_tripsOf, 2, some (.int), { frames := 2, cells := 0, slots := 0, locals := 45 })
def m_X4_mostTripping : Mt := (yX4_mostTripping, cX4_mostTripping, 6, some (.int), { frames := 3, cells := 0, slots := 0, locals := 66 })
def m_X4_quickestKind : Mt := (yX4_quickestKind, cX4_quickestKind, 8, some (.int), { frames := 4, cells := 0, slots := 0, locals := 91 })
def m_J6_bitCount_0f7a4 : Mt := (yJ6_bitCount_0f7a4, cJ6_bitCount_0f7a4, 1, some (.int), { frames := 0, cells := 0, slots := 0, locals := 0 })
def m_X4_easedBy : Mt := (yX4_easedBy, cX4_easedBy, 5, some (.int), { frames := 0, cells := 0, slots := 0, locals := 0 })
def m_X6_tripsAhead : Mt := (yX6_tripsAhead, cX6_tripsAhead, 3, some (.int), { frames := 3, cells := 0, slots := 0, locals := 66 })
def m_X4_fewestEased : Mt := (yX4_fewestEased, cX4_fewestEased, 9, some (.int), { frames := 4, cells := 0, slots := 0, locals := 88 })
def m_X4_fitsHourWithout : Mt := (yX4_fitsHourWithout, cX4_fitsHourWithout, 5, some (.boolean), { frames := 3, cells := 0, slots := 0, locals := 67 })
def m_X6_wordsAheadWithout : Mt := (yX6_wordsAheadWithout, cX6_wordsAheadWithout, 4, some (.int), { frames := 0, cells := 0, slots := 0, locals := 0 })
def m_X4_bestLeftOut : Mt := (yX4_bestLeftOut, cX4_bestLeftOut, 8, some (.int), { frames := 4, cells := 0, slots := 0, locals := 91 })
def m_X4_takeJust : Mt := (yX4_takeJust, cX4_takeJust, 5, some (.boolean), { frames := 3, cells := 0, slots := 0, locals := 67 })
def m_X4_tallyFits : Mt := (yX4_tallyFits, cX4_tallyFits, 4, none, { frames := 4, cells := 0, slots := 0, locals := 91 })
def m_X5_canHave : Mt := (yX5_canHave, cX5_canHave, 1, some (.boolean), { frames := 0, cells := 0, slots := 0, locals := 0 })
def m_X5_isMissing : Mt := (yX5_isMissing, cX5_isMissing, 1, some (.boolean), { frames := 0, cells := 0, slots := 0, locals := 0 })
def m_J7_fill_53178 : Mt := (yJ7_fill_53178, cJ7_fill_53178, 4, none, { frames := 0, cells := 0, slots := 0, locals := 0 })
def m_X5_begin : Mt := (yX5_begin, cX5_begin, 3, none, { frames := 1, cells := 0, slots := 0, locals := 23 })
def m_X5_hasPart : Mt := (yX5_hasPart, cX5_hasPart, 3, some (.boolean), { frames := 0, cells := 0, slots := 0, locals := 0 })
def m_X5_put : Mt := (yX5_put, cX5_put, 3, none, { frames := 0, cells := 0, slots := 0, locals := 0 })
def m_X6_become : Mt := (yX6_become, cX6_become, 2, none, { frames := 1, cells := 0, slots := 0, locals := 48 })
def m_X6_isLine : Mt := (yX6_isLine, cX6_isLine, 2, some (.boolean), { frames := 0, cells := 0, slots := 0, locals := 0 })
def m_X6_sumOf : Mt := (yX6_sumOf, cX6_sumOf, 4, some (.int), { frames := 0, cells := 0, slots := 0, locals := 0 })
def m_X6_spotsHeld : Mt := (yX6_spotsHeld, cX6_spotsHeld, 3, some (.int), { frames := 0, cells := 0, slots := 0, locals := 0 })
def m_X6_seenOf : Mt := (yX6_seenOf, cX6_seenOf, 2, some (.int), { frames := 2, cells := 0, slots := 0, locals := 44 })
def m_X6_seenAhead : Mt := (yX6_seenAhead, cX6_seenAhead, 3, some (.int), { frames := 3, cells := 0, slots := 0, locals := 65 })
def m_X6_takeWords : Mt := (yX6_takeWords, cX6_takeWords, 3, some (.int), { frames := 1, cells := 0, slots := 0, locals := 22 })
def m_X6_turnPaces : Mt := (yX6_turnPaces, cX6_turnPaces, 2, none, { frames := 3, cells := 0, slots := 0, locals := 64 })
def m_X6_readOne : Mt := (yX6_readOne, cX6_readOne, 2, none, { frames := 4, cells := 0, slots := 0, locals := 85 })
def m_X6_draw : Mt := (yX6_draw, cX6_draw, 1, some (.int), { frames := 0, cells := 0, slots := 0, locals := 0 })
def m_X6_spendEvening : Mt := (yX6_spendEvening, cX6_spendEvening, 5, some (.int), { frames := 5, cells := 0, slots := 0, locals := 106 })
def m_X7_append : Mt := (yX7_append, cX7_append, 4, none, { frames := 0, cells := 0, slots := 0, locals := 0 })
def m_X8_byJump : Mt := (yX8_byJump, cX8_byJump, 3, some (.int), { frames := 0, cells := 0, slots := 0, locals := 0 })
def m_X8_measure : Mt := (yX8_measure, cX8_measure, 6, none, { frames := 3, cells := 0, slots := 0, locals := 67 })
def m_X8_shortest : Mt := (yX8_shortest, cX8_shortest, 2, some (.int), { frames := 0, cells := 0, slots := 0, locals := 0 })
def m_X8_shortestJump : Mt := (yX8_shortestJump, cX8_shortestJump, 4, some (.int), { frames := 1, cells := 0, slots := 0, locals := 22 })
def m_X8_linesRead : Mt := (yX8_linesRead, cX8_linesRead, 6, some (.int), { frames := 2, cells := 0, slots := 0, locals := 45 })
def m_X9_finding : Mt := (yX9_finding, cX9_finding, 2, some (.int), { frames := 0, cells := 0, slots := 0, locals := 0 })
def m_X9_line : Mt := (yX9_line, cX9_line, 2, some (.int), { frames := 1, cells := 0, slots := 0, locals := 22 })
def m_X9_of : Mt := (yX9_of, cX9_of, 3, some (.int), { frames := 3, cells := 0, slots := 0, locals := 67 })
def m_X9_change : Mt := (yX9_change, cX9_change, 6, some (.int), { frames := 1, cells := 0, slots := 0, locals := 22 })
def m_X9_rule : Mt := (yX9_rule, cX9_rule, 4, some (.int), { frames := 1, cells := 0, slots := 0, locals := 22 })
def m_X9_ruled : Mt := (yX9_ruled, cX9_ruled, 2, some (.int), { frames := 1, cells := 0, slots := 0, locals := 22 })
def m_X9_takesAhead : Mt := (yX9_takesAhead, cX9_takesAhead, 2, some (.int), { frames := 4, cells := 0, slots := 0, locals := 91 })
def m_X9_read : Mt := (yX9_read, cX9_read, 3, some (.int), { frames := 5, cells := 0, slots := 0, locals := 112 })
def m_X9_go : Mt := (yX9_go, cX9_go, 3, some (.int), { frames := 1, cells := 0, slots := 0, locals := 22 })
def m_X9_turn : Mt := (yX9_turn, cX9_turn, 1, some (.int), { frames := 4, cells := 0, slots := 0, locals := 85 })
def m_X9_now : Mt := (yX9_now, cX9_now, 2, some (.int), { frames := 1, cells := 0, slots := 0, locals := 21 })
def m_X9_rest : Mt := (yX9_rest, cX9_rest, 3, some (.int), { frames := 5, cells := 0, slots := 0, locals := 112 })
def m_X9_pace : Mt := (yX9_pace, cX9_pace, 3, some (.int), { frames := 3, cells := 0, slots := 0, locals := 64 })
def m_X9_sign : Mt := (yX9_sign, cX9_sign, 1, some (.int), { frames := 4, cells := 0, slots := 0, locals := 87 })
def m_X9_round : Mt := (yX9_round, cX9_round, 3, some (.int), { frames := 4, cells := 0, slots := 0, locals := 88 })
def m_X9_leads : Mt := (yX9_leads, cX9_leads, 4, some (.int), { frames := 3, cells := 0, slots := 0, locals := 64 })
def m_X9_found : Mt := (yX9_found, cX9_found, 1, some (.int), { frames := 6, cells := 0, slots := 0, locals := 138 })
def m_X9_off : Mt := (yX9_off, cX9_off, 1, some (.int), { frames := 6, cells := 0, slots := 0, locals := 138 })
def m_X9_grid : Mt := (yX9_grid, cX9_grid, 1, some (.int), { frames := 4, cells := 0, slots := 0, locals := 95 })
def m_X9_worst : Mt := (yX9_worst, cX9_worst, 2, some (.int), { frames := 4, cells := 0, slots := 0, locals := 95 })
def m_X9_trips : Mt := (yX9_trips, cX9_trips, 1, some (.int), { frames := 4, cells := 0, slots := 0, locals := 91 })
def m_X9_kindFor : Mt := (yX9_kindFor, cX9_kindFor, 2, some (.int), { frames := 5, cells := 0, slots := 0, locals := 118 })
def m_X9_ease : Mt := (yX9_ease, cX9_ease, 3, some (.int), { frames := 5, cells := 0, slots := 0, locals := 116 })
def m_X9_fit : Mt := (yX9_fit, cX9_fit, 1, some (.int), { frames := 5, cells := 0, slots := 0, locals := 118 })
def m_X9_kept : Mt := (yX9_kept, cX9_kept, 1, some (.int), { frames := 5, cells := 0, slots := 0, locals := 118 })
def m_X9_isWay : Mt := (yX9_isWay, cX9_isWay, 3, some (.boolean), { frames := 1, cells := 0, slots := 0, locals := 21 })
def m_X9_jump : Mt := (yX9_jump, cX9_jump, 3, some (.int), { frames := 4, cells := 0, slots := 0, locals := 92 })
def m_X9_jumped : Mt := (yX9_jumped, cX9_jumped, 3, some (.int), { frames := 4, cells := 0, slots := 0, locals := 92 })
def m_X9_isSheet : Mt := (yX9_isSheet, cX9_isSheet, 2, some (.boolean), { frames := 1, cells := 0, slots := 0, locals := 22 })
def m_X9_fits : Mt := (yX9_fits, cX9_fits, 2, some (.int), { frames := 5, cells := 0, slots := 0, locals := 114 })
def m_X9_led : Mt := (yX9_led, cX9_led, 2, some (.int), { frames := 5, cells := 0, slots := 0, locals := 114 })
def m_X9_commonDivisor : Mt := (yX9_commonDivisor, cX9_commonDivisor, 3, some (.int), { frames := 0, cells := 0, slots := 0, locals := 0 })
def m_X9_part : Mt := (yX9_part, cX9_part, 4, some (.int), { frames := 5, cells := 0, slots := 0, locals := 114 })
def m_X9_stays : Mt := (yX9_stays, cX9_stays, 8, some (.long), { frames := 1, cells := 0, slots := 0, locals := 22 })
def m_X9_evening : Mt := (yX9_evening, cX9_evening, 2, some (.int), { frames := 6, cells := 0, slots := 0, locals := 130 })
def m_X9_ahead : Mt := (yX9_ahead, cX9_ahead, 5, some (.int), { frames := 6, cells := 0, slots := 0, locals := 130 })
def m_X9_seed : Mt := (yX9_seed, cX9_seed, 3, some (.int), { frames := 0, cells := 0, slots := 0, locals := 0 })
def m_X9_feed : Mt := (yX9_feed, cX9_feed, 3, some (.int), { frames := 1, cells := 0, slots := 0, locals := 23 })
def m_X9_wipe : Mt := (yX9_wipe, cX9_wipe, 2, some (.int), { frames := 0, cells := 0, slots := 0, locals := 0 })
def m_X9_text : Mt := (yX9_text, cX9_text, 2, some (.int), { frames := 9, cells := 0, slots := 0, locals := 196 })
def m_X9_hold : Mt := (yX9_hold, cX9_hold, 3, some (.int), { frames := 1, cells := 0, slots := 0, locals := 22 })
def m_X9_as : Mt := (yX9_as, cX9_as, 4, some (.int), { frames := 1, cells := 0, slots := 0, locals := 23 })
def m_X9_sheet : Mt := (yX9_sheet, cX9_sheet, 4, some (.int), { frames := 2, cells := 0, slots := 0, locals := 45 })
def m_X9_write : Mt := (yX9_write, cX9_write, 4, some (.int), { frames := 2, cells := 0, slots := 0, locals := 43 })
def m_X9_copy : Mt := (yX9_copy, cX9_copy, 8, some (.int), { frames := 2, cells := 0, slots := 0, locals := 48 })
def m_X9_load : Mt := (yX9_load, cX9_load, 2, some (.int), { frames := 2, cells := 0, slots := 0, locals := 44 })
def m_X9_firstWrongTime : Mt := (yX9_firstWrongTime, cX9_firstWrongTime, 5, some (.int), { frames := 3, cells := 0, slots := 0, locals := 67 })
def m_X9_judge : Mt := (yX9_judge, cX9_judge, 2, some (.int), { frames := 4, cells := 0, slots := 0, locals := 91 })
def m_X9_image : Mt := (yX9_image, cX9_image, 1, some (.int), { frames := 2, cells := 0, slots := 0, locals := 69 })
def m_X9_undo : Mt := (yX9_undo, cX9_undo, 1, some (.int), { frames := 2, cells := 0, slots := 0, locals := 69 })
def m_X9_tear : Mt := (yX9_tear, cX9_tear, 2, some (.int), { frames := 0, cells := 0, slots := 0, locals := 0 })
def m_X9_count : Mt := (yX9_count, cX9_count, 2, some (.int), { frames := 1, cells := 0, slots := 0, locals := 23 })
def m_X9_status : Mt := (yX9_status, cX9_status, 4, some (.int), { frames := 1, cells := 0, slots := 0, locals := 22 })
def m_X10_finding : Mt := (yX10_finding, cX10_finding, 2, some (.int), { frames := 0, cells := 0, slots := 0, locals := 0 })
def m_X10_within : Mt := (yX10_within, cX10_within, 3, some (.boolean), { frames := 0, cells := 0, slots := 0, locals := 0 })
def m_X10_become : Mt := (yX10_become, cX10_become, 4, some (.int), { frames := 0, cells := 0, slots := 0, locals := 0 })
def m_X10_copyRow : Mt := (yX10_copyRow, cX10_copyRow, 3, none, { frames := 0, cells := 0, slots := 0, locals := 0 })
def m_X10_putBack : Mt := (yX10_putBack, cX10_putBack, 2, some (.int), { frames := 1, cells := 0, slots := 0, locals := 22 })
def m_X10_has : Mt := (yX10_has, cX10_has, 2, some (.boolean), { frames := 0, cells := 0, slots := 0, locals := 0 })
def m_X10_bits : Mt := (yX10_bits, cX10_bits, 3, some (.int), { frames := 0, cells := 0, slots := 0, locals := 0 })
def m_X10_isLine : Mt := (yX10_isLine, cX10_isLine, 2, some (.boolean), { frames := 1, cells := 0, slots := 0, locals := 22 })
def m_X10_isKind : Mt := (yX10_isKind, cX10_isKind, 1, some (.boolean), { frames := 1, cells := 0, slots := 0, locals := 22 })
def m_X10_at : Mt := (yX10_at, cX10_at, 2, some (.int), { frames := 0, cells := 0, slots := 0, locals := 0 })
def m_X10_lineIs : Mt := (yX10_lineIs, cX10_lineIs, 3, some (.int), { frames := 1, cells := 0, slots := 0, locals := 21 })
def m_X10_comes : Mt := (yX10_comes, cX10_comes, 5, some (.int), { frames := 1, cells := 0, slots := 0, locals := 21 })
def m_X10_line : Mt := (yX10_line, cX10_line, 2, some (.int), { frames := 2, cells := 0, slots := 0, locals := 45 })
def m_X10_above : Mt := (yX10_above, cX10_above, 1, some (.int), { frames := 0, cells := 0, slots := 0, locals := 0 })
def m_X10_isUnder : Mt := (yX10_isUnder, cX10_isUnder, 3, some (.boolean), { frames := 1, cells := 0, slots := 0, locals := 20 })
def m_X10_takes : Mt := (yX10_takes, cX10_takes, 4, some (.int), { frames := 2, cells := 0, slots := 0, locals := 43 })
def m_X10_trips : Mt := (yX10_trips, cX10_trips, 4, some (.int), { frames := 2, cells := 0, slots := 0, locals := 43 })
def m_X10_seen : Mt := (yX10_seen, cX10_seen, 3, some (.int), { frames := 2, cells := 0, slots := 0, locals := 43 })
def m_X10_of : Mt := (yX10_of, cX10_of, 3, some (.int), { frames := 3, cells := 0, slots := 0, locals := 66 })
def m_X10_change : Mt := (yX10_change, cX10_change, 5, some (.int), { frames := 2, cells := 0, slots := 0, locals := 43 })
def m_X10_isRule : Mt := (yX10_isRule, cX10_isRule, 1, some (.boolean), { frames := 1, cells := 0, slots := 0, locals := 22 })
def m_X10_least : Mt := (yX10_least, cX10_least, 1, some (.int), { frames := 0, cells := 0, slots := 0, locals := 0 })
def m_X10_most : Mt := (yX10_most, cX10_most, 1, some (.int), { frames := 0, cells := 0, slots := 0, locals := 0 })
def m_X10_rule : Mt := (yX10_rule, cX10_rule, 3, some (.int), { frames := 2, cells := 0, slots := 0, locals := 42 })
def m_X10_ruled : Mt := (yX10_ruled, cX10_ruled, 2, some (.int), { frames := 2, cells := 0, slots := 0, locals := 42 })
def m_X10_held : Mt := (yX10_held, cX10_held, 1, some (.int), { frames := 1, cells := 0, slots := 0, locals := 21 })
def m_X10_turns : Mt := (yX10_turns, cX10_turns, 3, some (.int), { frames := 2, cells := 0, slots := 0, locals := 41 })
def m_X10_reads : Mt := (yX10_reads, cX10_reads, 3, some (.int), { frames := 3, cells := 0, slots := 0, locals := 66 })
def m_X10_readsOn : Mt := (yX10_readsOn, cX10_readsOn, 4, some (.int), { frames := 4, cells := 0, slots := 0, locals := 88 })
def m_X10_left : Mt := (yX10_left, cX10_left, 1, some (.int), { frames := 0, cells := 0, slots := 0, locals := 0 })
def m_X10_read : Mt := (yX10_read, cX10_read, 3, some (.int), { frames := 5, cells := 0, slots := 0, locals := 111 })
def m_X10_go : Mt := (yX10_go, cX10_go, 2, some (.int), { frames := 1, cells := 0, slots := 0, locals := 23 })
def m_X10_turn : Mt := (yX10_turn, cX10_turn, 1, some (.int), { frames := 3, cells := 0, slots := 0, locals := 63 })
def m_X10_now : Mt := (yX10_now, cX10_now, 2, some (.int), { frames := 1, cells := 0, slots := 0, locals := 21 })
def m_X10_restTakes : Mt := (yX10_restTakes, cX10_restTakes, 1, some (.int), { frames := 5, cells := 0, slots := 0, locals := 111 })
def m_X10_restTrips : Mt := (yX10_restTrips, cX10_restTrips, 3, some (.int), { frames := 3, cells := 0, slots := 0, locals := 66 })
def m_X10_restSeen : Mt := (yX10_restSeen, cX10_restSeen, 3, some (.int), { frames := 3, cells := 0, slots := 0, locals := 65 })
def m_X10_paceThen : Mt := (yX10_paceThen, cX10_paceThen, 6, some (.int), { frames := 3, cells := 0, slots := 0, locals := 63 })
def m_X10_rest : Mt := (yX10_rest, cX10_rest, 2, some (.int), { frames := 6, cells := 0, slots := 0, locals := 131 })
def m_X10_pace : Mt := (yX10_pace, cX10_pace, 3, some (.int), { frames := 4, cells := 0, slots := 0, locals := 88 })
def m_X10_signThen : Mt := (yX10_signThen, cX10_signThen, 5, some (.int), { frames := 3, cells := 0, slots := 0, locals := 63 })
def m_X10_sign : Mt := (yX10_sign, cX10_sign, 4, some (.int), { frames := 4, cells := 0, slots := 0, locals := 87 })
def m_X10_round : Mt := (yX10_round, cX10_round, 6, some (.int), { frames := 3, cells := 0, slots := 0, locals := 63 })
def m_X10_leads : Mt := (yX10_leads, cX10_leads, 4, some (.int), { frames := 4, cells := 0, slots := 0, locals := 88 })
def m_X10_findWeights : Mt := (yX10_findWeights, cX10_findWeights, 6, some (.int), { frames := 6, cells := 0, slots := 0, locals := 131 })
def m_X10_found : Mt := (yX10_found, cX10_found, 1, some (.int), { frames := 7, cells := 0, slots := 0, locals := 156 })
def m_X10_off : Mt := (yX10_off, cX10_off, 2, some (.int), { frames := 7, cells := 0, slots := 0, locals := 156 })
def m_X10_findGrid : Mt := (yX10_findGrid, cX10_findGrid, 6, some (.int), { frames := 4, cells := 0, slots := 0, locals := 88 })
def m_X10_grid : Mt := (yX10_grid, cX10_grid, 1, some (.int), { frames := 5, cells := 0, slots := 0, locals := 113 })
def m_X10_worst : Mt := (yX10_worst, cX10_worst, 2, some (.int), { frames := 5, cells := 0, slots := 0, locals := 113 })
def m_X10_trips_ : Mt := (yX10_trips_, cX10_trips_, 4, some (.int), { frames := 3, cells := 0, slots := 0, locals := 66 })
def m_X10_kindFor : Mt := (yX10_kindFor, cX10_kindFor, 7, some (.int), { frames := 6, cells := 0, slots := 0, locals := 131 })
def m_X10_eases : Mt := (yX10_eases, cX10_eases, 5, some (.int), { frames := 3, cells := 0, slots := 0, locals := 66 })
def m_X10_ease : Mt := (yX10_ease, cX10_ease, 7, some (.int), { frames := 4, cells := 0, slots := 0, locals := 90 })
def m_X10_takesWithout : Mt := (yX10_takesWithout, cX10_takesWithout, 6, some (.int), { frames := 3, cells := 0, slots := 0, locals := 66 })
def m_X10_findFit : Mt := (yX10_findFit, cX10_findFit, 4, some (.int), { frames := 4, cells := 0, slots := 0, locals := 91 })
def m_X10_fit : Mt := (yX10_fit, cX10_fit, 1, some (.int), { frames := 5, cells := 0, slots := 0, locals := 114 })
def m_X10_kept : Mt := (yX10_kept, cX10_kept, 2, some (.int), { frames := 5, cells := 0, slots := 0, locals := 114 })
def m_X10_jumpFrom : Mt := (yX10_jumpFrom, cX10_jumpFrom, 4, some (.int), { frames := 0, cells := 0, slots := 0, locals := 0 })
def m_X10_findWays : Mt := (yX10_findWays, cX10_findWays, 6, some (.int), { frames := 3, cells := 0, slots := 0, locals := 66 })
def m_X10_isWay : Mt := (yX10_isWay, cX10_isWay, 3, some (.boolean), { frames := 2, cells := 0, slots := 0, locals := 43 })
def m_X10_jump : Mt := (yX10_jump, cX10_jump, 3, some (.int), { frames := 4, cells := 0, slots := 0, locals := 91 })
def m_X10_jumped : Mt := (yX10_jumped, cX10_jumped, 7, some (.int), { frames := 4, cells := 0, slots := 0, locals := 91 })
def m_X10_findLed : Mt := (yX10_findLed, cX10_findLed, 7, some (.int), { frames := 4, cells := 0, slots := 0, locals := 88 })
def m_X10_isSheet : Mt := (yX10_isSheet, cX10_isSheet, 1, some (.boolean), { frames := 1, cells := 0, slots := 0, locals := 22 })
def m_X10_fits : Mt := (yX10_fits, cX10_fits, 2, some (.int), { frames := 5, cells := 0, slots := 0, locals := 114 })
def m_X10_led : Mt := (yX10_led, cX10_led, 2, some (.int), { frames := 5, cells := 0, slots := 0, locals := 114 })
def m_X10_common : Mt := (yX10_common, cX10_common, 5, some (.int), { frames := 0, cells := 0, slots := 0, locals := 0 })
def m_X10_part : Mt := (yX10_part, cX10_part, 5, some (.int), { frames := 5, cells := 0, slots := 0, locals := 114 })
def m_X10_stays : Mt := (yX10_stays, cX10_stays, 9, some (.long), { frames := 1, cells := 0, slots := 0, locals := 24 })
def m_X10_drawn : Mt := (yX10_drawn, cX10_drawn, 2, some (.int), { frames := 0, cells := 0, slots := 0, locals := 0 })
def m_X10_leavesIn : Mt := (yX10_leavesIn, cX10_leavesIn, 5, some (.int), { frames := 4, cells := 0, slots := 0, locals := 88 })
def m_X10_evening : Mt := (yX10_evening, cX10_evening, 2, some (.int), { frames := 5, cells := 0, slots := 0, locals := 112 })
def m_X10_ahead : Mt := (yX10_ahead, cX10_ahead, 5, some (.int), { frames := 5, cells := 0, slots := 0, locals := 112 })
def m_X10_seed : Mt := (yX10_seed, cX10_seed, 2, some (.int), { frames := 1, cells := 0, slots := 0, locals := 23 })
def m_X10_feed : Mt := (yX10_feed, cX10_feed, 4, some (.int), { frames := 1, cells := 0, slots := 0, locals := 22 })
def m_X10_wipe : Mt := (yX10_wipe, cX10_wipe, 2, some (.int), { frames := 0, cells := 0, slots := 0, locals := 0 })
def m_X10_byteAt : Mt := (yX10_byteAt, cX10_byteAt, 2, some (.int), { frames := 0, cells := 0, slots := 0, locals := 0 })
def m_X10_next : Mt := (yX10_next, cX10_next, 2, none, { frames := 1, cells := 0, slots := 0, locals := 22 })
def m_X10_isWord : Mt := (yX10_isWord, cX10_isWord, 4, some (.boolean), { frames := 4, cells := 0, slots := 0, locals := 85 })
def m_X10_must : Mt := (yX10_must, cX10_must, 2, none, { frames := 2, cells := 0, slots := 0, locals := 43 })
def m_X10_number : Mt := (yX10_number, cX10_number, 4, some (.int), { frames := 3, cells := 0, slots := 0, locals := 64 })
def m_X10_item : Mt := (yX10_item, cX10_item, 6, none, { frames := 0, cells := 0, slots := 0, locals := 0 })
def m_X10_kindTold : Mt := (yX10_kindTold, cX10_kindTold, 3, some (.int), { frames := 5, cells := 0, slots := 0, locals := 108 })
def m_X10_isNext : Mt := (yX10_isNext, cX10_isNext, 3, some (.boolean), { frames := 5, cells := 0, slots := 0, locals := 108 })
def m_X10_drift : Mt := (yX10_drift, cX10_drift, 3, some (.int), { frames := 4, cells := 0, slots := 0, locals := 87 })
def m_X10_readPace : Mt := (yX10_readPace, cX10_readPace, 4, none, { frames := 6, cells := 0, slots := 0, locals := 130 })
def m_X10_readRule : Mt := (yX10_readRule, cX10_readRule, 2, none, { frames := 4, cells := 0, slots := 0, locals := 87 })
def m_X10_readItem : Mt := (yX10_readItem, cX10_readItem, 3, none, { frames := 7, cells := 0, slots := 0, locals := 153 })
def m_X10_becomesTold : Mt := (yX10_becomesTold, cX10_becomesTold, 3, none, { frames := 0, cells := 0, slots := 0, locals := 0 })
def m_X10_isSo : Mt := (yX10_isSo, cX10_isSo, 5, some (.int), { frames := 2, cells := 0, slots := 0, locals := 45 })
def m_X10_text : Mt := (yX10_text, cX10_text, 3, some (.int), { frames := 8, cells := 0, slots := 0, locals := 175 })
def m_X10_isSpot : Mt := (yX10_isSpot, cX10_isSpot, 1, some (.boolean), { frames := 1, cells := 0, slots := 0, locals := 22 })
def m_X10_hold : Mt := (yX10_hold, cX10_hold, 3, some (.int), { frames := 2, cells := 0, slots := 0, locals := 43 })
def m_X10_as : Mt := (yX10_as, cX10_as, 4, some (.int), { frames := 2, cells := 0, slots := 0, locals := 43 })
def m_X10_cutTo : Mt := (yX10_cutTo, cX10_cutTo, 2, some (.int), { frames := 0, cells := 0, slots := 0, locals := 0 })
def m_X10_sheet : Mt := (yX10_sheet, cX10_sheet, 5, some (.int), { frames := 2, cells := 0, slots := 0, locals := 42 })
def m_X10_write : Mt := (yX10_write, cX10_write, 4, some (.int), { frames := 2, cells := 0, slots := 0, locals := 42 })
def m_X10_copy : Mt := (yX10_copy, cX10_copy, 7, some (.int), { frames := 2, cells := 0, slots := 0, locals := 42 })
def m_X10_load : Mt := (yX10_load, cX10_load, 3, some (.int), { frames := 2, cells := 0, slots := 0, locals := 43 })
def m_X10_judge : Mt := (yX10_judge, cX10_judge, 4, some (.int), { frames := 4, cells := 0, slots := 0, locals := 88 })
def m_X10_image : Mt := (yX10_image, cX10_image, 1, some (.int), { frames := 1, cells := 0, slots := 0, locals := 22 })
def m_X10_undo : Mt := (yX10_undo, cX10_undo, 1, some (.int), { frames := 1, cells := 0, slots := 0, locals := 22 })
def m_X10_tear : Mt := (yX10_tear, cX10_tear, 2, some (.int), { frames := 0, cells := 0, slots := 0, locals := 0 })
def m_X10_count : Mt := (yX10_count, cX10_count, 4, some (.int), { frames := 2, cells := 0, slots := 0, locals := 43 })
def m_X10_status : Mt := (yX10_status, cX10_status, 2, some (.int), { frames := 1, cells := 0, slots := 0, locals := 22 })
theorem pn_J0 : plainName RJ0 = true := by decide
theorem pn_J1 : plainName RJ1 = true := by decide
theorem pn_J3 : plainName RJ3 = true := by decide
theorem pn_J6 : plainName RJ6 = true := by decide
theorem pn_J7 : plainName RJ7 = true := by decide
theorem pn_X0 : plainName RX0 = true := by decide
theorem pn_X1 : plainName RX1 = true := by decide
theorem pn_X10 : plainName RX10 = true := by decide
theorem pn_X2 : plainName RX2 = true := by decide
theorem pn_X3 : plainName RX3 = true := by decide
theorem pn_X4 : plainName RX4 = true := by decide
theorem pn_X5 : plainName RX5 = true := by decide
theorem pn_X6 : plainName RX6 = true := by decide
theorem pn_X7 : plainName RX7 = true := by decide
theorem pn_X8 : plainName RX8 = true := by decide
theorem pn_X9 : plainName RX9 = true := by decide
theorem ok_X0_takes : SOk m_X0_takes 4 := ⟨⟨gm_mem 388 (by decide +kernel) rfl, gm_mem 79 (by decide +kernel) rfl, by decide +kernel, rfl, rfl⟩, gm_mem 387 (by decide +kernel) rfl⟩
theorem ok_X0_tripsBy : SOk m_X0_tripsBy 4 := ⟨⟨gm_mem 398 (by decide +kernel) rfl, gm_mem 79 (by decide +kernel) rfl, by decide +kernel, rfl, rfl⟩, gm_mem 397 (by decide +kernel) rfl⟩
theorem ok_X0_seenBy : SOk m_X0_seenBy 3 := ⟨⟨gm_mem 405 (by decide +kernel) rfl, gm_mem 79 (by decide +kernel) rfl, by decide +kernel, rfl, rfl⟩, gm_mem 404 (by decide +kernel) rfl⟩
theorem ok_X0_isOrIsUnder : SOk m_X0_isOrIsUnder 2 := ⟨⟨gm_mem 900 (by decide +kernel) rfl, gm_mem 79 (by decide +kernel) rfl, by decide +kernel, rfl, rfl⟩, gm_mem 899 (by decide +kernel) rfl⟩
theorem ok_X1_takeFrom : VOk m_X1_takeFrom 1 := ⟨⟨gm_mem 446 (by decide +kernel) rfl, gm_mem 71 (by decide +kernel) rfl, by decide +kernel, rfl, rfl⟩, gm_mem 444 (by decide +kernel) rfl, gm_mem 445 (by decide +kernel) rfl⟩
theorem ok_X1_held : SOk m_X1_held 1 := ⟨⟨gm_mem 458 (by decide +kernel) rfl, gm_mem 71 (by decide +kernel) rfl, by decide +kernel, rfl, rfl⟩, gm_mem 457 (by decide +kernel) rfl⟩
theorem ok_X1_step : VOk m_X1_step 1 := ⟨⟨gm_mem 455 (by decide +kernel) rfl, gm_mem 71 (by decide +kernel) rfl, by decide +kernel, rfl, rfl⟩, gm_mem 453 (by decide +kernel) rfl, gm_mem 454 (by decide +kernel) rfl⟩
theorem ok_X1_are : VOk m_X1_are 2 := ⟨⟨gm_mem 516 (by decide +kernel) rfl, gm_mem 71 (by decide +kernel) rfl, by decide +kernel, rfl, rfl⟩, gm_mem 514 (by decide +kernel) rfl, gm_mem 515 (by decide +kernel) rfl⟩
theorem ok_X1_habit : VOk m_X1_habit 0 := ⟨⟨gm_mem 511 (by decide +kernel) rfl, gm_mem 71 (by decide +kernel) rfl, by decide +kernel, rfl, rfl⟩, gm_mem 509 (by decide +kernel) rfl, gm_mem 510 (by decide +kernel) rfl⟩
theorem ok_X2_lengthFrom : VOk m_X2_lengthFrom 1 := ⟨⟨gm_mem 524 (by decide +kernel) rfl, gm_mem 72 (by decide +kernel) rfl, by decide +kernel, rfl, rfl⟩, gm_mem 522 (by decide +kernel) rfl, gm_mem 523 (by decide +kernel) rfl⟩
theorem ok_X2_beginFrom : VOk m_X2_beginFrom 2 := ⟨⟨gm_mem 532 (by decide +kernel) rfl, gm_mem 72 (by decide +kernel) rfl, by decide +kernel, rfl, rfl⟩, gm_mem 530 (by decide +kernel) rfl, gm_mem 531 (by decide +kernel) rfl⟩
theorem ok_X3_isDigit : VOk m_X3_isDigit 1 := ⟨⟨gm_mem 774 (by decide +kernel) rfl, gm_mem 76 (by decide +kernel) rfl, by decide +kernel, rfl, rfl⟩, gm_mem 773 (by decide +kernel) rfl, gm_mem 12 (by decide +kernel) rfl⟩
theorem ok_X3_isLetter : VOk m_X3_isLetter 1 := ⟨⟨gm_mem 770 (by decide +kernel) rfl, gm_mem 76 (by decide +kernel) rfl, by decide +kernel, rfl, rfl⟩, gm_mem 769 (by decide +kernel) rfl, gm_mem 11 (by decide +kernel) rfl⟩
theorem ok_X3_signAt : VOk m_X3_signAt 1 := ⟨⟨gm_mem 780 (by decide +kernel) rfl, gm_mem 76 (by decide +kernel) rfl, by decide +kernel, rfl, rfl⟩, gm_mem 779 (by decide +kernel) rfl, gm_mem 13 (by decide +kernel) rfl⟩
theorem ok_X3_lookOn : VOk m_X3_lookOn 0 := ⟨⟨gm_mem 766 (by decide +kernel) rfl, gm_mem 76 (by decide +kernel) rfl, by decide +kernel, rfl, rfl⟩, gm_mem 765 (by decide +kernel) rfl, gm_mem 10 (by decide +kernel) rfl⟩
theorem ok_J0_isLatin1_aae02 : VOk m_J0_isLatin1_aae02 0 := ⟨⟨gm_mem 816 (by decide +kernel) rfl, gm_mem 82 (by decide +kernel) rfl, by decide +kernel, rfl, rfl⟩, gm_mem 814 (by decide +kernel) rfl, gm_mem 815 (by decide +kernel) rfl⟩
theorem ok_J3_checkIndex_8e157 : SOk m_J3_checkIndex_8e157 3 := ⟨⟨gm_mem 827 (by decide +kernel) rfl, gm_mem 84 (by decide +kernel) rfl, by decide +kernel, rfl, rfl⟩, gm_mem 826 (by decide +kernel) rfl⟩
theorem ok_J0_checkIndex_df160 : SOk m_J0_checkIndex_df160 2 := ⟨⟨gm_mem 822 (by decide +kernel) rfl, gm_mem 82 (by decide +kernel) rfl, by decide +kernel, rfl, rfl⟩, gm_mem 821 (by decide +kernel) rfl⟩
theorem ok_J1_charAt_3b067 : SOk m_J1_charAt_3b067 2 := ⟨⟨gm_mem 819 (by decide +kernel) rfl, gm_mem 83 (by decide +kernel) rfl, by decide +kernel, rfl, rfl⟩, gm_mem 818 (by decide +kernel) rfl⟩
theorem ok_J0_charAt_5068e : VOk m_J0_charAt_5068e 1 := ⟨⟨gm_mem 812 (by decide +kernel) rfl, gm_mem 82 (by decide +kernel) rfl, by decide +kernel, rfl, rfl⟩, gm_mem 810 (by decide +kernel) rfl, gm_mem 811 (by decide +kernel) rfl⟩
theorem ok_J0_coder_7d493 : VOk m_J0_coder_7d493 0 := ⟨⟨gm_mem 806 (by decide +kernel) rfl, gm_mem 82 (by decide +kernel) rfl, by decide +kernel, rfl, rfl⟩, gm_mem 804 (by decide +kernel) rfl, gm_mem 805 (by decide +kernel) rfl⟩
theorem ok_J0_length_8abf5 : VOk m_J0_length_8abf5 0 := ⟨⟨gm_mem 802 (by decide +kernel) rfl, gm_mem 82 (by decide +kernel) rfl, by decide +kernel, rfl, rfl⟩, gm_mem 800 (by decide +kernel) rfl, gm_mem 801 (by decide +kernel) rfl⟩
theorem ok_X3_isWord : VOk m_X3_isWord 1 := ⟨⟨gm_mem 798 (by decide +kernel) rfl, gm_mem 76 (by decide +kernel) rfl, by decide +kernel, rfl, rfl⟩, gm_mem 797 (by decide +kernel) rfl, gm_mem 15 (by decide +kernel) rfl⟩
theorem ok_X3_nameOf : SOk m_X3_nameOf 1 := ⟨⟨gm_mem 787 (by decide +kernel) rfl, gm_mem 76 (by decide +kernel) rfl, by decide +kernel, rfl, rfl⟩, gm_mem 786 (by decide +kernel) rfl⟩
theorem ok_X9_isWithin : SOk m_X9_isWithin 3 := ⟨⟨gm_mem 360 (by decide +kernel) rfl, gm_mem 67 (by decide +kernel) rfl, by decide +kernel, rfl, rfl⟩, gm_mem 359 (by decide +kernel) rfl⟩
theorem ok_X3_isNumber : VOk m_X3_isNumber 2 := ⟨⟨gm_mem 863 (by decide +kernel) rfl, gm_mem 76 (by decide +kernel) rfl, by decide +kernel, rfl, rfl⟩, gm_mem 862 (by decide +kernel) rfl, gm_mem 18 (by decide +kernel) rfl⟩
theorem ok_X6_features : VOk m_X6_features 1 := ⟨⟨gm_mem 409 (by decide +kernel) rfl, gm_mem 68 (by decide +kernel) rfl, by decide +kernel, rfl, rfl⟩, gm_mem 407 (by decide +kernel) rfl, gm_mem 408 (by decide +kernel) rfl⟩
theorem ok_X3_takeFeature : VOk m_X3_takeFeature 3 := ⟨⟨gm_mem 857 (by decide +kernel) rfl, gm_mem 76 (by decide +kernel) rfl, by decide +kernel, rfl, rfl⟩, gm_mem 856 (by decide +kernel) rfl, gm_mem 17 (by decide +kernel) rfl⟩
theorem ok_X6_addLine : VOk m_X6_addLine 1 := ⟨⟨gm_mem 373 (by decide +kernel) rfl, gm_mem 68 (by decide +kernel) rfl, by decide +kernel, rfl, rfl⟩, gm_mem 371 (by decide +kernel) rfl, gm_mem 372 (by decide +kernel) rfl⟩
theorem ok_X6_hasRoom : VOk m_X6_hasRoom 0 := ⟨⟨gm_mem 369 (by decide +kernel) rfl, gm_mem 68 (by decide +kernel) rfl, by decide +kernel, rfl, rfl⟩, gm_mem 367 (by decide +kernel) rfl, gm_mem 368 (by decide +kernel) rfl⟩
theorem ok_X3_takeLine : VOk m_X3_takeLine 1 := ⟨⟨gm_mem 850 (by decide +kernel) rfl, gm_mem 76 (by decide +kernel) rfl, by decide +kernel, rfl, rfl⟩, gm_mem 849 (by decide +kernel) rfl, gm_mem 16 (by decide +kernel) rfl⟩
theorem ok_X3_takeDrift : VOk m_X3_takeDrift 1 := ⟨⟨gm_mem 883 (by decide +kernel) rfl, gm_mem 76 (by decide +kernel) rfl, by decide +kernel, rfl, rfl⟩, gm_mem 882 (by decide +kernel) rfl, gm_mem 21 (by decide +kernel) rfl⟩
theorem ok_X3_takeRule : VOk m_X3_takeRule 1 := ⟨⟨gm_mem 875 (by decide +kernel) rfl, gm_mem 76 (by decide +kernel) rfl, by decide +kernel, rfl, rfl⟩, gm_mem 874 (by decide +kernel) rfl, gm_mem 20 (by decide +kernel) rfl⟩
theorem ok_X3_takePace : VOk m_X3_takePace 1 := ⟨⟨gm_mem 871 (by decide +kernel) rfl, gm_mem 76 (by decide +kernel) rfl, by decide +kernel, rfl, rfl⟩, gm_mem 870 (by decide +kernel) rfl, gm_mem 19 (by decide +kernel) rfl⟩
theorem ok_X3_takeItem : VOk m_X3_takeItem 0 := ⟨⟨gm_mem 784 (by decide +kernel) rfl, gm_mem 76 (by decide +kernel) rfl, by decide +kernel, rfl, rfl⟩, gm_mem 783 (by decide +kernel) rfl, gm_mem 14 (by decide +kernel) rfl⟩
theorem ok_X3_tellTo : VOk m_X3_tellTo 2 := ⟨⟨gm_mem 762 (by decide +kernel) rfl, gm_mem 76 (by decide +kernel) rfl, by decide +kernel, rfl, rfl⟩, gm_mem 760 (by decide +kernel) rfl, gm_mem 761 (by decide +kernel) rfl⟩
theorem ok_X4_weigh : VOk m_X4_weigh 2 := ⟨⟨gm_mem 555 (by decide +kernel) rfl, gm_mem 73 (by decide +kernel) rfl, by decide +kernel, rfl, rfl⟩, gm_mem 554 (by decide +kernel) rfl, gm_mem 2 (by decide +kernel) rfl⟩
theorem ok_X6_linesAhead : VOk m_X6_linesAhead 0 := ⟨⟨gm_mem 437 (by decide +kernel) rfl, gm_mem 68 (by decide +kernel) rfl, by decide +kernel, rfl, rfl⟩, gm_mem 435 (by decide +kernel) rfl, gm_mem 436 (by decide +kernel) rfl⟩
theorem ok_X6_takesOf : VOk m_X6_takesOf 2 := ⟨⟨gm_mem 385 (by decide +kernel) rfl, gm_mem 68 (by decide +kernel) rfl, by decide +kernel, rfl, rfl⟩, gm_mem 383 (by decide +kernel) rfl, gm_mem 384 (by decide +kernel) rfl⟩
theorem ok_X6_takesAhead : VOk m_X6_takesAhead 2 := ⟨⟨gm_mem 450 (by decide +kernel) rfl, gm_mem 68 (by decide +kernel) rfl, by decide +kernel, rfl, rfl⟩, gm_mem 448 (by decide +kernel) rfl, gm_mem 449 (by decide +kernel) rfl⟩
theorem ok_X4_offHour : VOk m_X4_offHour 2 := ⟨⟨gm_mem 551 (by decide +kernel) rfl, gm_mem 73 (by decide +kernel) rfl, by decide +kernel, rfl, rfl⟩, gm_mem 549 (by decide +kernel) rfl, gm_mem 550 (by decide +kernel) rfl⟩
theorem ok_X4_nearestWeights : VOk m_X4_nearestWeights 1 := ⟨⟨gm_mem 547 (by decide +kernel) rfl, gm_mem 73 (by decide +kernel) rfl, by decide +kernel, rfl, rfl⟩, gm_mem 545 (by decide +kernel) rfl, gm_mem 546 (by decide +kernel) rfl⟩
theorem ok_X6_unrestAhead : VOk m_X6_unrestAhead 2 := ⟨⟨gm_mem 579 (by decide +kernel) rfl, gm_mem 68 (by decide +kernel) rfl, by decide +kernel, rfl, rfl⟩, gm_mem 577 (by decide +kernel) rfl, gm_mem 578 (by decide +kernel) rfl⟩
theorem ok_X4_calmestEyes : VOk m_X4_calmestEyes 1 := ⟨⟨gm_mem 572 (by decide +kernel) rfl, gm_mem 73 (by decide +kernel) rfl, by decide +kernel, rfl, rfl⟩, gm_mem 570 (by decide +kernel) rfl, gm_mem 571 (by decide +kernel) rfl⟩
theorem ok_X6_tripsOf : VOk m_X6_tripsOf 1 := ⟨⟨gm_mem 395 (by decide +kernel) rfl, gm_mem 68 (by decide +kernel) rfl, by decide +kernel, rfl, rfl⟩, gm_mem 393 (by decide +kernel) rfl, gm_mem 394 (by decide +kernel) rfl⟩
theorem ok_X4_mostTripping : VOk m_X4_mostTripping 1 := ⟨⟨gm_mem 592 (by decide +kernel) rfl, gm_mem 73 (by decide +kernel) rfl, by decide +kernel, rfl, rfl⟩, gm_mem 590 (by decide +kernel) rfl, gm_mem 591 (by decide +kernel) rfl⟩
theorem ok_X4_quickestKind : VOk m_X4_quickestKind 2 := ⟨⟨gm_mem 601 (by decide +kernel) rfl, gm_mem 73 (by decide +kernel) rfl, by decide +kernel, rfl, rfl⟩, gm_mem 599 (by decide +kernel) rfl, gm_mem 600 (by decide +kernel) rfl⟩
theorem ok_J6_bitCount_0f7a4 : SOk m_J6_bitCount_0f7a4 1 := ⟨⟨gm_mem 614 (by decide +kernel) rfl, gm_mem 81 (by decide +kernel) rfl, by decide +kernel, rfl, rfl⟩, gm_mem 613 (by decide +kernel) rfl⟩
theorem ok_X4_easedBy : VOk m_X4_easedBy 2 := ⟨⟨gm_mem 621 (by decide +kernel) rfl, gm_mem 73 (by decide +kernel) rfl, by decide +kernel, rfl, rfl⟩, gm_mem 620 (by decide +kernel) rfl, gm_mem 3 (by decide +kernel) rfl⟩
theorem ok_X6_tripsAhead : VOk m_X6_tripsAhead 0 := ⟨⟨gm_mem 494 (by decide +kernel) rfl, gm_mem 68 (by decide +kernel) rfl, by decide +kernel, rfl, rfl⟩, gm_mem 492 (by decide +kernel) rfl, gm_mem 493 (by decide +kernel) rfl⟩
theorem ok_X4_fewestEased : VOk m_X4_fewestEased 2 := ⟨⟨gm_mem 609 (by decide +kernel) rfl, gm_mem 73 (by decide +kernel) rfl, by decide +kernel, rfl, rfl⟩, gm_mem 607 (by decide +kernel) rfl, gm_mem 608 (by decide +kernel) rfl⟩
theorem ok_X4_fitsHourWithout : VOk m_X4_fitsHourWithout 2 := ⟨⟨gm_mem 637 (by decide +kernel) rfl, gm_mem 73 (by decide +kernel) rfl, by decide +kernel, rfl, rfl⟩, gm_mem 636 (by decide +kernel) rfl, gm_mem 4 (by decide +kernel) rfl⟩
theorem ok_X6_wordsAheadWithout : VOk m_X6_wordsAheadWithout 1 := ⟨⟨gm_mem 633 (by decide +kernel) rfl, gm_mem 68 (by decide +kernel) rfl, by decide +kernel, rfl, rfl⟩, gm_mem 631 (by decide +kernel) rfl, gm_mem 632 (by decide +kernel) rfl⟩
theorem ok_X4_bestLeftOut : VOk m_X4_bestLeftOut 1 := ⟨⟨gm_mem 629 (by decide +kernel) rfl, gm_mem 73 (by decide +kernel) rfl, by decide +kernel, rfl, rfl⟩, gm_mem 627 (by decide +kernel) rfl, gm_mem 628 (by decide +kernel) rfl⟩
theorem ok_X4_takeJust : VOk m_X4_takeJust 2 := ⟨⟨gm_mem 698 (by decide +kernel) rfl, gm_mem 73 (by decide +kernel) rfl, by decide +kernel, rfl, rfl⟩, gm_mem 697 (by decide +kernel) rfl, gm_mem 9 (by decide +kernel) rfl⟩
theorem ok_X4_tallyFits : VOk m_X4_tallyFits 2 := ⟨⟨gm_mem 694 (by decide +kernel) rfl, gm_mem 73 (by decide +kernel) rfl, by decide +kernel, rfl, rfl⟩, gm_mem 692 (by decide +kernel) rfl, gm_mem 693 (by decide +kernel) rfl⟩
theorem ok_X5_canHave : SOk m_X5_canHave 1 := ⟨⟨gm_mem 909 (by decide +kernel) rfl, gm_mem 77 (by decide +kernel) rfl, by decide +kernel, rfl, rfl⟩, gm_mem 908 (by decide +kernel) rfl⟩
theorem ok_X5_isMissing : VOk m_X5_isMissing 0 := ⟨⟨gm_mem 690 (by decide +kernel) rfl, gm_mem 77 (by decide +kernel) rfl, by decide +kernel, rfl, rfl⟩, gm_mem 688 (by decide +kernel) rfl, gm_mem 689 (by decide +kernel) rfl⟩
theorem ok_J7_fill_53178 : SOk m_J7_fill_53178 2 := ⟨⟨gm_mem 107 (by decide +kernel) rfl, gm_mem 70 (by decide +kernel) rfl, by decide +kernel, rfl, rfl⟩, gm_mem 106 (by decide +kernel) rfl⟩
theorem ok_X5_begin : VOk m_X5_begin 2 := ⟨⟨gm_mem 913 (by decide +kernel) rfl, gm_mem 77 (by decide +kernel) rfl, by decide +kernel, rfl, rfl⟩, gm_mem 911 (by decide +kernel) rfl, gm_mem 912 (by decide +kernel) rfl⟩
theorem ok_X5_hasPart : VOk m_X5_hasPart 2 := ⟨⟨gm_mem 930 (by decide +kernel) rfl, gm_mem 77 (by decide +kernel) rfl, by decide +kernel, rfl, rfl⟩, gm_mem 928 (by decide +kernel) rfl, gm_mem 929 (by decide +kernel) rfl⟩
theorem ok_X5_put : VOk m_X5_put 2 := ⟨⟨gm_mem 922 (by decide +kernel) rfl, gm_mem 77 (by decide +kernel) rfl, by decide +kernel, rfl, rfl⟩, gm_mem 920 (by decide +kernel) rfl, gm_mem 921 (by decide +kernel) rfl⟩
theorem ok_X6_become : VOk m_X6_become 1 := ⟨⟨gm_mem 738 (by decide +kernel) rfl, gm_mem 68 (by decide +kernel) rfl, by decide +kernel, rfl, rfl⟩, gm_mem 736 (by decide +kernel) rfl, gm_mem 737 (by decide +kernel) rfl⟩
theorem ok_X6_isLine : VOk m_X6_isLine 1 := ⟨⟨gm_mem 381 (by decide +kernel) rfl, gm_mem 68 (by decide +kernel) rfl, by decide +kernel, rfl, rfl⟩, gm_mem 379 (by decide +kernel) rfl, gm_mem 380 (by decide +kernel) rfl⟩
theorem ok_X6_sumOf : VOk m_X6_sumOf 1 := ⟨⟨gm_mem 968 (by decide +kernel) rfl, gm_mem 68 (by decide +kernel) rfl, by decide +kernel, rfl, rfl⟩, gm_mem 966 (by decide +kernel) rfl, gm_mem 967 (by decide +kernel) rfl⟩
theorem ok_X6_spotsHeld : VOk m_X6_spotsHeld 0 := ⟨⟨gm_mem 972 (by decide +kernel) rfl, gm_mem 68 (by decide +kernel) rfl, by decide +kernel, rfl, rfl⟩, gm_mem 970 (by decide +kernel) rfl, gm_mem 971 (by decide +kernel) rfl⟩
theorem ok_X6_seenOf : VOk m_X6_seenOf 1 := ⟨⟨gm_mem 402 (by decide +kernel) rfl, gm_mem 68 (by decide +kernel) rfl, by decide +kernel, rfl, rfl⟩, gm_mem 400 (by decide +kernel) rfl, gm_mem 401 (by decide +kernel) rfl⟩
theorem ok_X6_seenAhead : VOk m_X6_seenAhead 0 := ⟨⟨gm_mem 498 (by decide +kernel) rfl, gm_mem 68 (by decide +kernel) rfl, by decide +kernel, rfl, rfl⟩, gm_mem 496 (by decide +kernel) rfl, gm_mem 497 (by decide +kernel) rfl⟩
theorem ok_X6_takeWords : VOk m_X6_takeWords 1 := ⟨⟨gm_mem 939 (by decide +kernel) rfl, gm_mem 68 (by decide +kernel) rfl, by decide +kernel, rfl, rfl⟩, gm_mem 937 (by decide +kernel) rfl, gm_mem 938 (by decide +kernel) rfl⟩
theorem ok_X6_turnPaces : VOk m_X6_turnPaces 1 := ⟨⟨gm_mem 472 (by decide +kernel) rfl, gm_mem 68 (by decide +kernel) rfl, by decide +kernel, rfl, rfl⟩, gm_mem 470 (by decide +kernel) rfl, gm_mem 471 (by decide +kernel) rfl⟩
theorem ok_X6_readOne : VOk m_X6_readOne 1 := ⟨⟨gm_mem 466 (by decide +kernel) rfl, gm_mem 68 (by decide +kernel) rfl, by decide +kernel, rfl, rfl⟩, gm_mem 464 (by decide +kernel) rfl, gm_mem 465 (by decide +kernel) rfl⟩
theorem ok_X6_draw : VOk m_X6_draw 0 := ⟨⟨gm_mem 728 (by decide +kernel) rfl, gm_mem 68 (by decide +kernel) rfl, by decide +kernel, rfl, rfl⟩, gm_mem 726 (by decide +kernel) rfl, gm_mem 727 (by decide +kernel) rfl⟩
theorem ok_X6_spendEvening : VOk m_X6_spendEvening 2 := ⟨⟨gm_mem 723 (by decide +kernel) rfl, gm_mem 68 (by decide +kernel) rfl, by decide +kernel, rfl, rfl⟩, gm_mem 721 (by decide +kernel) rfl, gm_mem 722 (by decide +kernel) rfl⟩
theorem ok_X7_append : VOk m_X7_append 2 := ⟨⟨gm_mem 750 (by decide +kernel) rfl, gm_mem 75 (by decide +kernel) rfl, by decide +kernel, rfl, rfl⟩, gm_mem 748 (by decide +kernel) rfl, gm_mem 749 (by decide +kernel) rfl⟩
theorem ok_X8_byJump : VOk m_X8_byJump 2 := ⟨⟨gm_mem 661 (by decide +kernel) rfl, gm_mem 74 (by decide +kernel) rfl, by decide +kernel, rfl, rfl⟩, gm_mem 660 (by decide +kernel) rfl, gm_mem 6 (by decide +kernel) rfl⟩
theorem ok_X8_measure : VOk m_X8_measure 3 := ⟨⟨gm_mem 656 (by decide +kernel) rfl, gm_mem 74 (by decide +kernel) rfl, by decide +kernel, rfl, rfl⟩, gm_mem 654 (by decide +kernel) rfl, gm_mem 655 (by decide +kernel) rfl⟩
theorem ok_X8_shortest : VOk m_X8_shortest 1 := ⟨⟨gm_mem 666 (by decide +kernel) rfl, gm_mem 74 (by decide +kernel) rfl, by decide +kernel, rfl, rfl⟩, gm_mem 664 (by decide +kernel) rfl, gm_mem 665 (by decide +kernel) rfl⟩
theorem ok_X8_shortestJump : VOk m_X8_shortestJump 2 := ⟨⟨gm_mem 678 (by decide +kernel) rfl, gm_mem 74 (by decide +kernel) rfl, by decide +kernel, rfl, rfl⟩, gm_mem 677 (by decide +kernel) rfl, gm_mem 7 (by decide +kernel) rfl⟩
theorem ok_X8_linesRead : VOk m_X8_linesRead 2 := ⟨⟨gm_mem 674 (by decide +kernel) rfl, gm_mem 74 (by decide +kernel) rfl, by decide +kernel, rfl, rfl⟩, gm_mem 672 (by decide +kernel) rfl, gm_mem 673 (by decide +kernel) rfl⟩
theorem ok_X9_finding : VOk m_X9_finding 1 := ⟨⟨gm_mem 364 (by decide +kernel) rfl, gm_mem 67 (by decide +kernel) rfl, by decide +kernel, rfl, rfl⟩, gm_mem 363 (by decide +kernel) rfl, gm_mem 0 (by decide +kernel) rfl⟩
theorem ok_X9_line : VOk m_X9_line 1 := ⟨⟨gm_mem 357 (by decide +kernel) rfl, gm_mem 67 (by decide +kernel) rfl, by decide +kernel, rfl, rfl⟩, gm_mem 355 (by decide +kernel) rfl, gm_mem 356 (by decide +kernel) rfl⟩
theorem ok_X9_of : VOk m_X9_of 2 := ⟨⟨gm_mem 377 (by decide +kernel) rfl, gm_mem 67 (by decide +kernel) rfl, by decide +kernel, rfl, rfl⟩, gm_mem 375 (by decide +kernel) rfl, gm_mem 376 (by decide +kernel) rfl⟩
theorem ok_X9_change : VOk m_X9_change 3 := ⟨⟨gm_mem 413 (by decide +kernel) rfl, gm_mem 67 (by decide +kernel) rfl, by decide +kernel, rfl, rfl⟩, gm_mem 411 (by decide +kernel) rfl, gm_mem 412 (by decide +kernel) rfl⟩
theorem ok_X9_rule : VOk m_X9_rule 2 := ⟨⟨gm_mem 421 (by decide +kernel) rfl, gm_mem 67 (by decide +kernel) rfl, by decide +kernel, rfl, rfl⟩, gm_mem 419 (by decide +kernel) rfl, gm_mem 420 (by decide +kernel) rfl⟩
theorem ok_X9_ruled : VOk m_X9_ruled 1 := ⟨⟨gm_mem 429 (by decide +kernel) rfl, gm_mem 67 (by decide +kernel) rfl, by decide +kernel, rfl, rfl⟩, gm_mem 427 (by decide +kernel) rfl, gm_mem 428 (by decide +kernel) rfl⟩
theorem ok_X9_takesAhead : VOk m_X9_takesAhead 1 := ⟨⟨gm_mem 442 (by decide +kernel) rfl, gm_mem 67 (by decide +kernel) rfl, by decide +kernel, rfl, rfl⟩, gm_mem 441 (by decide +kernel) rfl, gm_mem 1 (by decide +kernel) rfl⟩
theorem ok_X9_read : VOk m_X9_read 1 := ⟨⟨gm_mem 433 (by decide +kernel) rfl, gm_mem 67 (by decide +kernel) rfl, by decide +kernel, rfl, rfl⟩, gm_mem 431 (by decide +kernel) rfl, gm_mem 432 (by decide +kernel) rfl⟩
theorem ok_X9_go : VOk m_X9_go 1 := ⟨⟨gm_mem 477 (by decide +kernel) rfl, gm_mem 67 (by decide +kernel) rfl, by decide +kernel, rfl, rfl⟩, gm_mem 475 (by decide +kernel) rfl, gm_mem 476 (by decide +kernel) rfl⟩
theorem ok_X9_turn : VOk m_X9_turn 0 := ⟨⟨gm_mem 481 (by decide +kernel) rfl, gm_mem 67 (by decide +kernel) rfl, by decide +kernel, rfl, rfl⟩, gm_mem 479 (by decide +kernel) rfl, gm_mem 480 (by decide +kernel) rfl⟩
theorem ok_X9_now : VOk m_X9_now 1 := ⟨⟨gm_mem 486 (by decide +kernel) rfl, gm_mem 67 (by decide +kernel) rfl, by decide +kernel, rfl, rfl⟩, gm_mem 484 (by decide +kernel) rfl, gm_mem 485 (by decide +kernel) rfl⟩
theorem ok_X9_rest : VOk m_X9_rest 1 := ⟨⟨gm_mem 490 (by decide +kernel) rfl, gm_mem 67 (by decide +kernel) rfl, by decide +kernel, rfl, rfl⟩, gm_mem 488 (by decide +kernel) rfl, gm_mem 489 (by decide +kernel) rfl⟩
theorem ok_X9_pace : VOk m_X9_pace 2 := ⟨⟨gm_mem 502 (by decide +kernel) rfl, gm_mem 67 (by decide +kernel) rfl, by decide +kernel, rfl, rfl⟩, gm_mem 500 (by decide +kernel) rfl, gm_mem 501 (by decide +kernel) rfl⟩
theorem ok_X9_sign : VOk m_X9_sign 0 := ⟨⟨gm_mem 507 (by decide +kernel) rfl, gm_mem 67 (by decide +kernel) rfl, by decide +kernel, rfl, rfl⟩, gm_mem 505 (by decide +kernel) rfl, gm_mem 506 (by decide +kernel) rfl⟩
theorem ok_X9_round : VOk m_X9_round 1 := ⟨⟨gm_mem 520 (by decide +kernel) rfl, gm_mem 67 (by decide +kernel) rfl, by decide +kernel, rfl, rfl⟩, gm_mem 518 (by decide +kernel) rfl, gm_mem 519 (by decide +kernel) rfl⟩
theorem ok_X9_leads : VOk m_X9_leads 0 := ⟨⟨gm_mem 536 (by decide +kernel) rfl, gm_mem 67 (by decide +kernel) rfl, by decide +kernel, rfl, rfl⟩, gm_mem 534 (by decide +kernel) rfl, gm_mem 535 (by decide +kernel) rfl⟩
theorem ok_X9_found : VOk m_X9_found 0 := ⟨⟨gm_mem 543 (by decide +kernel) rfl, gm_mem 67 (by decide +kernel) rfl, by decide +kernel, rfl, rfl⟩, gm_mem 541 (by decide +kernel) rfl, gm_mem 542 (by decide +kernel) rfl⟩
theorem ok_X9_off : VOk m_X9_off 0 := ⟨⟨gm_mem 563 (by decide +kernel) rfl, gm_mem 67 (by decide +kernel) rfl, by decide +kernel, rfl, rfl⟩, gm_mem 561 (by decide +kernel) rfl, gm_mem 562 (by decide +kernel) rfl⟩
theorem ok_X9_grid : VOk m_X9_grid 0 := ⟨⟨gm_mem 568 (by decide +kernel) rfl, gm_mem 67 (by decide +kernel) rfl, by decide +kernel, rfl, rfl⟩, gm_mem 566 (by decide +kernel) rfl, gm_mem 567 (by decide +kernel) rfl⟩
theorem ok_X9_worst : VOk m_X9_worst 0 := ⟨⟨gm_mem 583 (by decide +kernel) rfl, gm_mem 67 (by decide +kernel) rfl, by decide +kernel, rfl, rfl⟩, gm_mem 581 (by decide +kernel) rfl, gm_mem 582 (by decide +kernel) rfl⟩
theorem ok_X9_trips : VOk m_X9_trips 0 := ⟨⟨gm_mem 588 (by decide +kernel) rfl, gm_mem 67 (by decide +kernel) rfl, by decide +kernel, rfl, rfl⟩, gm_mem 586 (by decide +kernel) rfl, gm_mem 587 (by decide +kernel) rfl⟩
theorem ok_X9_kindFor : VOk m_X9_kindFor 1 := ⟨⟨gm_mem 597 (by decide +kernel) rfl, gm_mem 67 (by decide +kernel) rfl, by decide +kernel, rfl, rfl⟩, gm_mem 595 (by decide +kernel) rfl, gm_mem 596 (by decide +kernel) rfl⟩
theorem ok_X9_ease : VOk m_X9_ease 1 := ⟨⟨gm_mem 605 (by decide +kernel) rfl, gm_mem 67 (by decide +kernel) rfl, by decide +kernel, rfl, rfl⟩, gm_mem 603 (by decide +kernel) rfl, gm_mem 604 (by decide +kernel) rfl⟩
theorem ok_X9_fit : VOk m_X9_fit 0 := ⟨⟨gm_mem 625 (by decide +kernel) rfl, gm_mem 67 (by decide +kernel) rfl, by decide +kernel, rfl, rfl⟩, gm_mem 623 (by decide +kernel) rfl, gm_mem 624 (by decide +kernel) rfl⟩
theorem ok_X9_kept : VOk m_X9_kept 0 := ⟨⟨gm_mem 643 (by decide +kernel) rfl, gm_mem 67 (by decide +kernel) rfl, by decide +kernel, rfl, rfl⟩, gm_mem 641 (by decide +kernel) rfl, gm_mem 642 (by decide +kernel) rfl⟩
theorem ok_X9_isWay : VOk m_X9_isWay 2 := ⟨⟨gm_mem 652 (by decide +kernel) rfl, gm_mem 67 (by decide +kernel) rfl, by decide +kernel, rfl, rfl⟩, gm_mem 651 (by decide +kernel) rfl, gm_mem 5 (by decide +kernel) rfl⟩
theorem ok_X9_jump : VOk m_X9_jump 2 := ⟨⟨gm_mem 648 (by decide +kernel) rfl, gm_mem 67 (by decide +kernel) rfl, by decide +kernel, rfl, rfl⟩, gm_mem 646 (by decide +kernel) rfl, gm_mem 647 (by decide +kernel) rfl⟩
theorem ok_X9_jumped : VOk m_X9_jumped 2 := ⟨⟨gm_mem 670 (by decide +kernel) rfl, gm_mem 67 (by decide +kernel) rfl, by decide +kernel, rfl, rfl⟩, gm_mem 668 (by decide +kernel) rfl, gm_mem 669 (by decide +kernel) rfl⟩
theorem ok_X9_isSheet : VOk m_X9_isSheet 1 := ⟨⟨gm_mem 686 (by decide +kernel) rfl, gm_mem 67 (by decide +kernel) rfl, by decide +kernel, rfl, rfl⟩, gm_mem 685 (by decide +kernel) rfl, gm_mem 8 (by decide +kernel) rfl⟩
theorem ok_X9_fits : VOk m_X9_fits 1 := ⟨⟨gm_mem 682 (by decide +kernel) rfl, gm_mem 67 (by decide +kernel) rfl, by decide +kernel, rfl, rfl⟩, gm_mem 680 (by decide +kernel) rfl, gm_mem 681 (by decide +kernel) rfl⟩
theorem ok_X9_led : VOk m_X9_led 1 := ⟨⟨gm_mem 703 (by decide +kernel) rfl, gm_mem 67 (by decide +kernel) rfl, by decide +kernel, rfl, rfl⟩, gm_mem 701 (by decide +kernel) rfl, gm_mem 702 (by decide +kernel) rfl⟩
theorem ok_X9_commonDivisor : SOk m_X9_commonDivisor 2 := ⟨⟨gm_mem 710 (by decide +kernel) rfl, gm_mem 67 (by decide +kernel) rfl, by decide +kernel, rfl, rfl⟩, gm_mem 709 (by decide +kernel) rfl⟩
theorem ok_X9_part : VOk m_X9_part 2 := ⟨⟨gm_mem 707 (by decide +kernel) rfl, gm_mem 67 (by decide +kernel) rfl, by decide +kernel, rfl, rfl⟩, gm_mem 705 (by decide +kernel) rfl, gm_mem 706 (by decide +kernel) rfl⟩
theorem ok_X9_stays : VOk m_X9_stays 2 := ⟨⟨gm_mem 714 (by decide +kernel) rfl, gm_mem 67 (by decide +kernel) rfl, by decide +kernel, rfl, rfl⟩, gm_mem 712 (by decide +kernel) rfl, gm_mem 713 (by decide +kernel) rfl⟩
theorem ok_X9_evening : VOk m_X9_evening 1 := ⟨⟨gm_mem 718 (by decide +kernel) rfl, gm_mem 67 (by decide +kernel) rfl, by decide +kernel, rfl, rfl⟩, gm_mem 716 (by decide +kernel) rfl, gm_mem 717 (by decide +kernel) rfl⟩
theorem ok_X9_ahead : VOk m_X9_ahead 1 := ⟨⟨gm_mem 734 (by decide +kernel) rfl, gm_mem 67 (by decide +kernel) rfl, by decide +kernel, rfl, rfl⟩, gm_mem 732 (by decide +kernel) rfl, gm_mem 733 (by decide +kernel) rfl⟩
theorem ok_X9_seed : VOk m_X9_seed 1 := ⟨⟨gm_mem 742 (by decide +kernel) rfl, gm_mem 67 (by decide +kernel) rfl, by decide +kernel, rfl, rfl⟩, gm_mem 740 (by decide +kernel) rfl, gm_mem 741 (by decide +kernel) rfl⟩
theorem ok_X9_feed : VOk m_X9_feed 2 := ⟨⟨gm_mem 746 (by decide +kernel) rfl, gm_mem 67 (by decide +kernel) rfl, by decide +kernel, rfl, rfl⟩, gm_mem 744 (by decide +kernel) rfl, gm_mem 745 (by decide +kernel) rfl⟩
theorem ok_X9_wipe : VOk m_X9_wipe 0 := ⟨⟨gm_mem 754 (by decide +kernel) rfl, gm_mem 67 (by decide +kernel) rfl, by decide +kernel, rfl, rfl⟩, gm_mem 752 (by decide +kernel) rfl, gm_mem 753 (by decide +kernel) rfl⟩
theorem ok_X9_text : VOk m_X9_text 0 := ⟨⟨gm_mem 758 (by decide +kernel) rfl, gm_mem 67 (by decide +kernel) rfl, by decide +kernel, rfl, rfl⟩, gm_mem 756 (by decide +kernel) rfl, gm_mem 757 (by decide +kernel) rfl⟩
theorem ok_X9_hold : VOk m_X9_hold 2 := ⟨⟨gm_mem 893 (by decide +kernel) rfl, gm_mem 67 (by decide +kernel) rfl, by decide +kernel, rfl, rfl⟩, gm_mem 891 (by decide +kernel) rfl, gm_mem 892 (by decide +kernel) rfl⟩
theorem ok_X9_as : VOk m_X9_as 2 := ⟨⟨gm_mem 897 (by decide +kernel) rfl, gm_mem 67 (by decide +kernel) rfl, by decide +kernel, rfl, rfl⟩, gm_mem 895 (by decide +kernel) rfl, gm_mem 896 (by decide +kernel) rfl⟩
theorem ok_X9_sheet : VOk m_X9_sheet 3 := ⟨⟨gm_mem 906 (by decide +kernel) rfl, gm_mem 67 (by decide +kernel) rfl, by decide +kernel, rfl, rfl⟩, gm_mem 904 (by decide +kernel) rfl, gm_mem 905 (by decide +kernel) rfl⟩
theorem ok_X9_write : VOk m_X9_write 3 := ⟨⟨gm_mem 918 (by decide +kernel) rfl, gm_mem 67 (by decide +kernel) rfl, by decide +kernel, rfl, rfl⟩, gm_mem 916 (by decide +kernel) rfl, gm_mem 917 (by decide +kernel) rfl⟩
theorem ok_X9_copy : VOk m_X9_copy 5 := ⟨⟨gm_mem 926 (by decide +kernel) rfl, gm_mem 67 (by decide +kernel) rfl, by decide +kernel, rfl, rfl⟩, gm_mem 924 (by decide +kernel) rfl, gm_mem 925 (by decide +kernel) rfl⟩
theorem ok_X9_load : VOk m_X9_load 1 := ⟨⟨gm_mem 935 (by decide +kernel) rfl, gm_mem 67 (by decide +kernel) rfl, by decide +kernel, rfl, rfl⟩, gm_mem 933 (by decide +kernel) rfl, gm_mem 934 (by decide +kernel) rfl⟩
theorem ok_X9_firstWrongTime : VOk m_X9_firstWrongTime 1 := ⟨⟨gm_mem 948 (by decide +kernel) rfl, gm_mem 67 (by decide +kernel) rfl, by decide +kernel, rfl, rfl⟩, gm_mem 947 (by decide +kernel) rfl, gm_mem 22 (by decide +kernel) rfl⟩
theorem ok_X9_judge : VOk m_X9_judge 1 := ⟨⟨gm_mem 944 (by decide +kernel) rfl, gm_mem 67 (by decide +kernel) rfl, by decide +kernel, rfl, rfl⟩, gm_mem 942 (by decide +kernel) rfl, gm_mem 943 (by decide +kernel) rfl⟩
theorem ok_X9_image : VOk m_X9_image 0 := ⟨⟨gm_mem 952 (by decide +kernel) rfl, gm_mem 67 (by decide +kernel) rfl, by decide +kernel, rfl, rfl⟩, gm_mem 950 (by decide +kernel) rfl, gm_mem 951 (by decide +kernel) rfl⟩
theorem ok_X9_undo : VOk m_X9_undo 0 := ⟨⟨gm_mem 956 (by decide +kernel) rfl, gm_mem 67 (by decide +kernel) rfl, by decide +kernel, rfl, rfl⟩, gm_mem 954 (by decide +kernel) rfl, gm_mem 955 (by decide +kernel) rfl⟩
theorem ok_X9_tear : VOk m_X9_tear 0 := ⟨⟨gm_mem 960 (by decide +kernel) rfl, gm_mem 67 (by decide +kernel) rfl, by decide +kernel, rfl, rfl⟩, gm_mem 958 (by decide +kernel) rfl, gm_mem 959 (by decide +kernel) rfl⟩
theorem ok_X9_count : VOk m_X9_count 1 := ⟨⟨gm_mem 964 (by decide +kernel) rfl, gm_mem 67 (by decide +kernel) rfl, by decide +kernel, rfl, rfl⟩, gm_mem 962 (by decide +kernel) rfl, gm_mem 963 (by decide +kernel) rfl⟩
theorem ok_X9_status : VOk m_X9_status 1 := ⟨⟨gm_mem 976 (by decide +kernel) rfl, gm_mem 67 (by decide +kernel) rfl, by decide +kernel, rfl, rfl⟩, gm_mem 974 (by decide +kernel) rfl, gm_mem 975 (by decide +kernel) rfl⟩
theorem ok_X10_finding : VOk m_X10_finding 1 := ⟨⟨gm_mem 1091 (by decide +kernel) rfl, gm_mem 78 (by decide +kernel) rfl, by decide +kernel, rfl, rfl⟩, gm_mem 1090 (by decide +kernel) rfl, gm_mem 23 (by decide +kernel) rfl⟩
theorem ok_X10_within : SOk m_X10_within 3 := ⟨⟨gm_mem 1086 (by decide +kernel) rfl, gm_mem 78 (by decide +kernel) rfl, by decide +kernel, rfl, rfl⟩, gm_mem 1085 (by decide +kernel) rfl⟩
theorem ok_X10_become : VOk m_X10_become 2 := ⟨⟨gm_mem 1132 (by decide +kernel) rfl, gm_mem 78 (by decide +kernel) rfl, by decide +kernel, rfl, rfl⟩, gm_mem 1131 (by decide +kernel) rfl, gm_mem 30 (by decide +kernel) rfl⟩
theorem ok_X10_copyRow : SOk m_X10_copyRow 2 := ⟨⟨gm_mem 1162 (by decide +kernel) rfl, gm_mem 78 (by decide +kernel) rfl, by decide +kernel, rfl, rfl⟩, gm_mem 1161 (by decide +kernel) rfl⟩
theorem ok_X10_putBack : VOk m_X10_putBack 1 := ⟨⟨gm_mem 1183 (by decide +kernel) rfl, gm_mem 78 (by decide +kernel) rfl, by decide +kernel, rfl, rfl⟩, gm_mem 1182 (by decide +kernel) rfl, gm_mem 35 (by decide +kernel) rfl⟩
theorem ok_X10_has : SOk m_X10_has 2 := ⟨⟨gm_mem 1277 (by decide +kernel) rfl, gm_mem 78 (by decide +kernel) rfl, by decide +kernel, rfl, rfl⟩, gm_mem 1276 (by decide +kernel) rfl⟩
theorem ok_X10_bits : SOk m_X10_bits 1 := ⟨⟨gm_mem 1284 (by decide +kernel) rfl, gm_mem 78 (by decide +kernel) rfl, by decide +kernel, rfl, rfl⟩, gm_mem 1283 (by decide +kernel) rfl⟩
theorem ok_X10_isLine : VOk m_X10_isLine 1 := ⟨⟨gm_mem 1107 (by decide +kernel) rfl, gm_mem 78 (by decide +kernel) rfl, by decide +kernel, rfl, rfl⟩, gm_mem 1106 (by decide +kernel) rfl, gm_mem 25 (by decide +kernel) rfl⟩
theorem ok_X10_isKind : SOk m_X10_isKind 1 := ⟨⟨gm_mem 1083 (by decide +kernel) rfl, gm_mem 78 (by decide +kernel) rfl, by decide +kernel, rfl, rfl⟩, gm_mem 1082 (by decide +kernel) rfl⟩
theorem ok_X10_at : SOk m_X10_at 2 := ⟨⟨gm_mem 1099 (by decide +kernel) rfl, gm_mem 78 (by decide +kernel) rfl, by decide +kernel, rfl, rfl⟩, gm_mem 1098 (by decide +kernel) rfl⟩
theorem ok_X10_lineIs : VOk m_X10_lineIs 2 := ⟨⟨gm_mem 1111 (by decide +kernel) rfl, gm_mem 78 (by decide +kernel) rfl, by decide +kernel, rfl, rfl⟩, gm_mem 1110 (by decide +kernel) rfl, gm_mem 26 (by decide +kernel) rfl⟩
theorem ok_X10_comes : VOk m_X10_comes 3 := ⟨⟨gm_mem 1096 (by decide +kernel) rfl, gm_mem 78 (by decide +kernel) rfl, by decide +kernel, rfl, rfl⟩, gm_mem 1095 (by decide +kernel) rfl, gm_mem 24 (by decide +kernel) rfl⟩
theorem ok_X10_line : VOk m_X10_line 1 := ⟨⟨gm_mem 1080 (by decide +kernel) rfl, gm_mem 78 (by decide +kernel) rfl, by decide +kernel, rfl, rfl⟩, gm_mem 1078 (by decide +kernel) rfl, gm_mem 1079 (by decide +kernel) rfl⟩
theorem ok_X10_above : SOk m_X10_above 1 := ⟨⟨gm_mem 1467 (by decide +kernel) rfl, gm_mem 78 (by decide +kernel) rfl, by decide +kernel, rfl, rfl⟩, gm_mem 1466 (by decide +kernel) rfl⟩
theorem ok_X10_isUnder : SOk m_X10_isUnder 2 := ⟨⟨gm_mem 1464 (by decide +kernel) rfl, gm_mem 78 (by decide +kernel) rfl, by decide +kernel, rfl, rfl⟩, gm_mem 1463 (by decide +kernel) rfl⟩
theorem ok_X10_takes : VOk m_X10_takes 1 := ⟨⟨gm_mem 1115 (by decide +kernel) rfl, gm_mem 78 (by decide +kernel) rfl, by decide +kernel, rfl, rfl⟩, gm_mem 1114 (by decide +kernel) rfl, gm_mem 27 (by decide +kernel) rfl⟩
theorem ok_X10_trips : VOk m_X10_trips 1 := ⟨⟨gm_mem 1120 (by decide +kernel) rfl, gm_mem 78 (by decide +kernel) rfl, by decide +kernel, rfl, rfl⟩, gm_mem 1119 (by decide +kernel) rfl, gm_mem 28 (by decide +kernel) rfl⟩
theorem ok_X10_seen : VOk m_X10_seen 1 := ⟨⟨gm_mem 1124 (by decide +kernel) rfl, gm_mem 78 (by decide +kernel) rfl, by decide +kernel, rfl, rfl⟩, gm_mem 1123 (by decide +kernel) rfl, gm_mem 29 (by decide +kernel) rfl⟩
theorem ok_X10_of : VOk m_X10_of 2 := ⟨⟨gm_mem 1103 (by decide +kernel) rfl, gm_mem 78 (by decide +kernel) rfl, by decide +kernel, rfl, rfl⟩, gm_mem 1101 (by decide +kernel) rfl, gm_mem 1102 (by decide +kernel) rfl⟩
theorem ok_X10_change : VOk m_X10_change 3 := ⟨⟨gm_mem 1128 (by decide +kernel) rfl, gm_mem 78 (by decide +kernel) rfl, by decide +kernel, rfl, rfl⟩, gm_mem 1126 (by decide +kernel) rfl, gm_mem 1127 (by decide +kernel) rfl⟩
theorem ok_X10_isRule : SOk m_X10_isRule 1 := ⟨⟨gm_mem 1139 (by decide +kernel) rfl, gm_mem 78 (by decide +kernel) rfl, by decide +kernel, rfl, rfl⟩, gm_mem 1138 (by decide +kernel) rfl⟩
theorem ok_X10_least : SOk m_X10_least 1 := ⟨⟨gm_mem 1142 (by decide +kernel) rfl, gm_mem 78 (by decide +kernel) rfl, by decide +kernel, rfl, rfl⟩, gm_mem 1141 (by decide +kernel) rfl⟩
theorem ok_X10_most : SOk m_X10_most 1 := ⟨⟨gm_mem 1145 (by decide +kernel) rfl, gm_mem 78 (by decide +kernel) rfl, by decide +kernel, rfl, rfl⟩, gm_mem 1144 (by decide +kernel) rfl⟩
theorem ok_X10_rule : VOk m_X10_rule 2 := ⟨⟨gm_mem 1136 (by decide +kernel) rfl, gm_mem 78 (by decide +kernel) rfl, by decide +kernel, rfl, rfl⟩, gm_mem 1134 (by decide +kernel) rfl, gm_mem 1135 (by decide +kernel) rfl⟩
theorem ok_X10_ruled : VOk m_X10_ruled 1 := ⟨⟨gm_mem 1150 (by decide +kernel) rfl, gm_mem 78 (by decide +kernel) rfl, by decide +kernel, rfl, rfl⟩, gm_mem 1148 (by decide +kernel) rfl, gm_mem 1149 (by decide +kernel) rfl⟩
theorem ok_X10_held : SOk m_X10_held 1 := ⟨⟨gm_mem 1177 (by decide +kernel) rfl, gm_mem 78 (by decide +kernel) rfl, by decide +kernel, rfl, rfl⟩, gm_mem 1176 (by decide +kernel) rfl⟩
theorem ok_X10_turns : VOk m_X10_turns 0 := ⟨⟨gm_mem 1174 (by decide +kernel) rfl, gm_mem 78 (by decide +kernel) rfl, by decide +kernel, rfl, rfl⟩, gm_mem 1173 (by decide +kernel) rfl, gm_mem 34 (by decide +kernel) rfl⟩
theorem ok_X10_reads : VOk m_X10_reads 0 := ⟨⟨gm_mem 1170 (by decide +kernel) rfl, gm_mem 78 (by decide +kernel) rfl, by decide +kernel, rfl, rfl⟩, gm_mem 1169 (by decide +kernel) rfl, gm_mem 33 (by decide +kernel) rfl⟩
theorem ok_X10_readsOn : VOk m_X10_readsOn 1 := ⟨⟨gm_mem 1166 (by decide +kernel) rfl, gm_mem 78 (by decide +kernel) rfl, by decide +kernel, rfl, rfl⟩, gm_mem 1165 (by decide +kernel) rfl, gm_mem 32 (by decide +kernel) rfl⟩
theorem ok_X10_left : VOk m_X10_left 0 := ⟨⟨gm_mem 1158 (by decide +kernel) rfl, gm_mem 78 (by decide +kernel) rfl, by decide +kernel, rfl, rfl⟩, gm_mem 1157 (by decide +kernel) rfl, gm_mem 31 (by decide +kernel) rfl⟩
theorem ok_X10_read : VOk m_X10_read 1 := ⟨⟨gm_mem 1154 (by decide +kernel) rfl, gm_mem 78 (by decide +kernel) rfl, by decide +kernel, rfl, rfl⟩, gm_mem 1152 (by decide +kernel) rfl, gm_mem 1153 (by decide +kernel) rfl⟩
theorem ok_X10_go : VOk m_X10_go 1 := ⟨⟨gm_mem 1187 (by decide +kernel) rfl, gm_mem 78 (by decide +kernel) rfl, by decide +kernel, rfl, rfl⟩, gm_mem 1185 (by decide +kernel) rfl, gm_mem 1186 (by decide +kernel) rfl⟩
theorem ok_X10_turn : VOk m_X10_turn 0 := ⟨⟨gm_mem 1191 (by decide +kernel) rfl, gm_mem 78 (by decide +kernel) rfl, by decide +kernel, rfl, rfl⟩, gm_mem 1189 (by decide +kernel) rfl, gm_mem 1190 (by decide +kernel) rfl⟩
theorem ok_X10_now : VOk m_X10_now 1 := ⟨⟨gm_mem 1195 (by decide +kernel) rfl, gm_mem 78 (by decide +kernel) rfl, by decide +kernel, rfl, rfl⟩, gm_mem 1193 (by decide +kernel) rfl, gm_mem 1194 (by decide +kernel) rfl⟩
theorem ok_X10_restTakes : VOk m_X10_restTakes 0 := ⟨⟨gm_mem 1203 (by decide +kernel) rfl, gm_mem 78 (by decide +kernel) rfl, by decide +kernel, rfl, rfl⟩, gm_mem 1202 (by decide +kernel) rfl, gm_mem 36 (by decide +kernel) rfl⟩
theorem ok_X10_restTrips : VOk m_X10_restTrips 0 := ⟨⟨gm_mem 1207 (by decide +kernel) rfl, gm_mem 78 (by decide +kernel) rfl, by decide +kernel, rfl, rfl⟩, gm_mem 1206 (by decide +kernel) rfl, gm_mem 37 (by decide +kernel) rfl⟩
theorem ok_X10_restSeen : VOk m_X10_restSeen 0 := ⟨⟨gm_mem 1211 (by decide +kernel) rfl, gm_mem 78 (by decide +kernel) rfl, by decide +kernel, rfl, rfl⟩, gm_mem 1210 (by decide +kernel) rfl, gm_mem 38 (by decide +kernel) rfl⟩
theorem ok_X10_paceThen : VOk m_X10_paceThen 2 := ⟨⟨gm_mem 1215 (by decide +kernel) rfl, gm_mem 78 (by decide +kernel) rfl, by decide +kernel, rfl, rfl⟩, gm_mem 1214 (by decide +kernel) rfl, gm_mem 39 (by decide +kernel) rfl⟩
theorem ok_X10_rest : VOk m_X10_rest 1 := ⟨⟨gm_mem 1199 (by decide +kernel) rfl, gm_mem 78 (by decide +kernel) rfl, by decide +kernel, rfl, rfl⟩, gm_mem 1197 (by decide +kernel) rfl, gm_mem 1198 (by decide +kernel) rfl⟩
theorem ok_X10_pace : VOk m_X10_pace 2 := ⟨⟨gm_mem 1219 (by decide +kernel) rfl, gm_mem 78 (by decide +kernel) rfl, by decide +kernel, rfl, rfl⟩, gm_mem 1217 (by decide +kernel) rfl, gm_mem 1218 (by decide +kernel) rfl⟩
theorem ok_X10_signThen : VOk m_X10_signThen 0 := ⟨⟨gm_mem 1227 (by decide +kernel) rfl, gm_mem 78 (by decide +kernel) rfl, by decide +kernel, rfl, rfl⟩, gm_mem 1226 (by decide +kernel) rfl, gm_mem 40 (by decide +kernel) rfl⟩
theorem ok_X10_sign : VOk m_X10_sign 0 := ⟨⟨gm_mem 1223 (by decide +kernel) rfl, gm_mem 78 (by decide +kernel) rfl, by decide +kernel, rfl, rfl⟩, gm_mem 1221 (by decide +kernel) rfl, gm_mem 1222 (by decide +kernel) rfl⟩
theorem ok_X10_round : VOk m_X10_round 1 := ⟨⟨gm_mem 1231 (by decide +kernel) rfl, gm_mem 78 (by decide +kernel) rfl, by decide +kernel, rfl, rfl⟩, gm_mem 1229 (by decide +kernel) rfl, gm_mem 1230 (by decide +kernel) rfl⟩
theorem ok_X10_leads : VOk m_X10_leads 0 := ⟨⟨gm_mem 1235 (by decide +kernel) rfl, gm_mem 78 (by decide +kernel) rfl, by decide +kernel, rfl, rfl⟩, gm_mem 1233 (by decide +kernel) rfl, gm_mem 1234 (by decide +kernel) rfl⟩
theorem ok_X10_findWeights : VOk m_X10_findWeights 0 := ⟨⟨gm_mem 1244 (by decide +kernel) rfl, gm_mem 78 (by decide +kernel) rfl, by decide +kernel, rfl, rfl⟩, gm_mem 1243 (by decide +kernel) rfl, gm_mem 41 (by decide +kernel) rfl⟩
theorem ok_X10_found : VOk m_X10_found 0 := ⟨⟨gm_mem 1240 (by decide +kernel) rfl, gm_mem 78 (by decide +kernel) rfl, by decide +kernel, rfl, rfl⟩, gm_mem 1238 (by decide +kernel) rfl, gm_mem 1239 (by decide +kernel) rfl⟩
theorem ok_X10_off : VOk m_X10_off 0 := ⟨⟨gm_mem 1249 (by decide +kernel) rfl, gm_mem 78 (by decide +kernel) rfl, by decide +kernel, rfl, rfl⟩, gm_mem 1247 (by decide +kernel) rfl, gm_mem 1248 (by decide +kernel) rfl⟩
theorem ok_X10_findGrid : VOk m_X10_findGrid 0 := ⟨⟨gm_mem 1257 (by decide +kernel) rfl, gm_mem 78 (by decide +kernel) rfl, by decide +kernel, rfl, rfl⟩, gm_mem 1256 (by decide +kernel) rfl, gm_mem 42 (by decide +kernel) rfl⟩
theorem ok_X10_grid : VOk m_X10_grid 0 := ⟨⟨gm_mem 1253 (by decide +kernel) rfl, gm_mem 78 (by decide +kernel) rfl, by decide +kernel, rfl, rfl⟩, gm_mem 1251 (by decide +kernel) rfl, gm_mem 1252 (by decide +kernel) rfl⟩
theorem ok_X10_worst : VOk m_X10_worst 0 := ⟨⟨gm_mem 1261 (by decide +kernel) rfl, gm_mem 78 (by decide +kernel) rfl, by decide +kernel, rfl, rfl⟩, gm_mem 1259 (by decide +kernel) rfl, gm_mem 1260 (by decide +kernel) rfl⟩
theorem ok_X10_trips_ : VOk m_X10_trips_ 0 := ⟨⟨gm_mem 1265 (by decide +kernel) rfl, gm_mem 78 (by decide +kernel) rfl, by decide +kernel, rfl, rfl⟩, gm_mem 1263 (by decide +kernel) rfl, gm_mem 1264 (by decide +kernel) rfl⟩
theorem ok_X10_kindFor : VOk m_X10_kindFor 1 := ⟨⟨gm_mem 1270 (by decide +kernel) rfl, gm_mem 78 (by decide +kernel) rfl, by decide +kernel, rfl, rfl⟩, gm_mem 1268 (by decide +kernel) rfl, gm_mem 1269 (by decide +kernel) rfl⟩
theorem ok_X10_eases : VOk m_X10_eases 1 := ⟨⟨gm_mem 1281 (by decide +kernel) rfl, gm_mem 78 (by decide +kernel) rfl, by decide +kernel, rfl, rfl⟩, gm_mem 1280 (by decide +kernel) rfl, gm_mem 43 (by decide +kernel) rfl⟩
theorem ok_X10_ease : VOk m_X10_ease 1 := ⟨⟨gm_mem 1274 (by decide +kernel) rfl, gm_mem 78 (by decide +kernel) rfl, by decide +kernel, rfl, rfl⟩, gm_mem 1272 (by decide +kernel) rfl, gm_mem 1273 (by decide +kernel) rfl⟩
theorem ok_X10_takesWithout : VOk m_X10_takesWithout 1 := ⟨⟨gm_mem 1296 (by decide +kernel) rfl, gm_mem 78 (by decide +kernel) rfl, by decide +kernel, rfl, rfl⟩, gm_mem 1295 (by decide +kernel) rfl, gm_mem 45 (by decide +kernel) rfl⟩
theorem ok_X10_findFit : VOk m_X10_findFit 0 := ⟨⟨gm_mem 1292 (by decide +kernel) rfl, gm_mem 78 (by decide +kernel) rfl, by decide +kernel, rfl, rfl⟩, gm_mem 1291 (by decide +kernel) rfl, gm_mem 44 (by decide +kernel) rfl⟩
theorem ok_X10_fit : VOk m_X10_fit 0 := ⟨⟨gm_mem 1288 (by decide +kernel) rfl, gm_mem 78 (by decide +kernel) rfl, by decide +kernel, rfl, rfl⟩, gm_mem 1286 (by decide +kernel) rfl, gm_mem 1287 (by decide +kernel) rfl⟩
theorem ok_X10_kept : VOk m_X10_kept 0 := ⟨⟨gm_mem 1300 (by decide +kernel) rfl, gm_mem 78 (by decide +kernel) rfl, by decide +kernel, rfl, rfl⟩, gm_mem 1298 (by decide +kernel) rfl, gm_mem 1299 (by decide +kernel) rfl⟩
theorem ok_X10_jumpFrom : VOk m_X10_jumpFrom 3 := ⟨⟨gm_mem 1316 (by decide +kernel) rfl, gm_mem 78 (by decide +kernel) rfl, by decide +kernel, rfl, rfl⟩, gm_mem 1315 (by decide +kernel) rfl, gm_mem 48 (by decide +kernel) rfl⟩
theorem ok_X10_findWays : VOk m_X10_findWays 2 := ⟨⟨gm_mem 1312 (by decide +kernel) rfl, gm_mem 78 (by decide +kernel) rfl, by decide +kernel, rfl, rfl⟩, gm_mem 1311 (by decide +kernel) rfl, gm_mem 47 (by decide +kernel) rfl⟩
theorem ok_X10_isWay : VOk m_X10_isWay 2 := ⟨⟨gm_mem 1308 (by decide +kernel) rfl, gm_mem 78 (by decide +kernel) rfl, by decide +kernel, rfl, rfl⟩, gm_mem 1307 (by decide +kernel) rfl, gm_mem 46 (by decide +kernel) rfl⟩
theorem ok_X10_jump : VOk m_X10_jump 2 := ⟨⟨gm_mem 1304 (by decide +kernel) rfl, gm_mem 78 (by decide +kernel) rfl, by decide +kernel, rfl, rfl⟩, gm_mem 1302 (by decide +kernel) rfl, gm_mem 1303 (by decide +kernel) rfl⟩
theorem ok_X10_jumped : VOk m_X10_jumped 2 := ⟨⟨gm_mem 1320 (by decide +kernel) rfl, gm_mem 78 (by decide +kernel) rfl, by decide +kernel, rfl, rfl⟩, gm_mem 1318 (by decide +kernel) rfl, gm_mem 1319 (by decide +kernel) rfl⟩
theorem ok_X10_findLed : VOk m_X10_findLed 1 := ⟨⟨gm_mem 1332 (by decide +kernel) rfl, gm_mem 78 (by decide +kernel) rfl, by decide +kernel, rfl, rfl⟩, gm_mem 1331 (by decide +kernel) rfl, gm_mem 49 (by decide +kernel) rfl⟩
theorem ok_X10_isSheet : SOk m_X10_isSheet 1 := ⟨⟨gm_mem 1327 (by decide +kernel) rfl, gm_mem 78 (by decide +kernel) rfl, by decide +kernel, rfl, rfl⟩, gm_mem 1326 (by decide +kernel) rfl⟩
theorem ok_X10_fits : VOk m_X10_fits 1 := ⟨⟨gm_mem 1324 (by decide +kernel) rfl, gm_mem 78 (by decide +kernel) rfl, by decide +kernel, rfl, rfl⟩, gm_mem 1322 (by decide +kernel) rfl, gm_mem 1323 (by decide +kernel) rfl⟩
theorem ok_X10_led : VOk m_X10_led 1 := ⟨⟨gm_mem 1336 (by decide +kernel) rfl, gm_mem 78 (by decide +kernel) rfl, by decide +kernel, rfl, rfl⟩, gm_mem 1334 (by decide +kernel) rfl, gm_mem 1335 (by decide +kernel) rfl⟩
theorem ok_X10_common : SOk m_X10_common 2 := ⟨⟨gm_mem 1343 (by decide +kernel) rfl, gm_mem 78 (by decide +kernel) rfl, by decide +kernel, rfl, rfl⟩, gm_mem 1342 (by decide +kernel) rfl⟩
theorem ok_X10_part : VOk m_X10_part 2 := ⟨⟨gm_mem 1340 (by decide +kernel) rfl, gm_mem 78 (by decide +kernel) rfl, by decide +kernel, rfl, rfl⟩, gm_mem 1338 (by decide +kernel) rfl, gm_mem 1339 (by decide +kernel) rfl⟩
theorem ok_X10_stays : VOk m_X10_stays 2 := ⟨⟨gm_mem 1347 (by decide +kernel) rfl, gm_mem 78 (by decide +kernel) rfl, by decide +kernel, rfl, rfl⟩, gm_mem 1345 (by decide +kernel) rfl, gm_mem 1346 (by decide +kernel) rfl⟩
theorem ok_X10_drawn : VOk m_X10_drawn 1 := ⟨⟨gm_mem 1360 (by decide +kernel) rfl, gm_mem 78 (by decide +kernel) rfl, by decide +kernel, rfl, rfl⟩, gm_mem 1359 (by decide +kernel) rfl, gm_mem 51 (by decide +kernel) rfl⟩
theorem ok_X10_leavesIn : VOk m_X10_leavesIn 1 := ⟨⟨gm_mem 1356 (by decide +kernel) rfl, gm_mem 78 (by decide +kernel) rfl, by decide +kernel, rfl, rfl⟩, gm_mem 1355 (by decide +kernel) rfl, gm_mem 50 (by decide +kernel) rfl⟩
theorem ok_X10_evening : VOk m_X10_evening 1 := ⟨⟨gm_mem 1351 (by decide +kernel) rfl, gm_mem 78 (by decide +kernel) rfl, by decide +kernel, rfl, rfl⟩, gm_mem 1349 (by decide +kernel) rfl, gm_mem 1350 (by decide +kernel) rfl⟩
theorem ok_X10_ahead : VOk m_X10_ahead 1 := ⟨⟨gm_mem 1365 (by decide +kernel) rfl, gm_mem 78 (by decide +kernel) rfl, by decide +kernel, rfl, rfl⟩, gm_mem 1363 (by decide +kernel) rfl, gm_mem 1364 (by decide +kernel) rfl⟩
theorem ok_X10_seed : VOk m_X10_seed 1 := ⟨⟨gm_mem 1369 (by decide +kernel) rfl, gm_mem 78 (by decide +kernel) rfl, by decide +kernel, rfl, rfl⟩, gm_mem 1367 (by decide +kernel) rfl, gm_mem 1368 (by decide +kernel) rfl⟩
theorem ok_X10_feed : VOk m_X10_feed 2 := ⟨⟨gm_mem 1373 (by decide +kernel) rfl, gm_mem 78 (by decide +kernel) rfl, by decide +kernel, rfl, rfl⟩, gm_mem 1371 (by decide +kernel) rfl, gm_mem 1372 (by decide +kernel) rfl⟩
theorem ok_X10_wipe : VOk m_X10_wipe 0 := ⟨⟨gm_mem 1377 (by decide +kernel) rfl, gm_mem 78 (by decide +kernel) rfl, by decide +kernel, rfl, rfl⟩, gm_mem 1375 (by decide +kernel) rfl, gm_mem 1376 (by decide +kernel) rfl⟩
theorem ok_X10_byteAt : VOk m_X10_byteAt 1 := ⟨⟨gm_mem 1389 (by decide +kernel) rfl, gm_mem 78 (by decide +kernel) rfl, by decide +kernel, rfl, rfl⟩, gm_mem 1388 (by decide +kernel) rfl, gm_mem 53 (by decide +kernel) rfl⟩
theorem ok_X10_next : VOk m_X10_next 0 := ⟨⟨gm_mem 1385 (by decide +kernel) rfl, gm_mem 78 (by decide +kernel) rfl, by decide +kernel, rfl, rfl⟩, gm_mem 1384 (by decide +kernel) rfl, gm_mem 52 (by decide +kernel) rfl⟩
theorem ok_X10_isWord : VOk m_X10_isWord 1 := ⟨⟨gm_mem 1402 (by decide +kernel) rfl, gm_mem 78 (by decide +kernel) rfl, by decide +kernel, rfl, rfl⟩, gm_mem 1401 (by decide +kernel) rfl, gm_mem 56 (by decide +kernel) rfl⟩
theorem ok_X10_must : VOk m_X10_must 1 := ⟨⟨gm_mem 1408 (by decide +kernel) rfl, gm_mem 78 (by decide +kernel) rfl, by decide +kernel, rfl, rfl⟩, gm_mem 1407 (by decide +kernel) rfl, gm_mem 57 (by decide +kernel) rfl⟩
theorem ok_X10_number : VOk m_X10_number 2 := ⟨⟨gm_mem 1417 (by decide +kernel) rfl, gm_mem 78 (by decide +kernel) rfl, by decide +kernel, rfl, rfl⟩, gm_mem 1416 (by decide +kernel) rfl, gm_mem 59 (by decide +kernel) rfl⟩
theorem ok_X10_item : VOk m_X10_item 4 := ⟨⟨gm_mem 1422 (by decide +kernel) rfl, gm_mem 78 (by decide +kernel) rfl, by decide +kernel, rfl, rfl⟩, gm_mem 1421 (by decide +kernel) rfl, gm_mem 60 (by decide +kernel) rfl⟩
theorem ok_X10_kindTold : VOk m_X10_kindTold 0 := ⟨⟨gm_mem 1398 (by decide +kernel) rfl, gm_mem 78 (by decide +kernel) rfl, by decide +kernel, rfl, rfl⟩, gm_mem 1397 (by decide +kernel) rfl, gm_mem 55 (by decide +kernel) rfl⟩
theorem ok_X10_isNext : VOk m_X10_isNext 1 := ⟨⟨gm_mem 1413 (by decide +kernel) rfl, gm_mem 78 (by decide +kernel) rfl, by decide +kernel, rfl, rfl⟩, gm_mem 1412 (by decide +kernel) rfl, gm_mem 58 (by decide +kernel) rfl⟩
theorem ok_X10_drift : VOk m_X10_drift 0 := ⟨⟨gm_mem 1433 (by decide +kernel) rfl, gm_mem 78 (by decide +kernel) rfl, by decide +kernel, rfl, rfl⟩, gm_mem 1432 (by decide +kernel) rfl, gm_mem 62 (by decide +kernel) rfl⟩
theorem ok_X10_readPace : VOk m_X10_readPace 1 := ⟨⟨gm_mem 1427 (by decide +kernel) rfl, gm_mem 78 (by decide +kernel) rfl, by decide +kernel, rfl, rfl⟩, gm_mem 1426 (by decide +kernel) rfl, gm_mem 61 (by decide +kernel) rfl⟩
theorem ok_X10_readRule : VOk m_X10_readRule 1 := ⟨⟨gm_mem 1439 (by decide +kernel) rfl, gm_mem 78 (by decide +kernel) rfl, by decide +kernel, rfl, rfl⟩, gm_mem 1438 (by decide +kernel) rfl, gm_mem 63 (by decide +kernel) rfl⟩
theorem ok_X10_readItem : VOk m_X10_readItem 0 := ⟨⟨gm_mem 1394 (by decide +kernel) rfl, gm_mem 78 (by decide +kernel) rfl, by decide +kernel, rfl, rfl⟩, gm_mem 1393 (by decide +kernel) rfl, gm_mem 54 (by decide +kernel) rfl⟩
theorem ok_X10_becomesTold : VOk m_X10_becomesTold 2 := ⟨⟨gm_mem 1450 (by decide +kernel) rfl, gm_mem 78 (by decide +kernel) rfl, by decide +kernel, rfl, rfl⟩, gm_mem 1449 (by decide +kernel) rfl, gm_mem 65 (by decide +kernel) rfl⟩
theorem ok_X10_isSo : VOk m_X10_isSo 1 := ⟨⟨gm_mem 1446 (by decide +kernel) rfl, gm_mem 78 (by decide +kernel) rfl, by decide +kernel, rfl, rfl⟩, gm_mem 1445 (by decide +kernel) rfl, gm_mem 64 (by decide +kernel) rfl⟩
theorem ok_X10_text : VOk m_X10_text 0 := ⟨⟨gm_mem 1381 (by decide +kernel) rfl, gm_mem 78 (by decide +kernel) rfl, by decide +kernel, rfl, rfl⟩, gm_mem 1379 (by decide +kernel) rfl, gm_mem 1380 (by decide +kernel) rfl⟩
theorem ok_X10_isSpot : SOk m_X10_isSpot 1 := ⟨⟨gm_mem 1457 (by decide +kernel) rfl, gm_mem 78 (by decide +kernel) rfl, by decide +kernel, rfl, rfl⟩, gm_mem 1456 (by decide +kernel) rfl⟩
theorem ok_X10_hold : VOk m_X10_hold 2 := ⟨⟨gm_mem 1454 (by decide +kernel) rfl, gm_mem 78 (by decide +kernel) rfl, by decide +kernel, rfl, rfl⟩, gm_mem 1452 (by decide +kernel) rfl, gm_mem 1453 (by decide +kernel) rfl⟩
theorem ok_X10_as : VOk m_X10_as 2 := ⟨⟨gm_mem 1461 (by decide +kernel) rfl, gm_mem 78 (by decide +kernel) rfl, by decide +kernel, rfl, rfl⟩, gm_mem 1459 (by decide +kernel) rfl, gm_mem 1460 (by decide +kernel) rfl⟩
theorem ok_X10_cutTo : SOk m_X10_cutTo 2 := ⟨⟨gm_mem 1480 (by decide +kernel) rfl, gm_mem 78 (by decide +kernel) rfl, by decide +kernel, rfl, rfl⟩, gm_mem 1479 (by decide +kernel) rfl⟩
theorem ok_X10_sheet : VOk m_X10_sheet 3 := ⟨⟨gm_mem 1472 (by decide +kernel) rfl, gm_mem 78 (by decide +kernel) rfl, by decide +kernel, rfl, rfl⟩, gm_mem 1470 (by decide +kernel) rfl, gm_mem 1471 (by decide +kernel) rfl⟩
theorem ok_X10_write : VOk m_X10_write 3 := ⟨⟨gm_mem 1477 (by decide +kernel) rfl, gm_mem 78 (by decide +kernel) rfl, by decide +kernel, rfl, rfl⟩, gm_mem 1475 (by decide +kernel) rfl, gm_mem 1476 (by decide +kernel) rfl⟩
theorem ok_X10_copy : VOk m_X10_copy 5 := ⟨⟨gm_mem 1484 (by decide +kernel) rfl, gm_mem 78 (by decide +kernel) rfl, by decide +kernel, rfl, rfl⟩, gm_mem 1482 (by decide +kernel) rfl, gm_mem 1483 (by decide +kernel) rfl⟩
theorem ok_X10_load : VOk m_X10_load 1 := ⟨⟨gm_mem 1488 (by decide +kernel) rfl, gm_mem 78 (by decide +kernel) rfl, by decide +kernel, rfl, rfl⟩, gm_mem 1486 (by decide +kernel) rfl, gm_mem 1487 (by decide +kernel) rfl⟩
theorem ok_X10_judge : VOk m_X10_judge 1 := ⟨⟨gm_mem 1492 (by decide +kernel) rfl, gm_mem 78 (by decide +kernel) rfl, by decide +kernel, rfl, rfl⟩, gm_mem 1490 (by decide +kernel) rfl, gm_mem 1491 (by decide +kernel) rfl⟩
theorem ok_X10_image : VOk m_X10_image 0 := ⟨⟨gm_mem 1496 (by decide +kernel) rfl, gm_mem 78 (by decide +kernel) rfl, by decide +kernel, rfl, rfl⟩, gm_mem 1494 (by decide +kernel) rfl, gm_mem 1495 (by decide +kernel) rfl⟩
theorem ok_X10_undo : VOk m_X10_undo 0 := ⟨⟨gm_mem 1500 (by decide +kernel) rfl, gm_mem 78 (by decide +kernel) rfl, by decide +kernel, rfl, rfl⟩, gm_mem 1498 (by decide +kernel) rfl, gm_mem 1499 (by decide +kernel) rfl⟩
theorem ok_X10_tear : VOk m_X10_tear 0 := ⟨⟨gm_mem 1504 (by decide +kernel) rfl, gm_mem 78 (by decide +kernel) rfl, by decide +kernel, rfl, rfl⟩, gm_mem 1502 (by decide +kernel) rfl, gm_mem 1503 (by decide +kernel) rfl⟩
theorem ok_X10_count : VOk m_X10_count 1 := ⟨⟨gm_mem 1508 (by decide +kernel) rfl, gm_mem 78 (by decide +kernel) rfl, by decide +kernel, rfl, rfl⟩, gm_mem 1506 (by decide +kernel) rfl, gm_mem 1507 (by decide +kernel) rfl⟩
theorem ok_X10_status : VOk m_X10_status 1 := ⟨⟨gm_mem 1512 (by decide +kernel) rfl, gm_mem 78 (by decide +kernel) rfl, by decide +kernel, rfl, rfl⟩, gm_mem 1510 (by decide +kernel) rfl, gm_mem 1511 (by decide +kernel) rfl⟩
theorem lk_J0_9 : Cond.fieldLink RJ0 9 "java/lang/String" "value" "[B" ∈ gm_ws := gm_mem 1513 (by decide +kernel) rfl
theorem lk_J0_15 : Cond.fieldLink RJ0 15 "java/lang/String" "coder" "B" ∈ gm_ws := gm_mem 1514 (by decide +kernel) rfl
theorem lk_J0_38 : Cond.fieldLink RJ0 38 "java/lang/String" "COMPACT_STRINGS" "Z" ∈ gm_ws := gm_mem 807 (by decide +kernel) rfl
theorem lk_J0_335 : Cond.methodLink RJ0 335 ⟨"java/lang/String", "coder", "()B"⟩ ∈ gm_ws := gm_mem 803 (by decide +kernel) rfl
theorem lk_J0_492 : Cond.methodLink RJ0 492 ⟨"java/lang/String", "isLatin1", "()Z"⟩ ∈ gm_ws := gm_mem 813 (by decide +kernel) rfl
theorem lk_J0_495 : Cond.methodLink RJ0 495 ⟨"java/lang/StringLatin1", "charAt", "([BI)C"⟩ ∈ gm_ws := gm_mem 817 (by decide +kernel) rfl
theorem lk_J0_1053 : Cond.fieldLink RJ0 1053 "jdk/internal/util/Preconditions" "SIOOBE_FORMATTER" "Ljava/util/function/BiFunction;" ∈ gm_ws := gm_mem 823 (by decide +kernel) rfl
theorem lk_J0_1059 : Cond.methodLink RJ0 1059 ⟨"jdk/internal/util/Preconditions", "checkIndex", "(IILjava/util/function/BiFunction;)I"⟩ ∈ gm_ws := gm_mem 825 (by decide +kernel) rfl
theorem lk_J1_9 : Cond.methodLink RJ1 9 ⟨"java/lang/String", "checkIndex", "(II)V"⟩ ∈ gm_ws := gm_mem 820 (by decide +kernel) rfl
theorem lk_X0_9 : Cond.methodLink RX0 9 ⟨"java/lang/Math", "max", "(II)I"⟩ ∈ gm_ws := gm_mem 389 (by decide +kernel) rfl
theorem lk_X0_15 : Cond.fieldLinkNest RX0 15 "GlassWords" "KIND_ABOVE" "[I" "GlassWords" ∈ lw_tbl := gm_memN 901 (by decide +kernel)
theorem lk_X1_30 : Cond.methodLink RX1 30 ⟨"GlassWords$Paces", "held", "(I)I"⟩ ∈ gm_ws := gm_mem 456 (by decide +kernel) rfl
theorem lk_X1_34 : Cond.methodLink RX1 34 ⟨"GlassWords$Paces", "step", "(I)V"⟩ ∈ gm_ws := gm_mem 512 (by decide +kernel) rfl
theorem lk_X1_38 : Cond.methodLink RX1 38 ⟨"GlassWords$Paces", "are", "(II)Z"⟩ ∈ gm_ws := gm_mem 513 (by decide +kernel) rfl
theorem lk_X1_42 : Cond.methodLink RX1 42 ⟨"java/lang/Math", "min", "(II)I"⟩ ∈ gm_ws := gm_mem 459 (by decide +kernel) rfl
theorem lk_X1_48 : Cond.methodLink RX1 48 ⟨"java/lang/Math", "max", "(II)I"⟩ ∈ gm_ws := gm_mem 462 (by decide +kernel) rfl
theorem lk_X10_67 : Cond.methodLink RX10 67 ⟨"GlassWordsModel", "copyRow", "([I[I)V"⟩ ∈ gm_ws := gm_mem 1160 (by decide +kernel) rfl
theorem lk_X10_71 : Cond.methodLink RX10 71 ⟨"GlassWordsModel", "within", "(III)Z"⟩ ∈ gm_ws := gm_mem 1084 (by decide +kernel) rfl
theorem lk_X10_75 : Cond.methodLink RX10 75 ⟨"GlassWordsModel", "at", "(II)I"⟩ ∈ gm_ws := gm_mem 1097 (by decide +kernel) rfl
theorem lk_X10_79 : Cond.methodLink RX10 79 ⟨"GlassWordsModel", "isKind", "(I)Z"⟩ ∈ gm_ws := gm_mem 1081 (by decide +kernel) rfl
theorem lk_X10_83 : Cond.methodLink RX10 83 ⟨"GlassWordsModel", "finding", "(I)I"⟩ ∈ gm_ws := gm_mem 1088 (by decide +kernel) rfl
theorem lk_X10_88 : Cond.methodLink RX10 88 ⟨"GlassWordsModel", "comes", "(III)I"⟩ ∈ gm_ws := gm_mem 1093 (by decide +kernel) rfl
theorem lk_X10_92 : Cond.methodLink RX10 92 ⟨"GlassWordsModel", "above", "(I)I"⟩ ∈ gm_ws := gm_mem 1465 (by decide +kernel) rfl
theorem lk_X10_95 : Cond.methodLink RX10 95 ⟨"GlassWordsModel", "lineIs", "(II)I"⟩ ∈ gm_ws := gm_mem 1108 (by decide +kernel) rfl
theorem lk_X10_98 : Cond.methodLink RX10 98 ⟨"java/lang/Math", "max", "(II)I"⟩ ∈ gm_ws := gm_mem 1116 (by decide +kernel) rfl
theorem lk_X10_103 : Cond.methodLink RX10 103 ⟨"GlassWordsModel", "isLine", "(I)Z"⟩ ∈ gm_ws := gm_mem 1104 (by decide +kernel) rfl
theorem lk_X10_106 : Cond.methodLink RX10 106 ⟨"GlassWordsModel", "takes", "(I)I"⟩ ∈ gm_ws := gm_mem 1112 (by decide +kernel) rfl
theorem lk_X10_109 : Cond.methodLink RX10 109 ⟨"GlassWordsModel", "trips", "(I)I"⟩ ∈ gm_ws := gm_mem 1117 (by decide +kernel) rfl
theorem lk_X10_112 : Cond.methodLink RX10 112 ⟨"GlassWordsModel", "seen", "(I)I"⟩ ∈ gm_ws := gm_mem 1121 (by decide +kernel) rfl
theorem lk_X10_115 : Cond.methodLink RX10 115 ⟨"GlassWordsModel", "become", "(II)I"⟩ ∈ gm_ws := gm_mem 1129 (by decide +kernel) rfl
theorem lk_X10_119 : Cond.methodLink RX10 119 ⟨"GlassWordsModel", "isRule", "(I)Z"⟩ ∈ gm_ws := gm_mem 1137 (by decide +kernel) rfl
theorem lk_X10_122 : Cond.methodLink RX10 122 ⟨"GlassWordsModel", "least", "(I)I"⟩ ∈ gm_ws := gm_mem 1140 (by decide +kernel) rfl
theorem lk_X10_125 : Cond.methodLink RX10 125 ⟨"GlassWordsModel", "most", "(I)I"⟩ ∈ gm_ws := gm_mem 1143 (by decide +kernel) rfl
theorem lk_X10_128 : Cond.methodLink RX10 128 ⟨"java/lang/Math", "min", "(II)I"⟩ ∈ gm_ws := gm_mem 1178 (by decide +kernel) rfl
theorem lk_X10_131 : Cond.methodLink RX10 131 ⟨"GlassWordsModel", "held", "(I)I"⟩ ∈ gm_ws := gm_mem 1175 (by decide +kernel) rfl
theorem lk_X10_134 : Cond.methodLink RX10 134 ⟨"GlassWordsModel", "turns", "()I"⟩ ∈ gm_ws := gm_mem 1171 (by decide +kernel) rfl
theorem lk_X10_138 : Cond.methodLink RX10 138 ⟨"GlassWordsModel", "reads", "()I"⟩ ∈ gm_ws := gm_mem 1167 (by decide +kernel) rfl
theorem lk_X10_141 : Cond.methodLink RX10 141 ⟨"GlassWordsModel", "left", "()I"⟩ ∈ gm_ws := gm_mem 1155 (by decide +kernel) rfl
theorem lk_X10_145 : Cond.methodLink RX10 145 ⟨"GlassWordsModel", "readsOn", "(I)I"⟩ ∈ gm_ws := gm_mem 1163 (by decide +kernel) rfl
theorem lk_X10_149 : Cond.methodLink RX10 149 ⟨"GlassWordsModel", "putBack", "(I)I"⟩ ∈ gm_ws := gm_mem 1180 (by decide +kernel) rfl
theorem lk_X10_152 : Cond.methodLink RX10 152 ⟨"GlassWordsModel", "restTakes", "()I"⟩ ∈ gm_ws := gm_mem 1200 (by decide +kernel) rfl
theorem lk_X10_155 : Cond.methodLink RX10 155 ⟨"GlassWordsModel", "restTrips", "()I"⟩ ∈ gm_ws := gm_mem 1204 (by decide +kernel) rfl
theorem lk_X10_158 : Cond.methodLink RX10 158 ⟨"GlassWordsModel", "restSeen", "()I"⟩ ∈ gm_ws := gm_mem 1208 (by decide +kernel) rfl
theorem lk_X10_161 : Cond.methodLink RX10 161 ⟨"GlassWordsModel", "paceThen", "(II)I"⟩ ∈ gm_ws := gm_mem 1212 (by decide +kernel) rfl
theorem lk_X10_164 : Cond.methodLink RX10 164 ⟨"GlassWordsModel", "signThen", "()I"⟩ ∈ gm_ws := gm_mem 1224 (by decide +kernel) rfl
theorem lk_X10_167 : Cond.methodLink RX10 167 ⟨"java/lang/Math", "abs", "(I)I"⟩ ∈ gm_ws := gm_mem 1236 (by decide +kernel) rfl
theorem lk_X10_175 : Cond.methodLink RX10 175 ⟨"GlassWordsModel", "findWeights", "()I"⟩ ∈ gm_ws := gm_mem 1241 (by decide +kernel) rfl
theorem lk_X10_181 : Cond.methodLink RX10 181 ⟨"GlassWordsModel", "findGrid", "()I"⟩ ∈ gm_ws := gm_mem 1254 (by decide +kernel) rfl
theorem lk_X10_185 : Cond.methodLink RX10 185 ⟨"GlassWordsModel", "has", "(II)Z"⟩ ∈ gm_ws := gm_mem 1275 (by decide +kernel) rfl
theorem lk_X10_189 : Cond.methodLink RX10 189 ⟨"GlassWordsModel", "eases", "(I)I"⟩ ∈ gm_ws := gm_mem 1278 (by decide +kernel) rfl
theorem lk_X10_192 : Cond.methodLink RX10 192 ⟨"GlassWordsModel", "bits", "(I)I"⟩ ∈ gm_ws := gm_mem 1282 (by decide +kernel) rfl
theorem lk_X10_201 : Cond.methodLink RX10 201 ⟨"GlassWordsModel", "takesWithout", "(I)I"⟩ ∈ gm_ws := gm_mem 1293 (by decide +kernel) rfl
theorem lk_X10_204 : Cond.methodLink RX10 204 ⟨"GlassWordsModel", "findFit", "()I"⟩ ∈ gm_ws := gm_mem 1289 (by decide +kernel) rfl
theorem lk_X10_207 : Cond.methodLink RX10 207 ⟨"GlassWordsModel", "jumpFrom", "(III)I"⟩ ∈ gm_ws := gm_mem 1313 (by decide +kernel) rfl
theorem lk_X10_210 : Cond.methodLink RX10 210 ⟨"GlassWordsModel", "isWay", "(II)Z"⟩ ∈ gm_ws := gm_mem 1305 (by decide +kernel) rfl
theorem lk_X10_213 : Cond.methodLink RX10 213 ⟨"GlassWordsModel", "findWays", "(II)I"⟩ ∈ gm_ws := gm_mem 1309 (by decide +kernel) rfl
theorem lk_X10_222 : Cond.methodLink RX10 222 ⟨"GlassWordsModel", "isSheet", "(I)Z"⟩ ∈ gm_ws := gm_mem 1325 (by decide +kernel) rfl
theorem lk_X10_226 : Cond.methodLink RX10 226 ⟨"GlassWordsModel", "findLed", "(I)I"⟩ ∈ gm_ws := gm_mem 1329 (by decide +kernel) rfl
theorem lk_X10_229 : Cond.methodLink RX10 229 ⟨"GlassWordsModel", "common", "(II)I"⟩ ∈ gm_ws := gm_mem 1341 (by decide +kernel) rfl
theorem lk_X10_233 : Cond.methodLink RX10 233 ⟨"GlassWordsModel", "drawn", "(I)I"⟩ ∈ gm_ws := gm_mem 1357 (by decide +kernel) rfl
theorem lk_X10_237 : Cond.methodLink RX10 237 ⟨"GlassWordsModel", "leavesIn", "(I)I"⟩ ∈ gm_ws := gm_mem 1353 (by decide +kernel) rfl
theorem lk_X10_249 : Cond.methodLink RX10 249 ⟨"GlassWordsModel", "byteAt", "(I)I"⟩ ∈ gm_ws := gm_mem 1386 (by decide +kernel) rfl
theorem lk_X10_259 : Cond.methodLink RX10 259 ⟨"java/lang/String", "length", "()I"⟩ ∈ gm_ws := gm_mem 1403 (by decide +kernel) rfl
theorem lk_X10_262 : Cond.methodLink RX10 262 ⟨"java/lang/String", "charAt", "(I)C"⟩ ∈ gm_ws := gm_mem 1404 (by decide +kernel) rfl
theorem lk_X10_270 : Cond.methodLink RX10 270 ⟨"GlassWordsModel", "next", "()V"⟩ ∈ gm_ws := gm_mem 1382 (by decide +kernel) rfl
theorem lk_X10_273 : Cond.methodLink RX10 273 ⟨"GlassWordsModel", "must", "(Z)V"⟩ ∈ gm_ws := gm_mem 1405 (by decide +kernel) rfl
theorem lk_X10_280 : Cond.methodLink RX10 280 ⟨"GlassWordsModel", "isWord", "(Ljava/lang/String;)Z"⟩ ∈ gm_ws := gm_mem 1399 (by decide +kernel) rfl
theorem lk_X10_284 : Cond.methodLink RX10 284 ⟨"GlassWordsModel", "number", "(II)I"⟩ ∈ gm_ws := gm_mem 1414 (by decide +kernel) rfl
theorem lk_X10_289 : Cond.methodLink RX10 289 ⟨"GlassWordsModel", "isNext", "(Ljava/lang/String;)Z"⟩ ∈ gm_ws := gm_mem 1410 (by decide +kernel) rfl
theorem lk_X10_294 : Cond.methodLink RX10 294 ⟨"GlassWordsModel", "drift", "()I"⟩ ∈ gm_ws := gm_mem 1430 (by decide +kernel) rfl
theorem lk_X10_296 : Cond.methodLink RX10 296 ⟨"GlassWordsModel", "item", "(IIII)V"⟩ ∈ gm_ws := gm_mem 1419 (by decide +kernel) rfl
theorem lk_X10_300 : Cond.methodLink RX10 300 ⟨"GlassWordsModel", "kindTold", "()I"⟩ ∈ gm_ws := gm_mem 1395 (by decide +kernel) rfl
theorem lk_X10_312 : Cond.methodLink RX10 312 ⟨"GlassWordsModel", "readPace", "(I)V"⟩ ∈ gm_ws := gm_mem 1424 (by decide +kernel) rfl
theorem lk_X10_320 : Cond.methodLink RX10 320 ⟨"GlassWordsModel", "readRule", "(I)V"⟩ ∈ gm_ws := gm_mem 1436 (by decide +kernel) rfl
theorem lk_X10_329 : Cond.methodLink RX10 329 ⟨"GlassWordsModel", "becomesTold", "(II)V"⟩ ∈ gm_ws := gm_mem 1447 (by decide +kernel) rfl
theorem lk_X10_333 : Cond.methodLink RX10 333 ⟨"GlassWordsModel", "readItem", "()V"⟩ ∈ gm_ws := gm_mem 1391 (by decide +kernel) rfl
theorem lk_X10_336 : Cond.methodLink RX10 336 ⟨"GlassWordsModel", "isSo", "(I)I"⟩ ∈ gm_ws := gm_mem 1443 (by decide +kernel) rfl
theorem lk_X10_339 : Cond.methodLink RX10 339 ⟨"GlassWordsModel", "isSpot", "(I)Z"⟩ ∈ gm_ws := gm_mem 1455 (by decide +kernel) rfl
theorem lk_X10_342 : Cond.methodLink RX10 342 ⟨"GlassWordsModel", "isUnder", "(II)Z"⟩ ∈ gm_ws := gm_mem 1462 (by decide +kernel) rfl
theorem lk_X10_347 : Cond.methodLink RX10 347 ⟨"GlassWordsModel", "cutTo", "(II)I"⟩ ∈ gm_ws := gm_mem 1478 (by decide +kernel) rfl
theorem lk_X2_19 : Cond.methodLink RX2 19 ⟨"GlassWords$Paces", "takeFrom", "([I)V"⟩ ∈ gm_ws := gm_mem 525 (by decide +kernel) rfl
theorem lk_X2_24 : Cond.methodLink RX2 24 ⟨"GlassWords$Paces", "step", "(I)V"⟩ ∈ gm_ws := gm_mem 527 (by decide +kernel) rfl
theorem lk_X2_35 : Cond.methodLink RX2 35 ⟨"GlassWords$Paces", "are", "(II)Z"⟩ ∈ gm_ws := gm_mem 528 (by decide +kernel) rfl
theorem lk_X3_23 : Cond.methodLink RX3 23 ⟨"GlassWords$Script", "lookOn", "()V"⟩ ∈ gm_ws := gm_mem 763 (by decide +kernel) rfl
theorem lk_X3_26 : Cond.methodLink RX3 26 ⟨"GlassWords$Script", "takeItem", "()Z"⟩ ∈ gm_ws := gm_mem 781 (by decide +kernel) rfl
theorem lk_X3_36 : Cond.methodLink RX3 36 ⟨"GlassWords$Script", "nameOf", "(I)Ljava/lang/String;"⟩ ∈ gm_ws := gm_mem 785 (by decide +kernel) rfl
theorem lk_X3_40 : Cond.methodLink RX3 40 ⟨"GlassWords$Script", "isWord", "(Ljava/lang/String;)Z"⟩ ∈ gm_ws := gm_mem 795 (by decide +kernel) rfl
theorem lk_X3_44 : Cond.methodLink RX3 44 ⟨"GlassWords$Script", "takeLine", "(I)Z"⟩ ∈ gm_ws := gm_mem 847 (by decide +kernel) rfl
theorem lk_X3_50 : Cond.methodLink RX3 50 ⟨"GlassWords$Script", "takePace", "(I)Z"⟩ ∈ gm_ws := gm_mem 868 (by decide +kernel) rfl
theorem lk_X3_57 : Cond.methodLink RX3 57 ⟨"GlassWords$Script", "takeRule", "(I)Z"⟩ ∈ gm_ws := gm_mem 872 (by decide +kernel) rfl
theorem lk_X3_66 : Cond.methodLink RX3 66 ⟨"GlassWords$Studio", "hasRoom", "()Z"⟩ ∈ gm_ws := gm_mem 851 (by decide +kernel) rfl
theorem lk_X3_71 : Cond.methodLink RX3 71 ⟨"GlassWords$Studio", "addLine", "(I)I"⟩ ∈ gm_ws := gm_mem 852 (by decide +kernel) rfl
theorem lk_X3_77 : Cond.methodLink RX3 77 ⟨"GlassWords$Script", "takeFeature", "(Ljava/lang/String;II)Z"⟩ ∈ gm_ws := gm_mem 854 (by decide +kernel) rfl
theorem lk_X3_83 : Cond.fieldLinkNest RX3 83 "GlassWords" "LEAST_FEATURE" "[I" "GlassWords" ∈ lw_tbl := gm_memN 858 (by decide +kernel)
theorem lk_X3_87 : Cond.fieldLinkNest RX3 87 "GlassWords" "MOST_FEATURE" "[I" "GlassWords" ∈ lw_tbl := gm_memN 859 (by decide +kernel)
theorem lk_X3_90 : Cond.methodLink RX3 90 ⟨"GlassWords$Script", "isNumber", "(II)Z"⟩ ∈ gm_ws := gm_mem 860 (by decide +kernel) rfl
theorem lk_X3_94 : Cond.methodLink RX3 94 ⟨"GlassWords$Studio", "features", "(I)[I"⟩ ∈ gm_ws := gm_mem 865 (by decide +kernel) rfl
theorem lk_X3_105 : Cond.methodLink RX3 105 ⟨"GlassWords$Script", "takeDrift", "(I)Z"⟩ ∈ gm_ws := gm_mem 880 (by decide +kernel) rfl
theorem lk_X3_108 : Cond.fieldLinkNest RX3 108 "GlassWords" "LEAST_RULE" "[I" "GlassWords" ∈ lw_tbl := gm_memN 876 (by decide +kernel)
theorem lk_X3_111 : Cond.fieldLinkNest RX3 111 "GlassWords" "MOST_RULE" "[I" "GlassWords" ∈ lw_tbl := gm_memN 877 (by decide +kernel)
theorem lk_X3_117 : Cond.methodLinkNest RX3 117 ⟨"GlassWords", "isWithin", "(III)Z"⟩ "GlassWords" ∈ lw_tbl := gm_memN 864 (by decide +kernel)
theorem lk_X3_121 : Cond.methodLink RX3 121 ⟨"java/lang/String", "length", "()I"⟩ ∈ gm_ws := gm_mem 799 (by decide +kernel) rfl
theorem lk_X3_132 : Cond.methodLink RX3 132 ⟨"java/lang/String", "charAt", "(I)C"⟩ ∈ gm_ws := gm_mem 809 (by decide +kernel) rfl
theorem lk_X3_153 : Cond.methodLink RX3 153 ⟨"GlassWords$Script", "isLetter", "(I)Z"⟩ ∈ gm_ws := gm_mem 767 (by decide +kernel) rfl
theorem lk_X3_156 : Cond.methodLink RX3 156 ⟨"GlassWords$Script", "isDigit", "(I)Z"⟩ ∈ gm_ws := gm_mem 771 (by decide +kernel) rfl
theorem lk_X3_160 : Cond.methodLink RX3 160 ⟨"java/lang/Math", "min", "(II)I"⟩ ∈ gm_ws := gm_mem 776 (by decide +kernel) rfl
theorem lk_X3_166 : Cond.methodLink RX3 166 ⟨"GlassWords$Script", "signAt", "(I)I"⟩ ∈ gm_ws := gm_mem 777 (by decide +kernel) rfl
theorem lk_X4_22 : Cond.methodLink RX4 22 ⟨"GlassWords$Searches", "offHour", "(LGlassWords$Studio;I)I"⟩ ∈ gm_ws := gm_mem 548 (by decide +kernel) rfl
theorem lk_X4_26 : Cond.methodLink RX4 26 ⟨"GlassWords$Searches", "weigh", "(LGlassWords$Studio;I)V"⟩ ∈ gm_ws := gm_mem 552 (by decide +kernel) rfl
theorem lk_X4_30 : Cond.methodLink RX4 30 ⟨"GlassWords$Studio", "linesAhead", "()I"⟩ ∈ gm_ws := gm_mem 557 (by decide +kernel) rfl
theorem lk_X4_36 : Cond.methodLink RX4 36 ⟨"GlassWords$Studio", "takesAhead", "(ILGlassWords$Paces;)I"⟩ ∈ gm_ws := gm_mem 558 (by decide +kernel) rfl
theorem lk_X4_43 : Cond.methodLink RX4 43 ⟨"java/lang/Math", "abs", "(I)I"⟩ ∈ gm_ws := gm_mem 559 (by decide +kernel) rfl
theorem lk_X4_49 : Cond.methodLink RX4 49 ⟨"GlassWords$Paces", "takeFrom", "([I)V"⟩ ∈ gm_ws := gm_mem 556 (by decide +kernel) rfl
theorem lk_X4_60 : Cond.fieldLinkNest RX4 60 "GlassWords" "LEAST_RULE" "[I" "GlassWords" ∈ lw_tbl := gm_memN 573 (by decide +kernel)
theorem lk_X4_64 : Cond.fieldLinkNest RX4 64 "GlassWords" "MOST_RULE" "[I" "GlassWords" ∈ lw_tbl := gm_memN 575 (by decide +kernel)
theorem lk_X4_67 : Cond.methodLink RX4 67 ⟨"GlassWords$Studio", "unrestAhead", "(II)I"⟩ ∈ gm_ws := gm_mem 576 (by decide +kernel) rfl
theorem lk_X4_74 : Cond.methodLink RX4 74 ⟨"GlassWords$Studio", "tripsOf", "(I)I"⟩ ∈ gm_ws := gm_mem 593 (by decide +kernel) rfl
theorem lk_X4_83 : Cond.methodLink RX4 83 ⟨"GlassWords$Kinds", "tripsBy", "(IIII)I"⟩ ∈ gm_ws := gm_mem 610 (by decide +kernel) rfl
theorem lk_X4_89 : Cond.methodLink RX4 89 ⟨"GlassWords$Studio", "tripsAhead", "()I"⟩ ∈ gm_ws := gm_mem 611 (by decide +kernel) rfl
theorem lk_X4_92 : Cond.methodLink RX4 92 ⟨"java/lang/Integer", "bitCount", "(I)I"⟩ ∈ gm_ws := gm_mem 612 (by decide +kernel) rfl
theorem lk_X4_97 : Cond.methodLink RX4 97 ⟨"GlassWords$Searches", "easedBy", "(II)I"⟩ ∈ gm_ws := gm_mem 618 (by decide +kernel) rfl
theorem lk_X4_100 : Cond.methodLink RX4 100 ⟨"GlassWords$Studio", "wordsAheadWithout", "(I)I"⟩ ∈ gm_ws := gm_mem 630 (by decide +kernel) rfl
theorem lk_X4_103 : Cond.methodLink RX4 103 ⟨"GlassWords$Searches", "fitsHourWithout", "(LGlassWords$Studio;I)Z"⟩ ∈ gm_ws := gm_mem 634 (by decide +kernel) rfl
theorem lk_X4_110 : Cond.methodLink RX4 110 ⟨"GlassWords$Studio", "takesOf", "(II)I"⟩ ∈ gm_ws := gm_mem 638 (by decide +kernel) rfl
theorem lk_X4_113 : Cond.methodLink RX4 113 ⟨"GlassWords$Paces", "step", "(I)V"⟩ ∈ gm_ws := gm_mem 639 (by decide +kernel) rfl
theorem lk_X4_126 : Cond.methodLink RX4 126 ⟨"GlassWords$Searches", "takeJust", "(LGlassWords$Studio;LGlassWords$Sheet;)Z"⟩ ∈ gm_ws := gm_mem 695 (by decide +kernel) rfl
theorem lk_X4_135 : Cond.methodLink RX4 135 ⟨"java/lang/Math", "min", "(II)I"⟩ ∈ gm_ws := gm_mem 699 (by decide +kernel) rfl
theorem lk_X5_22 : Cond.methodLink RX5 22 ⟨"java/util/Arrays", "fill", "([II)V"⟩ ∈ gm_ws := gm_mem 914 (by decide +kernel) rfl
theorem lk_X6_34 : Cond.methodLink RX6 34 ⟨"java/lang/System", "arraycopy", "(Ljava/lang/Object;ILjava/lang/Object;II)V"⟩ ∈ gm_ws := gm_mem 102 (by decide +kernel) rfl
theorem lk_X6_61 : Cond.methodLink RX6 61 ⟨"GlassWords$Kinds", "takes", "(IIII)I"⟩ ∈ gm_ws := gm_mem 386 (by decide +kernel) rfl
theorem lk_X6_67 : Cond.methodLink RX6 67 ⟨"GlassWords$Kinds", "tripsBy", "(IIII)I"⟩ ∈ gm_ws := gm_mem 396 (by decide +kernel) rfl
theorem lk_X6_70 : Cond.methodLink RX6 70 ⟨"GlassWords$Kinds", "seenBy", "(III)I"⟩ ∈ gm_ws := gm_mem 403 (by decide +kernel) rfl
theorem lk_X6_79 : Cond.methodLink RX6 79 ⟨"GlassWords$Studio", "takesOf", "(II)I"⟩ ∈ gm_ws := gm_mem 451 (by decide +kernel) rfl
theorem lk_X6_83 : Cond.methodLink RX6 83 ⟨"GlassWords$Paces", "step", "(I)V"⟩ ∈ gm_ws := gm_mem 452 (by decide +kernel) rfl
theorem lk_X6_87 : Cond.methodLink RX6 87 ⟨"GlassWords$Studio", "tripsOf", "(I)I"⟩ ∈ gm_ws := gm_mem 467 (by decide +kernel) rfl
theorem lk_X6_91 : Cond.methodLink RX6 91 ⟨"GlassWords$Studio", "seenOf", "(I)I"⟩ ∈ gm_ws := gm_mem 468 (by decide +kernel) rfl
theorem lk_X6_102 : Cond.methodLinkNest RX6 102 ⟨"GlassWords", "isWithin", "(III)Z"⟩ "GlassWords" ∈ lw_tbl := gm_memN 940 (by decide +kernel)
theorem lk_X6_106 : Cond.methodLink RX6 106 ⟨"GlassWords$Paces", "takeFrom", "([I)V"⟩ ∈ gm_ws := gm_mem 473 (by decide +kernel) rfl
theorem lk_X6_113 : Cond.methodLink RX6 113 ⟨"GlassWords$Studio", "turnPaces", "(LGlassWords$Paces;)V"⟩ ∈ gm_ws := gm_mem 469 (by decide +kernel) rfl
theorem lk_X6_118 : Cond.methodLink RX6 118 ⟨"GlassWords$Studio", "readOne", "(LGlassWords$Paces;)V"⟩ ∈ gm_ws := gm_mem 724 (by decide +kernel) rfl
theorem lk_X6_121 : Cond.methodLink RX6 121 ⟨"GlassWords$Studio", "draw", "()I"⟩ ∈ gm_ws := gm_mem 725 (by decide +kernel) rfl
theorem lk_X6_125 : Cond.methodLink RX6 125 ⟨"java/lang/Math", "min", "(II)I"⟩ ∈ gm_ws := gm_mem 730 (by decide +kernel) rfl
theorem lk_X8_26 : Cond.methodLink RX8 26 ⟨"GlassWords$Studio", "takesOf", "(II)I"⟩ ∈ gm_ws := gm_mem 657 (by decide +kernel) rfl
theorem lk_X8_30 : Cond.methodLink RX8 30 ⟨"GlassWords$Ways", "byJump", "(II)I"⟩ ∈ gm_ws := gm_mem 658 (by decide +kernel) rfl
theorem lk_X8_33 : Cond.methodLink RX8 33 ⟨"java/lang/Math", "min", "(II)I"⟩ ∈ gm_ws := gm_mem 662 (by decide +kernel) rfl
theorem lk_X8_38 : Cond.methodLink RX8 38 ⟨"GlassWords$Ways", "shortestJump", "(II)I"⟩ ∈ gm_ws := gm_mem 675 (by decide +kernel) rfl
theorem lk_X9_75 : Cond.methodLink RX9 75 ⟨"GlassWords", "isWithin", "(III)Z"⟩ ∈ gm_ws := gm_mem 358 (by decide +kernel) rfl
theorem lk_X9_79 : Cond.methodLink RX9 79 ⟨"GlassWords", "finding", "(I)I"⟩ ∈ gm_ws := gm_mem 361 (by decide +kernel) rfl
theorem lk_X9_83 : Cond.methodLink RX9 83 ⟨"GlassWords$Studio", "hasRoom", "()Z"⟩ ∈ gm_ws := gm_mem 366 (by decide +kernel) rfl
theorem lk_X9_87 : Cond.methodLink RX9 87 ⟨"GlassWords$Studio", "addLine", "(I)I"⟩ ∈ gm_ws := gm_mem 370 (by decide +kernel) rfl
theorem lk_X9_90 : Cond.methodLink RX9 90 ⟨"GlassWords$Studio", "isLine", "(I)Z"⟩ ∈ gm_ws := gm_mem 378 (by decide +kernel) rfl
theorem lk_X9_97 : Cond.methodLink RX9 97 ⟨"GlassWords$Studio", "takesOf", "(II)I"⟩ ∈ gm_ws := gm_mem 382 (by decide +kernel) rfl
theorem lk_X9_101 : Cond.methodLink RX9 101 ⟨"GlassWords$Studio", "tripsOf", "(I)I"⟩ ∈ gm_ws := gm_mem 392 (by decide +kernel) rfl
theorem lk_X9_104 : Cond.methodLink RX9 104 ⟨"GlassWords$Studio", "seenOf", "(I)I"⟩ ∈ gm_ws := gm_mem 399 (by decide +kernel) rfl
theorem lk_X9_107 : Cond.methodLink RX9 107 ⟨"GlassWords$Studio", "features", "(I)[I"⟩ ∈ gm_ws := gm_mem 406 (by decide +kernel) rfl
theorem lk_X9_111 : Cond.fieldLink RX9 111 "GlassWords" "LEAST_FEATURE" "[I" ∈ gm_ws := gm_mem 414 (by decide +kernel) rfl
theorem lk_X9_114 : Cond.fieldLink RX9 114 "GlassWords" "MOST_FEATURE" "[I" ∈ gm_ws := gm_mem 416 (by decide +kernel) rfl
theorem lk_X9_117 : Cond.fieldLink RX9 117 "GlassWords" "LEAST_RULE" "[I" ∈ gm_ws := gm_mem 422 (by decide +kernel) rfl
theorem lk_X9_120 : Cond.fieldLink RX9 120 "GlassWords" "MOST_RULE" "[I" ∈ gm_ws := gm_mem 424 (by decide +kernel) rfl
theorem lk_X9_123 : Cond.methodLink RX9 123 ⟨"GlassWords$Studio", "linesAhead", "()I"⟩ ∈ gm_ws := gm_mem 434 (by decide +kernel) rfl
theorem lk_X9_132 : Cond.methodLink RX9 132 ⟨"GlassWords", "takesAhead", "(I)I"⟩ ∈ gm_ws := gm_mem 439 (by decide +kernel) rfl
theorem lk_X9_135 : Cond.methodLink RX9 135 ⟨"GlassWords$Studio", "readOne", "(LGlassWords$Paces;)V"⟩ ∈ gm_ws := gm_mem 463 (by decide +kernel) rfl
theorem lk_X9_145 : Cond.methodLink RX9 145 ⟨"GlassWords$Studio", "turnPaces", "(LGlassWords$Paces;)V"⟩ ∈ gm_ws := gm_mem 482 (by decide +kernel) rfl
theorem lk_X9_154 : Cond.methodLink RX9 154 ⟨"GlassWords$Studio", "tripsAhead", "()I"⟩ ∈ gm_ws := gm_mem 491 (by decide +kernel) rfl
theorem lk_X9_157 : Cond.methodLink RX9 157 ⟨"GlassWords$Studio", "seenAhead", "()I"⟩ ∈ gm_ws := gm_mem 495 (by decide +kernel) rfl
theorem lk_X9_166 : Cond.methodLink RX9 166 ⟨"GlassWords$Paces", "takeFrom", "([I)V"⟩ ∈ gm_ws := gm_mem 443 (by decide +kernel) rfl
theorem lk_X9_170 : Cond.methodLink RX9 170 ⟨"GlassWords$Paces", "step", "(I)V"⟩ ∈ gm_ws := gm_mem 503 (by decide +kernel) rfl
theorem lk_X9_174 : Cond.methodLink RX9 174 ⟨"GlassWords$Paces", "habit", "()I"⟩ ∈ gm_ws := gm_mem 508 (by decide +kernel) rfl
theorem lk_X9_177 : Cond.methodLink RX9 177 ⟨"GlassWords$Rounds", "lengthFrom", "([I)I"⟩ ∈ gm_ws := gm_mem 521 (by decide +kernel) rfl
theorem lk_X9_181 : Cond.methodLink RX9 181 ⟨"GlassWords$Rounds", "beginFrom", "([II)I"⟩ ∈ gm_ws := gm_mem 529 (by decide +kernel) rfl
theorem lk_X9_185 : Cond.methodLink RX9 185 ⟨"java/lang/Math", "abs", "(I)I"⟩ ∈ gm_ws := gm_mem 537 (by decide +kernel) rfl
theorem lk_X9_190 : Cond.methodLink RX9 190 ⟨"GlassWords$Searches", "nearestWeights", "(LGlassWords$Studio;)I"⟩ ∈ gm_ws := gm_mem 544 (by decide +kernel) rfl
theorem lk_X9_194 : Cond.methodLink RX9 194 ⟨"GlassWords$Searches", "offHour", "(LGlassWords$Studio;I)I"⟩ ∈ gm_ws := gm_mem 564 (by decide +kernel) rfl
theorem lk_X9_198 : Cond.methodLink RX9 198 ⟨"GlassWords$Searches", "calmestEyes", "(LGlassWords$Studio;)I"⟩ ∈ gm_ws := gm_mem 569 (by decide +kernel) rfl
theorem lk_X9_201 : Cond.methodLink RX9 201 ⟨"GlassWords$Studio", "unrestAhead", "(II)I"⟩ ∈ gm_ws := gm_mem 584 (by decide +kernel) rfl
theorem lk_X9_204 : Cond.methodLink RX9 204 ⟨"GlassWords$Searches", "mostTripping", "(LGlassWords$Studio;)I"⟩ ∈ gm_ws := gm_mem 589 (by decide +kernel) rfl
theorem lk_X9_207 : Cond.methodLink RX9 207 ⟨"GlassWords$Searches", "quickestKind", "(LGlassWords$Studio;I)I"⟩ ∈ gm_ws := gm_mem 598 (by decide +kernel) rfl
theorem lk_X9_210 : Cond.methodLink RX9 210 ⟨"GlassWords$Searches", "fewestEased", "(LGlassWords$Studio;I)I"⟩ ∈ gm_ws := gm_mem 606 (by decide +kernel) rfl
theorem lk_X9_213 : Cond.methodLink RX9 213 ⟨"GlassWords$Searches", "bestLeftOut", "(LGlassWords$Studio;)I"⟩ ∈ gm_ws := gm_mem 626 (by decide +kernel) rfl
theorem lk_X9_216 : Cond.methodLink RX9 216 ⟨"GlassWords$Studio", "wordsAheadWithout", "(I)I"⟩ ∈ gm_ws := gm_mem 644 (by decide +kernel) rfl
theorem lk_X9_219 : Cond.methodLink RX9 219 ⟨"GlassWords", "isWay", "(II)Z"⟩ ∈ gm_ws := gm_mem 649 (by decide +kernel) rfl
theorem lk_X9_223 : Cond.methodLink RX9 223 ⟨"GlassWords$Ways", "measure", "(LGlassWords$Studio;II)V"⟩ ∈ gm_ws := gm_mem 653 (by decide +kernel) rfl
theorem lk_X9_227 : Cond.methodLink RX9 227 ⟨"GlassWords$Ways", "shortest", "(I)I"⟩ ∈ gm_ws := gm_mem 663 (by decide +kernel) rfl
theorem lk_X9_230 : Cond.methodLink RX9 230 ⟨"GlassWords$Ways", "linesRead", "(II)I"⟩ ∈ gm_ws := gm_mem 671 (by decide +kernel) rfl
theorem lk_X9_233 : Cond.methodLink RX9 233 ⟨"GlassWords", "isSheet", "(I)Z"⟩ ∈ gm_ws := gm_mem 683 (by decide +kernel) rfl
theorem lk_X9_236 : Cond.methodLink RX9 236 ⟨"GlassWords$Sheet", "isMissing", "()Z"⟩ ∈ gm_ws := gm_mem 687 (by decide +kernel) rfl
theorem lk_X9_239 : Cond.methodLink RX9 239 ⟨"GlassWords$Searches", "tallyFits", "(LGlassWords$Studio;LGlassWords$Sheet;)V"⟩ ∈ gm_ws := gm_mem 691 (by decide +kernel) rfl
theorem lk_X9_252 : Cond.methodLink RX9 252 ⟨"GlassWords", "commonDivisor", "(II)I"⟩ ∈ gm_ws := gm_mem 708 (by decide +kernel) rfl
theorem lk_X9_256 : Cond.methodLink RX9 256 ⟨"GlassWords$Studio", "spendEvening", "(ILGlassWords$Paces;)I"⟩ ∈ gm_ws := gm_mem 720 (by decide +kernel) rfl
theorem lk_X9_263 : Cond.methodLink RX9 263 ⟨"GlassWords$Studio", "become", "(LGlassWords$Studio;)V"⟩ ∈ gm_ws := gm_mem 735 (by decide +kernel) rfl
theorem lk_X9_270 : Cond.methodLink RX9 270 ⟨"GlassWords$Tape", "append", "(II)V"⟩ ∈ gm_ws := gm_mem 747 (by decide +kernel) rfl
theorem lk_X9_274 : Cond.methodLink RX9 274 ⟨"GlassWords$Script", "tellTo", "(LGlassWords$Studio;LGlassWords$Tape;)I"⟩ ∈ gm_ws := gm_mem 759 (by decide +kernel) rfl
theorem lk_X9_284 : Cond.methodLink RX9 284 ⟨"GlassWords$Kinds", "isOrIsUnder", "(II)Z"⟩ ∈ gm_ws := gm_mem 898 (by decide +kernel) rfl
theorem lk_X9_289 : Cond.methodLink RX9 289 ⟨"GlassWords$Sheet", "canHave", "(I)Z"⟩ ∈ gm_ws := gm_mem 907 (by decide +kernel) rfl
theorem lk_X9_292 : Cond.methodLink RX9 292 ⟨"GlassWords$Sheet", "begin", "(II)V"⟩ ∈ gm_ws := gm_mem 910 (by decide +kernel) rfl
theorem lk_X9_296 : Cond.methodLink RX9 296 ⟨"GlassWords$Sheet", "put", "(II)V"⟩ ∈ gm_ws := gm_mem 919 (by decide +kernel) rfl
theorem lk_X9_302 : Cond.methodLink RX9 302 ⟨"GlassWords$Sheet", "hasPart", "(II)Z"⟩ ∈ gm_ws := gm_mem 927 (by decide +kernel) rfl
theorem lk_X9_308 : Cond.methodLink RX9 308 ⟨"java/lang/System", "arraycopy", "(Ljava/lang/Object;ILjava/lang/Object;II)V"⟩ ∈ gm_ws := gm_mem 931 (by decide +kernel) rfl
theorem lk_X9_314 : Cond.methodLink RX9 314 ⟨"GlassWords$Studio", "takeWords", "(LGlassWords$Sheet;)I"⟩ ∈ gm_ws := gm_mem 936 (by decide +kernel) rfl
theorem lk_X9_318 : Cond.methodLink RX9 318 ⟨"GlassWords", "firstWrongTime", "(LGlassWords$Sheet;)I"⟩ ∈ gm_ws := gm_mem 945 (by decide +kernel) rfl
theorem lk_X9_328 : Cond.methodLink RX9 328 ⟨"GlassWords$Studio", "sumOf", "([I)I"⟩ ∈ gm_ws := gm_mem 965 (by decide +kernel) rfl
theorem lk_X9_334 : Cond.methodLink RX9 334 ⟨"GlassWords$Studio", "spotsHeld", "()I"⟩ ∈ gm_ws := gm_mem 969 (by decide +kernel) rfl
theorem lk_X9_338 : Cond.methodLink RX9 338 ⟨"GlassWords$Studio", "takesAhead", "(ILGlassWords$Paces;)I"⟩ ∈ gm_ws := gm_mem 447 (by decide +kernel) rfl
theorem fd_X1_9 : FdOk RX1 9 0 0 0 := ⟨RX1, TX1, 6, rfl, by decide, gm_mem 166 (by decide +kernel) rfl, inX1, rfl, rfl, by decide⟩
theorem fd_X1_15 : FdOk RX1 15 0 1 0 := ⟨RX1, TX1, 6, rfl, by decide, gm_mem 171 (by decide +kernel) rfl, inX1, rfl, rfl, by decide⟩
theorem fd_X1_18 : FdOk RX1 18 0 2 0 := ⟨RX1, TX1, 6, rfl, by decide, gm_mem 175 (by decide +kernel) rfl, inX1, rfl, rfl, by decide⟩
theorem fd_X1_21 : FdOk RX1 21 0 3 0 := ⟨RX1, TX1, 6, rfl, by decide, gm_mem 177 (by decide +kernel) rfl, inX1, rfl, rfl, by decide⟩
theorem fd_X1_24 : FdOk RX1 24 0 4 0 := ⟨RX1, TX1, 6, rfl, by decide, gm_mem 179 (by decide +kernel) rfl, inX1, rfl, rfl, by decide⟩
theorem fd_X1_27 : FdOk RX1 27 0 5 0 := ⟨RX1, TX1, 6, rfl, by decide, gm_mem 180 (by decide +kernel) rfl, inX1, rfl, rfl, by decide⟩
theorem fd_X10_9 : FdOk RX10 9 9 0 1 := ⟨RX10, TX10, 28, rfl, by decide, gm_mem 992 (by decide +kernel) rfl, inX10, rfl, rfl, by decide⟩
theorem fd_X10_13 : FdOk RX10 13 9 1 1 := ⟨RX10, TX10, 28, rfl, by decide, gm_mem 993 (by decide +kernel) rfl, inX10, rfl, rfl, by decide⟩
theorem fd_X10_16 : FdOk RX10 16 9 2 1 := ⟨RX10, TX10, 28, rfl, by decide, gm_mem 994 (by decide +kernel) rfl, inX10, rfl, rfl, by decide⟩
theorem fd_X10_19 : FdOk RX10 19 9 4 1 := ⟨RX10, TX10, 28, rfl, by decide, gm_mem 996 (by decide +kernel) rfl, inX10, rfl, rfl, by decide⟩
theorem fd_X10_22 : FdOk RX10 22 9 5 1 := ⟨RX10, TX10, 28, rfl, by decide, gm_mem 997 (by decide +kernel) rfl, inX10, rfl, rfl, by decide⟩
theorem fd_X10_25 : FdOk RX10 25 9 10 1 := ⟨RX10, TX10, 28, rfl, by decide, gm_mem 1002 (by decide +kernel) rfl, inX10, rfl, rfl, by decide⟩
theorem fd_X10_28 : FdOk RX10 28 9 13 1 := ⟨RX10, TX10, 28, rfl, by decide, gm_mem 1005 (by decide +kernel) rfl, inX10, rfl, rfl, by decide⟩
theorem fd_X10_47 : FdOk RX10 47 9 20 1 := ⟨RX10, TX10, 28, rfl, by decide, gm_mem 1012 (by decide +kernel) rfl, inX10, rfl, rfl, by decide⟩
theorem fd_X10_51 : FdOk RX10 51 9 21 1 := ⟨RX10, TX10, 28, rfl, by decide, gm_mem 1013 (by decide +kernel) rfl, inX10, rfl, rfl, by decide⟩
theorem fd_X10_54 : FdOk RX10 54 9 24 1 := ⟨RX10, TX10, 28, rfl, by decide, gm_mem 1016 (by decide +kernel) rfl, inX10, rfl, rfl, by decide⟩
theorem fd_X10_57 : FdOk RX10 57 9 25 1 := ⟨RX10, TX10, 28, rfl, by decide, gm_mem 1017 (by decide +kernel) rfl, inX10, rfl, rfl, by decide⟩
theorem fd_X10_60 : FdOk RX10 60 9 26 1 := ⟨RX10, TX10, 28, rfl, by decide, gm_mem 1018 (by decide +kernel) rfl, inX10, rfl, rfl, by decide⟩
theorem fd_X10_63 : FdOk RX10 63 9 27 1 := ⟨RX10, TX10, 28, rfl, by decide, gm_mem 1019 (by decide +kernel) rfl, inX10, rfl, rfl, by decide⟩
theorem fd_X10_171 : FdOk RX10 171 9 6 0 := ⟨RX10, TX10, 28, rfl, by decide, gm_mem 998 (by decide +kernel) rfl, inX10, rfl, rfl, by decide⟩
theorem fd_X10_178 : FdOk RX10 178 9 7 0 := ⟨RX10, TX10, 28, rfl, by decide, gm_mem 999 (by decide +kernel) rfl, inX10, rfl, rfl, by decide⟩
theorem fd_X10_195 : FdOk RX10 195 9 8 0 := ⟨RX10, TX10, 28, rfl, by decide, gm_mem 1000 (by decide +kernel) rfl, inX10, rfl, rfl, by decide⟩
theorem fd_X10_198 : FdOk RX10 198 9 9 0 := ⟨RX10, TX10, 28, rfl, by decide, gm_mem 1001 (by decide +kernel) rfl, inX10, rfl, rfl, by decide⟩
theorem fd_X10_216 : FdOk RX10 216 9 11 0 := ⟨RX10, TX10, 28, rfl, by decide, gm_mem 1003 (by decide +kernel) rfl, inX10, rfl, rfl, by decide⟩
theorem fd_X10_219 : FdOk RX10 219 9 12 0 := ⟨RX10, TX10, 28, rfl, by decide, gm_mem 1004 (by decide +kernel) rfl, inX10, rfl, rfl, by decide⟩
theorem fd_X10_240 : FdOk RX10 240 9 14 0 := ⟨RX10, TX10, 28, rfl, by decide, gm_mem 1006 (by decide +kernel) rfl, inX10, rfl, rfl, by decide⟩
theorem fd_X10_243 : FdOk RX10 243 9 16 0 := ⟨RX10, TX10, 28, rfl, by decide, gm_mem 1008 (by decide +kernel) rfl, inX10, rfl, rfl, by decide⟩
theorem fd_X10_246 : FdOk RX10 246 9 15 0 := ⟨RX10, TX10, 28, rfl, by decide, gm_mem 1007 (by decide +kernel) rfl, inX10, rfl, rfl, by decide⟩
theorem fd_X10_252 : FdOk RX10 252 9 18 0 := ⟨RX10, TX10, 28, rfl, by decide, gm_mem 1010 (by decide +kernel) rfl, inX10, rfl, rfl, by decide⟩
theorem fd_X10_255 : FdOk RX10 255 9 17 0 := ⟨RX10, TX10, 28, rfl, by decide, gm_mem 1009 (by decide +kernel) rfl, inX10, rfl, rfl, by decide⟩
theorem fd_X10_266 : FdOk RX10 266 9 19 0 := ⟨RX10, TX10, 28, rfl, by decide, gm_mem 1011 (by decide +kernel) rfl, inX10, rfl, rfl, by decide⟩
theorem fd_X10_277 : FdOk RX10 277 9 22 0 := ⟨RX10, TX10, 28, rfl, by decide, gm_mem 1014 (by decide +kernel) rfl, inX10, rfl, rfl, by decide⟩
theorem fd_X10_303 : FdOk RX10 303 9 23 0 := ⟨RX10, TX10, 28, rfl, by decide, gm_mem 1015 (by decide +kernel) rfl, inX10, rfl, rfl, by decide⟩
theorem fd_X10_350 : FdOk RX10 350 9 3 0 := ⟨RX10, TX10, 28, rfl, by decide, gm_mem 995 (by decide +kernel) rfl, inX10, rfl, rfl, by decide⟩
theorem fd_X2_10 : FdOk RX2 10 1 0 1 := ⟨RX2, TX2, 2, rfl, by decide, gm_mem 202 (by decide +kernel) rfl, inX2, rfl, rfl, by decide⟩
theorem fd_X2_16 : FdOk RX2 16 1 1 1 := ⟨RX2, TX2, 2, rfl, by decide, gm_mem 203 (by decide +kernel) rfl, inX2, rfl, rfl, by decide⟩
theorem fd_X2_28 : FdOk RX2 28 0 0 0 := ⟨RX1, TX1, 6, rfl, by decide, gm_mem 167 (by decide +kernel) rfl, inX1, rfl, rfl, by decide⟩
theorem fd_X2_32 : FdOk RX2 32 0 1 0 := ⟨RX1, TX1, 6, rfl, by decide, gm_mem 172 (by decide +kernel) rfl, inX1, rfl, rfl, by decide⟩
theorem fd_X3_9 : FdOk RX3 9 2 1 2 := ⟨RX3, TX3, 6, rfl, by decide, gm_mem 275 (by decide +kernel) rfl, inX3, rfl, rfl, by decide⟩
theorem fd_X3_15 : FdOk RX3 15 2 0 2 := ⟨RX3, TX3, 6, rfl, by decide, gm_mem 274 (by decide +kernel) rfl, inX3, rfl, rfl, by decide⟩
theorem fd_X3_19 : FdOk RX3 19 2 4 0 := ⟨RX3, TX3, 6, rfl, by decide, gm_mem 278 (by decide +kernel) rfl, inX3, rfl, rfl, by decide⟩
theorem fd_X3_30 : FdOk RX3 30 2 3 0 := ⟨RX3, TX3, 6, rfl, by decide, gm_mem 277 (by decide +kernel) rfl, inX3, rfl, rfl, by decide⟩
theorem fd_X3_33 : FdOk RX3 33 2 2 0 := ⟨RX3, TX3, 6, rfl, by decide, gm_mem 276 (by decide +kernel) rfl, inX3, rfl, rfl, by decide⟩
theorem fd_X3_98 : FdOk RX3 98 2 5 0 := ⟨RX3, TX3, 6, rfl, by decide, gm_mem 279 (by decide +kernel) rfl, inX3, rfl, rfl, by decide⟩
theorem fd_X3_114 : FdOk RX3 114 5 3 1 := ⟨RX6, TX6, 11, rfl, by decide, gm_mem 119 (by decide +kernel) rfl, inX6, rfl, rfl, by decide⟩
theorem fd_X3_127 : FdOk RX3 127 6 0 1 := ⟨RX7, TX7, 2, rfl, by decide, gm_mem 259 (by decide +kernel) rfl, inX7, rfl, rfl, by decide⟩
theorem fd_X3_150 : FdOk RX3 150 6 1 0 := ⟨RX7, TX7, 2, rfl, by decide, gm_mem 261 (by decide +kernel) rfl, inX7, rfl, rfl, by decide⟩
theorem fd_X4_12 : FdOk RX4 12 3 0 1 := ⟨RX4, TX4, 5, rfl, by decide, gm_mem 217 (by decide +kernel) rfl, inX4, rfl, rfl, by decide⟩
theorem fd_X4_18 : FdOk RX4 18 3 1 1 := ⟨RX4, TX4, 5, rfl, by decide, gm_mem 218 (by decide +kernel) rfl, inX4, rfl, rfl, by decide⟩
theorem fd_X4_40 : FdOk RX4 40 5 3 1 := ⟨RX6, TX6, 11, rfl, by decide, gm_mem 117 (by decide +kernel) rfl, inX6, rfl, rfl, by decide⟩
theorem fd_X4_71 : FdOk RX4 71 5 5 0 := ⟨RX6, TX6, 11, rfl, by decide, gm_mem 123 (by decide +kernel) rfl, inX6, rfl, rfl, by decide⟩
theorem fd_X4_77 : FdOk RX4 77 5 0 1 := ⟨RX6, TX6, 11, rfl, by decide, gm_mem 109 (by decide +kernel) rfl, inX6, rfl, rfl, by decide⟩
theorem fd_X4_80 : FdOk RX4 80 5 6 0 := ⟨RX6, TX6, 11, rfl, by decide, gm_mem 126 (by decide +kernel) rfl, inX6, rfl, rfl, by decide⟩
theorem fd_X4_107 : FdOk RX4 107 0 0 0 := ⟨RX1, TX1, 6, rfl, by decide, gm_mem 168 (by decide +kernel) rfl, inX1, rfl, rfl, by decide⟩
theorem fd_X4_117 : FdOk RX4 117 3 2 0 := ⟨RX4, TX4, 5, rfl, by decide, gm_mem 219 (by decide +kernel) rfl, inX4, rfl, rfl, by decide⟩
theorem fd_X4_120 : FdOk RX4 120 3 3 0 := ⟨RX4, TX4, 5, rfl, by decide, gm_mem 221 (by decide +kernel) rfl, inX4, rfl, rfl, by decide⟩
theorem fd_X4_130 : FdOk RX4 130 4 2 0 := ⟨RX5, TX5, 3, rfl, by decide, gm_mem 307 (by decide +kernel) rfl, inX5, rfl, rfl, by decide⟩
theorem fd_X4_138 : FdOk RX4 138 4 0 1 := ⟨RX5, TX5, 3, rfl, by decide, gm_mem 301 (by decide +kernel) rfl, inX5, rfl, rfl, by decide⟩
theorem fd_X5_9 : FdOk RX5 9 4 0 1 := ⟨RX5, TX5, 3, rfl, by decide, gm_mem 300 (by decide +kernel) rfl, inX5, rfl, rfl, by decide⟩
theorem fd_X5_15 : FdOk RX5 15 4 1 0 := ⟨RX5, TX5, 3, rfl, by decide, gm_mem 304 (by decide +kernel) rfl, inX5, rfl, rfl, by decide⟩
theorem fd_X5_19 : FdOk RX5 19 4 2 0 := ⟨RX5, TX5, 3, rfl, by decide, gm_mem 306 (by decide +kernel) rfl, inX5, rfl, rfl, by decide⟩
theorem fd_X6_9 : FdOk RX6 9 5 0 1 := ⟨RX6, TX6, 11, rfl, by decide, gm_mem 108 (by decide +kernel) rfl, inX6, rfl, rfl, by decide⟩
theorem fd_X6_15 : FdOk RX6 15 5 1 1 := ⟨RX6, TX6, 11, rfl, by decide, gm_mem 111 (by decide +kernel) rfl, inX6, rfl, rfl, by decide⟩
theorem fd_X6_18 : FdOk RX6 18 5 2 1 := ⟨RX6, TX6, 11, rfl, by decide, gm_mem 113 (by decide +kernel) rfl, inX6, rfl, rfl, by decide⟩
theorem fd_X6_21 : FdOk RX6 21 5 3 1 := ⟨RX6, TX6, 11, rfl, by decide, gm_mem 115 (by decide +kernel) rfl, inX6, rfl, rfl, by decide⟩
theorem fd_X6_24 : FdOk RX6 24 5 4 1 := ⟨RX6, TX6, 11, rfl, by decide, gm_mem 120 (by decide +kernel) rfl, inX6, rfl, rfl, by decide⟩
theorem fd_X6_27 : FdOk RX6 27 5 10 0 := ⟨RX6, TX6, 11, rfl, by decide, gm_mem 134 (by decide +kernel) rfl, inX6, rfl, rfl, by decide⟩
theorem fd_X6_46 : FdOk RX6 46 5 5 0 := ⟨RX6, TX6, 11, rfl, by decide, gm_mem 122 (by decide +kernel) rfl, inX6, rfl, rfl, by decide⟩
theorem fd_X6_49 : FdOk RX6 49 5 6 0 := ⟨RX6, TX6, 11, rfl, by decide, gm_mem 125 (by decide +kernel) rfl, inX6, rfl, rfl, by decide⟩
theorem fd_X6_52 : FdOk RX6 52 5 7 0 := ⟨RX6, TX6, 11, rfl, by decide, gm_mem 128 (by decide +kernel) rfl, inX6, rfl, rfl, by decide⟩
theorem fd_X6_55 : FdOk RX6 55 5 8 0 := ⟨RX6, TX6, 11, rfl, by decide, gm_mem 130 (by decide +kernel) rfl, inX6, rfl, rfl, by decide⟩
theorem fd_X6_58 : FdOk RX6 58 5 9 0 := ⟨RX6, TX6, 11, rfl, by decide, gm_mem 132 (by decide +kernel) rfl, inX6, rfl, rfl, by decide⟩
theorem fd_X6_74 : FdOk RX6 74 0 0 0 := ⟨RX1, TX1, 6, rfl, by decide, gm_mem 170 (by decide +kernel) rfl, inX1, rfl, rfl, by decide⟩
theorem fd_X6_94 : FdOk RX6 94 4 2 0 := ⟨RX5, TX5, 3, rfl, by decide, gm_mem 308 (by decide +kernel) rfl, inX5, rfl, rfl, by decide⟩
theorem fd_X6_99 : FdOk RX6 99 4 0 1 := ⟨RX5, TX5, 3, rfl, by decide, gm_mem 302 (by decide +kernel) rfl, inX5, rfl, rfl, by decide⟩
theorem fd_X6_110 : FdOk RX6 110 0 1 0 := ⟨RX1, TX1, 6, rfl, by decide, gm_mem 174 (by decide +kernel) rfl, inX1, rfl, rfl, by decide⟩
theorem fd_X7_9 : FdOk RX7 9 6 0 1 := ⟨RX7, TX7, 2, rfl, by decide, gm_mem 258 (by decide +kernel) rfl, inX7, rfl, rfl, by decide⟩
theorem fd_X7_15 : FdOk RX7 15 6 1 0 := ⟨RX7, TX7, 2, rfl, by decide, gm_mem 260 (by decide +kernel) rfl, inX7, rfl, rfl, by decide⟩
theorem fd_X8_9 : FdOk RX8 9 7 0 1 := ⟨RX8, TX8, 3, rfl, by decide, gm_mem 242 (by decide +kernel) rfl, inX8, rfl, rfl, by decide⟩
theorem fd_X8_15 : FdOk RX8 15 7 1 1 := ⟨RX8, TX8, 3, rfl, by decide, gm_mem 243 (by decide +kernel) rfl, inX8, rfl, rfl, by decide⟩
theorem fd_X8_18 : FdOk RX8 18 7 2 1 := ⟨RX8, TX8, 3, rfl, by decide, gm_mem 244 (by decide +kernel) rfl, inX8, rfl, rfl, by decide⟩
theorem fd_X8_21 : FdOk RX8 21 5 3 1 := ⟨RX6, TX6, 11, rfl, by decide, gm_mem 116 (by decide +kernel) rfl, inX6, rfl, rfl, by decide⟩
theorem fd_X9_10 : FdOk RX9 10 8 0 1 := ⟨RX9, TX9, 12, rfl, by decide, gm_mem 317 (by decide +kernel) rfl, inX9, rfl, rfl, by decide⟩
theorem fd_X9_16 : FdOk RX9 16 8 1 1 := ⟨RX9, TX9, 12, rfl, by decide, gm_mem 318 (by decide +kernel) rfl, inX9, rfl, rfl, by decide⟩
theorem fd_X9_19 : FdOk RX9 19 8 2 1 := ⟨RX9, TX9, 12, rfl, by decide, gm_mem 319 (by decide +kernel) rfl, inX9, rfl, rfl, by decide⟩
theorem fd_X9_25 : FdOk RX9 25 8 3 1 := ⟨RX9, TX9, 12, rfl, by decide, gm_mem 320 (by decide +kernel) rfl, inX9, rfl, rfl, by decide⟩
theorem fd_X9_32 : FdOk RX9 32 8 4 1 := ⟨RX9, TX9, 12, rfl, by decide, gm_mem 321 (by decide +kernel) rfl, inX9, rfl, rfl, by decide⟩
theorem fd_X9_39 : FdOk RX9 39 8 5 1 := ⟨RX9, TX9, 12, rfl, by decide, gm_mem 322 (by decide +kernel) rfl, inX9, rfl, rfl, by decide⟩
theorem fd_X9_46 : FdOk RX9 46 8 6 1 := ⟨RX9, TX9, 12, rfl, by decide, gm_mem 323 (by decide +kernel) rfl, inX9, rfl, rfl, by decide⟩
theorem fd_X9_53 : FdOk RX9 53 8 7 1 := ⟨RX9, TX9, 12, rfl, by decide, gm_mem 324 (by decide +kernel) rfl, inX9, rfl, rfl, by decide⟩
theorem fd_X9_60 : FdOk RX9 60 8 8 1 := ⟨RX9, TX9, 12, rfl, by decide, gm_mem 325 (by decide +kernel) rfl, inX9, rfl, rfl, by decide⟩
theorem fd_X9_66 : FdOk RX9 66 8 9 1 := ⟨RX9, TX9, 12, rfl, by decide, gm_mem 326 (by decide +kernel) rfl, inX9, rfl, rfl, by decide⟩
theorem fd_X9_70 : FdOk RX9 70 8 10 1 := ⟨RX9, TX9, 12, rfl, by decide, gm_mem 327 (by decide +kernel) rfl, inX9, rfl, rfl, by decide⟩
theorem fd_X9_94 : FdOk RX9 94 5 3 1 := ⟨RX6, TX6, 11, rfl, by decide, gm_mem 118 (by decide +kernel) rfl, inX6, rfl, rfl, by decide⟩
theorem fd_X9_127 : FdOk RX9 127 5 7 0 := ⟨RX6, TX6, 11, rfl, by decide, gm_mem 129 (by decide +kernel) rfl, inX6, rfl, rfl, by decide⟩
theorem fd_X9_139 : FdOk RX9 139 5 5 0 := ⟨RX6, TX6, 11, rfl, by decide, gm_mem 124 (by decide +kernel) rfl, inX6, rfl, rfl, by decide⟩
theorem fd_X9_142 : FdOk RX9 142 5 6 0 := ⟨RX6, TX6, 11, rfl, by decide, gm_mem 127 (by decide +kernel) rfl, inX6, rfl, rfl, by decide⟩
theorem fd_X9_148 : FdOk RX9 148 5 8 0 := ⟨RX6, TX6, 11, rfl, by decide, gm_mem 131 (by decide +kernel) rfl, inX6, rfl, rfl, by decide⟩
theorem fd_X9_151 : FdOk RX9 151 5 9 0 := ⟨RX6, TX6, 11, rfl, by decide, gm_mem 133 (by decide +kernel) rfl, inX6, rfl, rfl, by decide⟩
theorem fd_X9_160 : FdOk RX9 160 0 0 0 := ⟨RX1, TX1, 6, rfl, by decide, gm_mem 169 (by decide +kernel) rfl, inX1, rfl, rfl, by decide⟩
theorem fd_X9_163 : FdOk RX9 163 0 1 0 := ⟨RX1, TX1, 6, rfl, by decide, gm_mem 173 (by decide +kernel) rfl, inX1, rfl, rfl, by decide⟩
theorem fd_X9_243 : FdOk RX9 243 3 2 0 := ⟨RX4, TX4, 5, rfl, by decide, gm_mem 220 (by decide +kernel) rfl, inX4, rfl, rfl, by decide⟩
theorem fd_X9_246 : FdOk RX9 246 3 4 0 := ⟨RX4, TX4, 5, rfl, by decide, gm_mem 224 (by decide +kernel) rfl, inX4, rfl, rfl, by decide⟩
theorem fd_X9_249 : FdOk RX9 249 3 3 0 := ⟨RX4, TX4, 5, rfl, by decide, gm_mem 222 (by decide +kernel) rfl, inX4, rfl, rfl, by decide⟩
theorem fd_X9_260 : FdOk RX9 260 5 10 0 := ⟨RX6, TX6, 11, rfl, by decide, gm_mem 135 (by decide +kernel) rfl, inX6, rfl, rfl, by decide⟩
theorem fd_X9_267 : FdOk RX9 267 6 1 0 := ⟨RX7, TX7, 2, rfl, by decide, gm_mem 262 (by decide +kernel) rfl, inX7, rfl, rfl, by decide⟩
theorem fd_X9_278 : FdOk RX9 278 5 4 1 := ⟨RX6, TX6, 11, rfl, by decide, gm_mem 121 (by decide +kernel) rfl, inX6, rfl, rfl, by decide⟩
theorem fd_X9_281 : FdOk RX9 281 5 0 1 := ⟨RX6, TX6, 11, rfl, by decide, gm_mem 110 (by decide +kernel) rfl, inX6, rfl, rfl, by decide⟩
theorem fd_X9_295 : FdOk RX9 295 4 2 0 := ⟨RX5, TX5, 3, rfl, by decide, gm_mem 309 (by decide +kernel) rfl, inX5, rfl, rfl, by decide⟩
theorem fd_X9_299 : FdOk RX9 299 4 1 0 := ⟨RX5, TX5, 3, rfl, by decide, gm_mem 305 (by decide +kernel) rfl, inX5, rfl, rfl, by decide⟩
theorem fd_X9_305 : FdOk RX9 305 4 0 1 := ⟨RX5, TX5, 3, rfl, by decide, gm_mem 303 (by decide +kernel) rfl, inX5, rfl, rfl, by decide⟩
theorem fd_X9_321 : FdOk RX9 321 8 11 0 := ⟨RX9, TX9, 12, rfl, by decide, gm_mem 328 (by decide +kernel) rfl, inX9, rfl, rfl, by decide⟩
theorem fd_X9_325 : FdOk RX9 325 5 1 1 := ⟨RX6, TX6, 11, rfl, by decide, gm_mem 112 (by decide +kernel) rfl, inX6, rfl, rfl, by decide⟩
theorem fd_X9_331 : FdOk RX9 331 5 2 1 := ⟨RX6, TX6, 11, rfl, by decide, gm_mem 114 (by decide +kernel) rfl, inX6, rfl, rfl, by decide⟩
theorem pd_X1_9 : PdOk RX1 9 0 0 0 .int := ⟨RX1, TX1, 6, tyX1, rfl, by decide, gm_mem 166 (by decide +kernel) rfl, inX1, rfl, rfl, by decide, tyX1_ok, nmX1, rfl, by decide +kernel⟩
theorem pd_X1_15 : PdOk RX1 15 0 1 0 .int := ⟨RX1, TX1, 6, tyX1, rfl, by decide, gm_mem 171 (by decide +kernel) rfl, inX1, rfl, rfl, by decide, tyX1_ok, nmX1, rfl, by decide +kernel⟩
theorem pd_X1_18 : PdOk RX1 18 0 2 0 .int := ⟨RX1, TX1, 6, tyX1, rfl, by decide, gm_mem 175 (by decide +kernel) rfl, inX1, rfl, rfl, by decide, tyX1_ok, nmX1, rfl, by decide +kernel⟩
theorem pd_X1_21 : PdOk RX1 21 0 3 0 .int := ⟨RX1, TX1, 6, tyX1, rfl, by decide, gm_mem 177 (by decide +kernel) rfl, inX1, rfl, rfl, by decide, tyX1_ok, nmX1, rfl, by decide +kernel⟩
theorem pd_X1_24 : PdOk RX1 24 0 4 0 .int := ⟨RX1, TX1, 6, tyX1, rfl, by decide, gm_mem 179 (by decide +kernel) rfl, inX1, rfl, rfl, by decide, tyX1_ok, nmX1, rfl, by decide +kernel⟩
theorem pd_X1_27 : PdOk RX1 27 0 5 0 .int := ⟨RX1, TX1, 6, tyX1, rfl, by decide, gm_mem 180 (by decide +kernel) rfl, inX1, rfl, rfl, by decide, tyX1_ok, nmX1, rfl, by decide +kernel⟩
theorem pd_X10_171 : PdOk RX10 171 9 6 0 .int := ⟨RX10, TX10, 28, tyX10, rfl, by decide, gm_mem 998 (by decide +kernel) rfl, inX10, rfl, rfl, by decide, tyX10_ok, nmX10, rfl, by decide +kernel⟩
theorem pd_X10_178 : PdOk RX10 178 9 7 0 .int := ⟨RX10, TX10, 28, tyX10, rfl, by decide, gm_mem 999 (by decide +kernel) rfl, inX10, rfl, rfl, by decide, tyX10_ok, nmX10, rfl, by decide +kernel⟩
theorem pd_X10_195 : PdOk RX10 195 9 8 0 .int := ⟨RX10, TX10, 28, tyX10, rfl, by decide, gm_mem 1000 (by decide +kernel) rfl, inX10, rfl, rfl, by decide, tyX10_ok, nmX10, rfl, by decide +kernel⟩
theorem pd_X10_198 : PdOk RX10 198 9 9 0 .int := ⟨RX10, TX10, 28, tyX10, rfl, by decide, gm_mem 1001 (by decide +kernel) rfl, inX10, rfl, rfl, by decide, tyX10_ok, nmX10, rfl, by decide +kernel⟩
theorem pd_X10_216 : PdOk RX10 216 9 11 0 .int := ⟨RX10, TX10, 28, tyX10, rfl, by decide, gm_mem 1003 (by decide +kernel) rfl, inX10, rfl, rfl, by decide, tyX10_ok, nmX10, rfl, by decide +kernel⟩
theorem pd_X10_219 : PdOk RX10 219 9 12 0 .int := ⟨RX10, TX10, 28, tyX10, rfl, by decide, gm_mem 1004 (by decide +kernel) rfl, inX10, rfl, rfl, by decide, tyX10_ok, nmX10, rfl, by decide +kernel⟩
theorem pd_X10_240 : PdOk RX10 240 9 14 0 .int := ⟨RX10, TX10, 28, tyX10, rfl, by decide, gm_mem 1006 (by decide +kernel) rfl, inX10, rfl, rfl, by decide, tyX10_ok, nmX10, rfl, by decide +kernel⟩
theorem pd_X10_243 : PdOk RX10 243 9 16 0 .int := ⟨RX10, TX10, 28, tyX10, rfl, by decide, gm_mem 1008 (by decide +kernel) rfl, inX10, rfl, rfl, by decide, tyX10_ok, nmX10, rfl, by decide +kernel⟩
theorem pd_X10_246 : PdOk RX10 246 9 15 0 .int := ⟨RX10, TX10, 28, tyX10, rfl, by decide, gm_mem 1007 (by decide +kernel) rfl, inX10, rfl, rfl, by decide, tyX10_ok, nmX10, rfl, by decide +kernel⟩
theorem pd_X10_252 : PdOk RX10 252 9 18 0 .int := ⟨RX10, TX10, 28, tyX10, rfl, by decide, gm_mem 1010 (by decide +kernel) rfl, inX10, rfl, rfl, by decide, tyX10_ok, nmX10, rfl, by decide +kernel⟩
theorem pd_X10_255 : PdOk RX10 255 9 17 0 .int := ⟨RX10, TX10, 28, tyX10, rfl, by decide, gm_mem 1009 (by decide +kernel) rfl, inX10, rfl, rfl, by decide, tyX10_ok, nmX10, rfl, by decide +kernel⟩
theorem pd_X10_266 : PdOk RX10 266 9 19 0 .boolean := ⟨RX10, TX10, 28, tyX10, rfl, by decide, gm_mem 1011 (by decide +kernel) rfl, inX10, rfl, rfl, by decide, tyX10_ok, nmX10, rfl, by decide +kernel⟩
theorem pd_X10_277 : PdOk RX10 277 9 22 0 .int := ⟨RX10, TX10, 28, tyX10, rfl, by decide, gm_mem 1014 (by decide +kernel) rfl, inX10, rfl, rfl, by decide, tyX10_ok, nmX10, rfl, by decide +kernel⟩
theorem pd_X10_303 : PdOk RX10 303 9 23 0 .int := ⟨RX10, TX10, 28, tyX10, rfl, by decide, gm_mem 1015 (by decide +kernel) rfl, inX10, rfl, rfl, by decide, tyX10_ok, nmX10, rfl, by decide +kernel⟩
theorem pd_X10_350 : PdOk RX10 350 9 3 0 .boolean := ⟨RX10, TX10, 28, tyX10, rfl, by decide, gm_mem 995 (by decide +kernel) rfl, inX10, rfl, rfl, by decide, tyX10_ok, nmX10, rfl, by decide +kernel⟩
theorem pd_X2_28 : PdOk RX2 28 0 0 0 .int := ⟨RX1, TX1, 6, tyX1, rfl, by decide, gm_mem 167 (by decide +kernel) rfl, inX1, rfl, rfl, by decide, tyX1_ok, nmX1, rfl, by decide +kernel⟩
theorem pd_X2_32 : PdOk RX2 32 0 1 0 .int := ⟨RX1, TX1, 6, tyX1, rfl, by decide, gm_mem 172 (by decide +kernel) rfl, inX1, rfl, rfl, by decide, tyX1_ok, nmX1, rfl, by decide +kernel⟩
theorem pd_X3_9 : PdOk RX3 9 2 1 2 (.object "GlassWords$Studio") := ⟨RX3, TX3, 6, tyX3, rfl, by decide, gm_mem 275 (by decide +kernel) rfl, inX3, rfl, rfl, by decide, tyX3_ok, nmX3, rfl, by decide +kernel⟩
theorem pd_X3_15 : PdOk RX3 15 2 0 2 (.object "GlassWords$Tape") := ⟨RX3, TX3, 6, tyX3, rfl, by decide, gm_mem 274 (by decide +kernel) rfl, inX3, rfl, rfl, by decide, tyX3_ok, nmX3, rfl, by decide +kernel⟩
theorem pd_X3_19 : PdOk RX3 19 2 4 0 .int := ⟨RX3, TX3, 6, tyX3, rfl, by decide, gm_mem 278 (by decide +kernel) rfl, inX3, rfl, rfl, by decide, tyX3_ok, nmX3, rfl, by decide +kernel⟩
theorem pd_X3_30 : PdOk RX3 30 2 3 0 .int := ⟨RX3, TX3, 6, tyX3, rfl, by decide, gm_mem 277 (by decide +kernel) rfl, inX3, rfl, rfl, by decide, tyX3_ok, nmX3, rfl, by decide +kernel⟩
theorem pd_X3_33 : PdOk RX3 33 2 2 0 .int := ⟨RX3, TX3, 6, tyX3, rfl, by decide, gm_mem 276 (by decide +kernel) rfl, inX3, rfl, rfl, by decide, tyX3_ok, nmX3, rfl, by decide +kernel⟩
theorem pd_X3_98 : PdOk RX3 98 2 5 0 .int := ⟨RX3, TX3, 6, tyX3, rfl, by decide, gm_mem 279 (by decide +kernel) rfl, inX3, rfl, rfl, by decide, tyX3_ok, nmX3, rfl, by decide +kernel⟩
theorem pd_X4_53 : PdOk RX4 53 0 2 0 .int := ⟨RX1, TX1, 6, tyX1, rfl, by decide, gm_mem 176 (by decide +kernel) rfl, inX1, rfl, rfl, by decide, tyX1_ok, nmX1, rfl, by decide +kernel⟩
theorem pd_X4_57 : PdOk RX4 57 0 3 0 .int := ⟨RX1, TX1, 6, tyX1, rfl, by decide, gm_mem 178 (by decide +kernel) rfl, inX1, rfl, rfl, by decide, tyX1_ok, nmX1, rfl, by decide +kernel⟩
theorem pd_X4_117 : PdOk RX4 117 3 2 0 .int := ⟨RX4, TX4, 5, tyX4, rfl, by decide, gm_mem 219 (by decide +kernel) rfl, inX4, rfl, rfl, by decide, tyX4_ok, nmX4, rfl, by decide +kernel⟩
theorem pd_X4_120 : PdOk RX4 120 3 3 0 .int := ⟨RX4, TX4, 5, tyX4, rfl, by decide, gm_mem 221 (by decide +kernel) rfl, inX4, rfl, rfl, by decide, tyX4_ok, nmX4, rfl, by decide +kernel⟩
theorem pd_X4_123 : PdOk RX4 123 3 4 0 .int := ⟨RX4, TX4, 5, tyX4, rfl, by decide, gm_mem 223 (by decide +kernel) rfl, inX4, rfl, rfl, by decide, tyX4_ok, nmX4, rfl, by decide +kernel⟩
theorem pd_X5_15 : PdOk RX5 15 4 1 0 .int := ⟨RX5, TX5, 3, tyX5, rfl, by decide, gm_mem 304 (by decide +kernel) rfl, inX5, rfl, rfl, by decide, tyX5_ok, nmX5, rfl, by decide +kernel⟩
theorem pd_X5_19 : PdOk RX5 19 4 2 0 .int := ⟨RX5, TX5, 3, tyX5, rfl, by decide, gm_mem 306 (by decide +kernel) rfl, inX5, rfl, rfl, by decide, tyX5_ok, nmX5, rfl, by decide +kernel⟩
theorem pd_X6_27 : PdOk RX6 27 5 10 0 .int := ⟨RX6, TX6, 11, tyX6, rfl, by decide, gm_mem 134 (by decide +kernel) rfl, inX6, rfl, rfl, by decide, tyX6_ok, nmX6, rfl, by decide +kernel⟩
theorem pd_X6_46 : PdOk RX6 46 5 5 0 .int := ⟨RX6, TX6, 11, tyX6, rfl, by decide, gm_mem 122 (by decide +kernel) rfl, inX6, rfl, rfl, by decide, tyX6_ok, nmX6, rfl, by decide +kernel⟩
theorem pd_X6_49 : PdOk RX6 49 5 6 0 .int := ⟨RX6, TX6, 11, tyX6, rfl, by decide, gm_mem 125 (by decide +kernel) rfl, inX6, rfl, rfl, by decide, tyX6_ok, nmX6, rfl, by decide +kernel⟩
theorem pd_X6_52 : PdOk RX6 52 5 7 0 .int := ⟨RX6, TX6, 11, tyX6, rfl, by decide, gm_mem 128 (by decide +kernel) rfl, inX6, rfl, rfl, by decide, tyX6_ok, nmX6, rfl, by decide +kernel⟩
theorem pd_X6_55 : PdOk RX6 55 5 8 0 .int := ⟨RX6, TX6, 11, tyX6, rfl, by decide, gm_mem 130 (by decide +kernel) rfl, inX6, rfl, rfl, by decide, tyX6_ok, nmX6, rfl, by decide +kernel⟩
theorem pd_X6_58 : PdOk RX6 58 5 9 0 .int := ⟨RX6, TX6, 11, tyX6, rfl, by decide, gm_mem 132 (by decide +kernel) rfl, inX6, rfl, rfl, by decide, tyX6_ok, nmX6, rfl, by decide +kernel⟩
theorem pd_X7_15 : PdOk RX7 15 6 1 0 .int := ⟨RX7, TX7, 2, tyX7, rfl, by decide, gm_mem 260 (by decide +kernel) rfl, inX7, rfl, rfl, by decide, tyX7_ok, nmX7, rfl, by decide +kernel⟩
theorem pd_X9_142 : PdOk RX9 142 5 6 0 .int := ⟨RX6, TX6, 11, tyX6, rfl, by decide, gm_mem 127 (by decide +kernel) rfl, inX6, rfl, rfl, by decide, tyX6_ok, nmX6, rfl, by decide +kernel⟩
theorem pd_X9_260 : PdOk RX9 260 5 10 0 .int := ⟨RX6, TX6, 11, tyX6, rfl, by decide, gm_mem 135 (by decide +kernel) rfl, inX6, rfl, rfl, by decide, tyX6_ok, nmX6, rfl, by decide +kernel⟩
theorem pd_X9_267 : PdOk RX9 267 6 1 0 .int := ⟨RX7, TX7, 2, tyX7, rfl, by decide, gm_mem 262 (by decide +kernel) rfl, inX7, rfl, rfl, by decide, tyX7_ok, nmX7, rfl, by decide +kernel⟩
theorem pd_X9_321 : PdOk RX9 321 8 11 0 .boolean := ⟨RX9, TX9, 12, tyX9, rfl, by decide, gm_mem 328 (by decide +kernel) rfl, inX9, rfl, rfl, by decide, tyX9_ok, nmX9, rfl, by decide +kernel⟩
theorem ct_J6_265 : Cond.constant RJ6 265 (1431655765) ∈ gm_ws := gm_mem 615 (by decide +kernel) rfl
theorem ct_J6_266 : Cond.constant RJ6 266 (858993459) ∈ gm_ws := gm_mem 616 (by decide +kernel) rfl
theorem ct_J6_267 : Cond.constant RJ6 267 (252645135) ∈ gm_ws := gm_mem 617 (by decide +kernel) rfl
theorem ct_X10_66 : Cond.constant RX10 66 (-1000001) ∈ gm_ws := gm_mem 1087 (by decide +kernel) rfl
theorem ct_X10_87 : Cond.constant RX10 87 (-1000002) ∈ gm_ws := gm_mem 1092 (by decide +kernel) rfl
theorem ct_X10_118 : Cond.constant RX10 118 (99999) ∈ gm_ws := gm_mem 1146 (by decide +kernel) rfl
theorem ct_X10_144 : Cond.constant RX10 144 (-1000005) ∈ gm_ws := gm_mem 1159 (by decide +kernel) rfl
theorem ct_X10_148 : Cond.constant RX10 148 (9999999) ∈ gm_ws := gm_mem 1179 (by decide +kernel) rfl
theorem ct_X10_170 : Cond.constant RX10 170 (100000000) ∈ gm_ws := gm_mem 1245 (by decide +kernel) rfl
theorem ct_X10_184 : Cond.constant RX10 184 (-1000004) ∈ gm_ws := gm_mem 1266 (by decide +kernel) rfl
theorem ct_X10_225 : Cond.constant RX10 225 (-1000006) ∈ gm_ws := gm_mem 1328 (by decide +kernel) rfl
theorem ct_X10_232 : Cond.constant RX10 232 (1103515245) ∈ gm_ws := gm_mem 1361 (by decide +kernel) rfl
theorem ct_X10_236 : Cond.constant RX10 236 (9900000) ∈ gm_ws := gm_mem 1352 (by decide +kernel) rfl
theorem ct_X10_258 : Cond.constant RX10 258 (100000) ∈ gm_ws := gm_mem 1390 (by decide +kernel) rfl
theorem ct_X10_345 : Cond.constant RX10 345 (-1000003) ∈ gm_ws := gm_mem 1468 (by decide +kernel) rfl
theorem ct_X10_346 : Cond.constant RX10 346 (-1000007) ∈ gm_ws := gm_mem 1473 (by decide +kernel) rfl
theorem ct_X2_23 : Cond.constant RX2 23 (100000) ∈ gm_ws := gm_mem 526 (by decide +kernel) rfl
theorem ct_X3_159 : Cond.constant RX3 159 (100000) ∈ gm_ws := gm_mem 775 (by decide +kernel) rfl
theorem ct_X4_63 : Cond.constant RX4 63 (1000000) ∈ gm_ws := gm_mem 574 (by decide +kernel) rfl
theorem ct_X6_117 : Cond.constant RX6 117 (1103515245) ∈ gm_ws := gm_mem 729 (by decide +kernel) rfl
theorem ct_X9_131 : Cond.constant RX9 131 (9999999) ∈ gm_ws := gm_mem 438 (by decide +kernel) rfl
theorem ct_X9_255 : Cond.constant RX9 255 (9900000) ∈ gm_ws := gm_mem 719 (by decide +kernel) rfl
theorem ct_X9_337 : Cond.constant RX9 337 (-1000001) ∈ gm_ws := gm_mem 365 (by decide +kernel) rfl
theorem sl_X10_287 : (RX10, 287, "weight", 15) ∈ gm_ldc := List.mem_of_getElem? (i := 27) rfl
theorem sl_X10_292 : (RX10, 292, "drift", 16) ∈ gm_ldc := List.mem_of_getElem? (i := 28) rfl
theorem sl_X10_306 : (RX10, 306, "words", 13) ∈ gm_ldc := List.mem_of_getElem? (i := 24) rfl
theorem sl_X10_308 : (RX10, 308, "hard", 14) ∈ gm_ldc := List.mem_of_getElem? (i := 25) rfl
theorem sl_X10_310 : (RX10, 310, "reader", 7) ∈ gm_ldc := List.mem_of_getElem? (i := 26) rfl
theorem sl_X10_316 : (RX10, 316, "knob", 8) ∈ gm_ldc := List.mem_of_getElem? (i := 29) rfl
theorem sl_X10_318 : (RX10, 318, "letters", 9) ∈ gm_ldc := List.mem_of_getElem? (i := 30) rfl
theorem sl_X10_323 : (RX10, 323, "ahead", 10) ∈ gm_ldc := List.mem_of_getElem? (i := 31) rfl
theorem sl_X10_325 : (RX10, 325, "leaves", 11) ∈ gm_ldc := List.mem_of_getElem? (i := 32) rfl
theorem sl_X10_327 : (RX10, 327, "hour", 12) ∈ gm_ldc := List.mem_of_getElem? (i := 33) rfl
theorem sl_X3_48 : (RX3, 48, "reader", 7) ∈ gm_ldc := List.mem_of_getElem? (i := 9) rfl
theorem sl_X3_53 : (RX3, 53, "knob", 8) ∈ gm_ldc := List.mem_of_getElem? (i := 12) rfl
theorem sl_X3_55 : (RX3, 55, "letters", 9) ∈ gm_ldc := List.mem_of_getElem? (i := 13) rfl
theorem sl_X3_60 : (RX3, 60, "ahead", 10) ∈ gm_ldc := List.mem_of_getElem? (i := 14) rfl
theorem sl_X3_62 : (RX3, 62, "leaves", 11) ∈ gm_ldc := List.mem_of_getElem? (i := 15) rfl
theorem sl_X3_64 : (RX3, 64, "hour", 12) ∈ gm_ldc := List.mem_of_getElem? (i := 16) rfl
theorem sl_X3_75 : (RX3, 75, "words", 13) ∈ gm_ldc := List.mem_of_getElem? (i := 7) rfl
theorem sl_X3_81 : (RX3, 81, "hard", 14) ∈ gm_ldc := List.mem_of_getElem? (i := 8) rfl
theorem sl_X3_101 : (RX3, 101, "weight", 15) ∈ gm_ldc := List.mem_of_getElem? (i := 10) rfl
theorem sl_X3_103 : (RX3, 103, "drift", 16) ∈ gm_ldc := List.mem_of_getElem? (i := 11) rfl
theorem sl_X3_136 : (RX3, 136, "level", 1) ∈ gm_ldc := List.mem_of_getElem? (i := 0) rfl
theorem sl_X3_138 : (RX3, 138, "sinking", 2) ∈ gm_ldc := List.mem_of_getElem? (i := 1) rfl
theorem sl_X3_140 : (RX3, 140, "rising", 3) ∈ gm_ldc := List.mem_of_getElem? (i := 2) rfl
theorem sl_X3_142 : (RX3, 142, "stopped", 4) ∈ gm_ldc := List.mem_of_getElem? (i := 3) rfl
theorem sl_X3_144 : (RX3, 144, "off", 5) ∈ gm_ldc := List.mem_of_getElem? (i := 4) rfl
theorem sl_X3_146 : (RX3, 146, "blank", 6) ∈ gm_ldc := List.mem_of_getElem? (i := 5) rfl
theorem sl_X3_148 : (RX3, 148, "line", 0) ∈ gm_ldc := List.mem_of_getElem? (i := 6) rfl
theorem li_0_10 : vp_in 0 10 ∧ (0 : Int32).toNatClampNeg = 0 := ⟨vp_in_iff.mpr (by decide), by decide⟩
theorem li_0_62 : vp_in 0 62 ∧ (0 : Int32).toNatClampNeg = 0 := ⟨vp_in_iff.mpr (by decide), by decide⟩
theorem li_0_8 : vp_in 0 8 ∧ (0 : Int32).toNatClampNeg = 0 := ⟨vp_in_iff.mpr (by decide), by decide⟩
theorem li_1_10 : vp_in 1 10 ∧ (1 : Int32).toNatClampNeg = 1 := ⟨vp_in_iff.mpr (by decide), by decide⟩
theorem li_1_62 : vp_in 1 62 ∧ (1 : Int32).toNatClampNeg = 1 := ⟨vp_in_iff.mpr (by decide), by decide⟩
theorem li_2_62 : vp_in 2 62 ∧ (2 : Int32).toNatClampNeg = 2 := ⟨vp_in_iff.mpr (by decide), by decide⟩
theorem li_3_62 : vp_in 3 62 ∧ (3 : Int32).toNatClampNeg = 3 := ⟨vp_in_iff.mpr (by decide), by decide⟩
theorem li_4_62 : vp_in 4 62 ∧ (4 : Int32).toNatClampNeg = 4 := ⟨vp_in_iff.mpr (by decide), by decide⟩
theorem li_5_62 : vp_in 5 62 ∧ (5 : Int32).toNatClampNeg = 5 := ⟨vp_in_iff.mpr (by decide), by decide⟩
theorem li_6_10 : vp_in 6 10 ∧ (6 : Int32).toNatClampNeg = 6 := ⟨vp_in_iff.mpr (by decide), by decide⟩
theorem li_6_62 : vp_in 6 62 ∧ (6 : Int32).toNatClampNeg = 6 := ⟨vp_in_iff.mpr (by decide), by decide⟩
theorem li_7_10 : vp_in 7 10 ∧ (7 : Int32).toNatClampNeg = 7 := ⟨vp_in_iff.mpr (by decide), by decide⟩
theorem li_7_62 : vp_in 7 62 ∧ (7 : Int32).toNatClampNeg = 7 := ⟨vp_in_iff.mpr (by decide), by decide⟩
theorem li_8_10 : vp_in 8 10 ∧ (8 : Int32).toNatClampNeg = 8 := ⟨vp_in_iff.mpr (by decide), by decide⟩
theorem li_8_62 : vp_in 8 62 ∧ (8 : Int32).toNatClampNeg = 8 := ⟨vp_in_iff.mpr (by decide), by decide⟩
theorem li_9_10 : vp_in 9 10 ∧ (9 : Int32).toNatClampNeg = 9 := ⟨vp_in_iff.mpr (by decide), by decide⟩
theorem li_9_62 : vp_in 9 62 ∧ (9 : Int32).toNatClampNeg = 9 := ⟨vp_in_iff.mpr (by decide), by decide⟩
theorem li_10_62 : vp_in 10 62 ∧ (10 : Int32).toNatClampNeg = 10 := ⟨vp_in_iff.mpr (by decide), by decide⟩
theorem li_11_62 : vp_in 11 62 ∧ (11 : Int32).toNatClampNeg = 11 := ⟨vp_in_iff.mpr (by decide), by decide⟩
theorem li_12_62 : vp_in 12 62 ∧ (12 : Int32).toNatClampNeg = 12 := ⟨vp_in_iff.mpr (by decide), by decide⟩
theorem li_13_62 : vp_in 13 62 ∧ (13 : Int32).toNatClampNeg = 13 := ⟨vp_in_iff.mpr (by decide), by decide⟩
theorem li_14_62 : vp_in 14 62 ∧ (14 : Int32).toNatClampNeg = 14 := ⟨vp_in_iff.mpr (by decide), by decide⟩
theorem li_15_62 : vp_in 15 62 ∧ (15 : Int32).toNatClampNeg = 15 := ⟨vp_in_iff.mpr (by decide), by decide⟩
theorem ga_2 : gm_arr 2 12 := ⟨rfl, rfl⟩
theorem ga_3 : gm_arr 3 12 := ⟨rfl, rfl⟩
theorem ga_4 : gm_arr 4 12 := ⟨rfl, rfl⟩
theorem ga_5 : gm_arr 5 10 := ⟨rfl, rfl⟩
theorem ga_6 : gm_arr 6 10 := ⟨rfl, rfl⟩
theorem ga_8 : gm_arr 8 12 := ⟨rfl, rfl⟩
theorem ga_9 : gm_arr 9 12 := ⟨rfl, rfl⟩
theorem ga_10 : gm_arr 10 12 := ⟨rfl, rfl⟩
theorem ga_11 : gm_arr 11 10 := ⟨rfl, rfl⟩
theorem ga_12 : gm_arr 12 10 := ⟨rfl, rfl⟩
theorem ga_14 : gm_arr 14 12 := ⟨rfl, rfl⟩
theorem ga_15 : gm_arr 15 12 := ⟨rfl, rfl⟩
theorem ga_16 : gm_arr 16 12 := ⟨rfl, rfl⟩
theorem ga_17 : gm_arr 17 10 := ⟨rfl, rfl⟩
theorem ga_18 : gm_arr 18 10 := ⟨rfl, rfl⟩
theorem ga_25 : gm_arr 25 12 := ⟨rfl, rfl⟩
theorem ga_27 : gm_arr 27 12 := ⟨rfl, rfl⟩
theorem ga_28 : gm_arr 28 13 := ⟨rfl, rfl⟩
theorem ga_29 : gm_arr 29 13 := ⟨rfl, rfl⟩
theorem ga_31 : gm_arr 31 120 := ⟨rfl, rfl⟩
theorem ga_34 : gm_arr 34 7 := ⟨rfl, rfl⟩
theorem ga_36 : gm_arr 36 40 := ⟨rfl, rfl⟩
theorem ga_38 : gm_arr 38 40 := ⟨rfl, rfl⟩
theorem ga_40 : gm_arr 40 40 := ⟨rfl, rfl⟩
theorem ga_42 : gm_arr 42 40 := ⟨rfl, rfl⟩
theorem ga_44 : gm_arr 44 62 := ⟨rfl, rfl⟩
theorem ga_45 : gm_arr 45 62 := ⟨rfl, rfl⟩
theorem ga_46 : gm_arr 46 62 := ⟨rfl, rfl⟩
theorem ga_47 : gm_arr 47 8 := ⟨rfl, rfl⟩
theorem ga_48 : gm_arr 48 10000 := ⟨rfl, rfl⟩
theorem ga_49 : gm_arr 49 26 := ⟨rfl, rfl⟩
theorem ga_50 : gm_arr 50 120 := ⟨rfl, rfl⟩
theorem ga_52 : gm_arr 52 480 := ⟨rfl, rfl⟩
theorem ga_53 : gm_arr 53 4 := ⟨rfl, rfl⟩
theorem ga_54 : gm_arr 54 4 := ⟨rfl, rfl⟩
theorem ga_55 : gm_arr 55 160 := ⟨rfl, rfl⟩
theorem ga_56 : gm_arr 56 40 := ⟨rfl, rfl⟩
theorem gm_all {P : Nat → Prop} [DecidablePred P] (h : ∀ k, k < 57 → P k) {c : Nat} (hc : c ≠ 99) {k : Nat} (hk : gm_cls k = c) : P k := h k (gm_lt (by rw [hk]; exact hc))
theorem gm_k5 : ∀ k, k < 57 → gm_cls k = 5 → (gm_cls (k + 1) = 20 ∧ gm_len (k + 1) = 12) ∧ (gm_cls (k + 2) = 20 ∧ gm_len (k + 2) = 12) ∧ (gm_cls (k + 3) = 20 ∧ gm_len (k + 3) = 12) ∧ (gm_cls (k + 4) = 20 ∧ gm_len (k + 4) = 10) ∧ (gm_cls (k + 5) = 20 ∧ gm_len (k + 5) = 10) := by decide +kernel
theorem gm_k4 : ∀ k, k < 57 → gm_cls k = 4 → (gm_cls (k + 1) = 20 ∧ gm_len (k + 1) = 40) := by decide +kernel
theorem ka5_0 {k : Nat} (h : gm_cls k = 5) : gm_arr (k + 1) 12 := (gm_k5 k (gm_lt (by rw [h]; decide)) h).1
theorem ka5_1 {k : Nat} (h : gm_cls k = 5) : gm_arr (k + 2) 12 := (gm_k5 k (gm_lt (by rw [h]; decide)) h).2.1
theorem ka5_2 {k : Nat} (h : gm_cls k = 5) : gm_arr (k + 3) 12 := (gm_k5 k (gm_lt (by rw [h]; decide)) h).2.2.1
theorem ka5_3 {k : Nat} (h : gm_cls k = 5) : gm_arr (k + 4) 10 := (gm_k5 k (gm_lt (by rw [h]; decide)) h).2.2.2.1
theorem ka5_4 {k : Nat} (h : gm_cls k = 5) : gm_arr (k + 5) 10 := (gm_k5 k (gm_lt (by rw [h]; decide)) h).2.2.2.2
theorem ka4_0 {k : Nat} (h : gm_cls k = 4) : gm_arr (k + 1) 40 := gm_k4 k (gm_lt (by rw [h]; decide)) h
theorem kr5_0 {k : Nat} (h : gm_cls k = 5) : gm_rf k 0 = k + 1 := by unfold gm_rf; rw [h]; rfl
theorem kr5_1 {k : Nat} (h : gm_cls k = 5) : gm_rf k 1 = k + 2 := by unfold gm_rf; rw [h]; rfl
theorem kr5_2 {k : Nat} (h : gm_cls k = 5) : gm_rf k 2 = k + 3 := by unfold gm_rf; rw [h]; rfl
theorem kr5_3 {k : Nat} (h : gm_cls k = 5) : gm_rf k 3 = k + 4 := by unfold gm_rf; rw [h]; rfl
theorem kr5_4 {k : Nat} (h : gm_cls k = 5) : gm_rf k 4 = k + 5 := by unfold gm_rf; rw [h]; rfl
theorem kr4_0 {k : Nat} (h : gm_cls k = 4) : gm_rf k 0 = k + 1 := by unfold gm_rf; rw [h]; rfl
theorem gm_four : ∀ j, j < 4 → gm_cls (35 + 2 * j) = 4 := by decide
theorem gm_sheet {x : Int32} (h : vp_in x 4) : gm_cls (35 + 2 * x.toNatClampNeg) = 4 := gm_four _ (Nat.not_le.mp fun q => h (Or.inr q))
theorem gm_seven {x : Int32} (h : vp_in x 7) : x.toNatClampNeg < 17 := Nat.lt_of_lt_of_le (Nat.not_le.mp fun q => h (Or.inr q)) (by decide)
theorem vc_0 : ∃ T w, vwCl[0]? = some (RX1, T, w) := ⟨TX1, 6, rfl⟩
theorem vc_1 : ∃ T w, vwCl[1]? = some (RX2, T, w) := ⟨TX2, 2, rfl⟩
theorem vc_2 : ∃ T w, vwCl[2]? = some (RX3, T, w) := ⟨TX3, 6, rfl⟩
theorem vc_3 : ∃ T w, vwCl[3]? = some (RX4, T, w) := ⟨TX4, 5, rfl⟩
theorem vc_4 : ∃ T w, vwCl[4]? = some (RX5, T, w) := ⟨TX5, 3, rfl⟩
theorem vc_5 : ∃ T w, vwCl[5]? = some (RX6, T, w) := ⟨TX6, 11, rfl⟩
theorem vc_6 : ∃ T w, vwCl[6]? = some (RX7, T, w) := ⟨TX7, 2, rfl⟩
theorem vc_7 : ∃ T w, vwCl[7]? = some (RX8, T, w) := ⟨TX8, 3, rfl⟩
theorem vc_8 : ∃ T w, vwCl[8]? = some (RX9, T, w) := ⟨TX9, 12, rfl⟩
theorem vc_9 : ∃ T w, vwCl[9]? = some (RX10, T, w) := ⟨TX10, 28, rfl⟩
