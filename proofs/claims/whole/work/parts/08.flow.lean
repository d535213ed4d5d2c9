abbrev jIm : Type := MethodName × ByteArray × Nat × Option FieldType × jT × Nat × Bool
def jIs_0 : List jIm := [(yJ6_bitCount_0f7a4, cJ6_bitCount_0f7a4, 1, (some .int), T_bitCount, 1, true), (yJ7_fill_53178, cJ7_fill_53178, 4, none, T_fill, 2, true), (yX0_size, cX0_size, 1, (some .int), T_X0_size, 0, false), (yX0_set, cX0_set, 1, (some .int), T_X0_set, 0, false), (yX0_last, cX0_last, 1, (some .int), T_X0_last, 0, false), (yX0_add, cX0_add, 2, none, T_X0_add, 1, false), (yX0_takeLast, cX0_takeLast, 2, (some .int), T_X0_takeLast, 0, false), (yX0_clear, cX0_clear, 1, none, T_X0_clear, 0, false), (yX0_copy, cX0_copy, 2, none, T_X0_copy, 1, false), (yX1_dishes, cX1_dishes, 1, (some .int), T_X1_dishes, 0, false), (yX1_guests, cX1_guests, 1, (some .int), T_X1_guests, 0, false), (yX1_hasDish, cX1_hasDish, 2, (some .boolean), T_X1_hasDish, 1, false), (yX1_hasGuest, cX1_hasGuest, 2, (some .boolean), T_X1_hasGuest, 1, false), (yX1_all, cX1_all, 1, (some .int), T_X1_all, 0, false), (yX1_stuffsOf, cX1_stuffsOf, 2, (some .int), T_X1_stuffsOf, 1, false), (yX1_costOf, cX1_costOf, 2, (some .int), T_X1_costOf, 1, false), (yX1_heatOf, cX1_heatOf, 2, (some .int), T_X1_heatOf, 1, false), (yX1_hoursOf, cX1_hoursOf, 2, (some .int), T_X1_hoursOf, 1, false), (yX1_lovedBy, cX1_lovedBy, 2, (some .int), T_X1_lovedBy, 1, false), (yX1_barredBy, cX1_barredBy, 2, (some .int), T_X1_barredBy, 1, false), (yX1_holdersOf, cX1_holdersOf, 2, (some .int), T_X1_holdersOf, 1, false), (yX1_draftDish, cX1_draftDish, 6, none, T_X1_draftDish, 5, false), (yX1_draftGuest, cX1_draftGuest, 4, none, T_X1_draftGuest, 3, false), (yX1_takeIn, cX1_takeIn, 5, none, T_X1_takeIn, 2, false), (yX1_price, cX1_price, 3, none, T_X1_price, 2, false), (yX1_costOfAll, cX1_costOfAll, 4, (some .int), T_X1_costOfAll, 1, false), (yX1_isHungry, cX1_isHungry, 3, (some .boolean), T_X1_isHungry, 2, false), (yX1_hungryAt, cX1_hungryAt, 4, (some .int), T_X1_hungryAt, 1, false), (yX1_barredTo, cX1_barredTo, 4, (some .int), T_X1_barredTo, 1, false), (yX1_barredToNobody, cX1_barredToNobody, 3, (some .int), T_X1_barredToNobody, 0, false), (yX1_hotDishes, cX1_hotDishes, 3, (some .int), T_X1_hotDishes, 0, false), (yX1_holdersOfSome, cX1_holdersOfSome, 5, (some .int), T_X1_holdersOfSome, 2, false), (yX1_sharing, cX1_sharing, 3, (some .int), T_X1_sharing, 2, false), (yX1_partOf, cX1_partOf, 6, (some .int), T_X1_partOf, 2, false), (yX2_allows, cX2_allows, 2, (some .boolean), T_X2_allows, 2, true), (yX2_share, cX2_share, 1, (some .int), T_X2_share, 0, false), (yX2_heat, cX2_heat, 1, (some .int), T_X2_heat, 0, false), (yX2_most, cX2_most, 2, (some .int), T_X2_most, 1, false), (yX2_change, cX2_change, 4, (some .int), T_X2_change, 2, false), (yX2_restock, cX2_restock, 4, (some .int), T_X2_restock, 2, false)]
def jIs_1 : List jIm := [(yX2_copy, cX2_copy, 2, none, T_X2_copy, 1, false), (yX2_useUp, cX2_useUp, 4, none, T_X2_useUp, 2, false), (yX2_refusal, cX2_refusal, 8, (some .int), T_X2_refusal, 4, false), (yX2_isAgainstHeat, cX2_isAgainstHeat, 5, (some .boolean), T_X2_isAgainstHeat, 4, false), (yX3_value, cX3_value, 4, (some .int), T_X3_value, 2, false), (yX3_setValue, cX3_setValue, 5, none, T_X3_setValue, 3, false), (yX3_countRows, cX3_countRows, 6, (some .long), T_X3_countRows, 2, false), (yX3_countOn, cX3_countOn, 5, none, T_X3_countOn, 2, false), (yX3_countWith, cX3_countWith, 5, (some .int), T_X3_countWith, 2, false), (yX3_mending, cX3_mending, 7, (some .int), T_X3_mending, 3, false), (yX3_fewestChanges, cX3_fewestChanges, 6, (some .int), T_X3_fewestChanges, 3, false), (yX3_changesWith, cX3_changesWith, 5, (some .int), T_X3_changesWith, 3, false), (yX3_tellMended, cX3_tellMended, 9, none, T_X3_tellMended, 3, false), (yX3_playBoth, cX3_playBoth, 8, (some .int), T_X3_playBoth, 2, false), (yX3_playGreedy, cX3_playGreedy, 8, (some .int), T_X3_playGreedy, 4, false), (yX3_worthToOther, cX3_worthToOther, 7, (some .int), T_X3_worthToOther, 3, false), (yX3_mostJoyful, cX3_mostJoyful, 5, (some .int), T_X3_mostJoyful, 1, false), (yX3_leastFor, cX3_leastFor, 5, (some .int), T_X3_leastFor, 2, false), (yX4_size, cX4_size, 1, (some .int), T_X4_size, 0, false), (yX4_at, cX4_at, 2, (some .int), T_X4_at, 1, false), (yX4_isKnown, cX4_isKnown, 2, (some .boolean), T_X4_isKnown, 0, false), (yX4_clear, cX4_clear, 1, none, T_X4_clear, 0, false), (yX4_addAll, cX4_addAll, 3, none, T_X4_addAll, 1, false), (yX4_read, cX4_read, 6, (some .int), T_X4_read, 2, false), (yX4_exchange, cX4_exchange, 4, (some .boolean), T_X4_exchange, 2, false), (yX4_reverse, cX4_reverse, 2, none, T_X4_reverse, 0, false), (yX4_put, cX4_put, 3, none, T_X4_put, 2, false), (yX4_fault, cX4_fault, 4, (some .int), T_X4_fault, 2, false), (yX4_whyAt, cX4_whyAt, 5, (some .int), T_X4_whyAt, 3, false), (yX4_setTill, cX4_setTill, 4, (some .int), T_X4_setTill, 1, false), (yX4_costTill, cX4_costTill, 5, (some .int), T_X4_costTill, 2, false), (yX4_hungryTill, cX4_hungryTill, 5, (some .int), T_X4_hungryTill, 2, false), (yX4_mostAtOnce, cX4_mostAtOnce, 7, (some .int), T_X4_mostAtOnce, 1, false), (yX4_cook, cX4_cook, 8, (some .int), T_X4_cook, 3, false), (yX4_placesEaten, cX4_placesEaten, 5, (some .int), T_X4_placesEaten, 2, false), (yX4_stuffsEaten, cX4_stuffsEaten, 5, (some .int), T_X4_stuffsEaten, 2, false), (yX5_begin, cX5_begin, 1, none, T_X5_begin, 0, false), (yX5_addLine, cX5_addLine, 1, none, T_X5_addLine, 0, false), (yX5_weigh, cX5_weigh, 3, none, T_X5_weigh, 2, false), (yX5_weighAll, cX5_weighAll, 4, none, T_X5_weighAll, 2, false)]
def jIs_2 : List jIm := [(yX5_endWith, cX5_endWith, 2, none, T_X5_endWith, 1, false), (yX5_limit, cX5_limit, 4, none, T_X5_limit, 2, false), (yX5_greatest, cX5_greatest, 6, (some .int), T_X5_greatest, 3, false), (yX5_seek, cX5_seek, 6, (some .int), T_X5_seek, 3, false), (yX5_isGoal, cX5_isGoal, 5, (some .boolean), T_X5_isGoal, 4, false), (yX5_worth, cX5_worth, 5, (some .int), T_X5_worth, 2, false), (yX5_sum, cX5_sum, 4, (some .int), T_X5_sum, 2, true), (yX5_lead, cX5_lead, 5, none, T_X5_lead, 1, false), (yX5_isMarked, cX5_isMarked, 3, (some .boolean), T_X5_isMarked, 2, false), (yX5_tell, cX5_tell, 8, none, T_X5_tell, 2, false), (yX5_possibleAt, cX5_possibleAt, 5, (some .int), T_X5_possibleAt, 2, false), (yX5_joiningStuffs, cX5_joiningStuffs, 7, (some .int), T_X5_joiningStuffs, 3, false), (yX5_findBeginnings, cX5_findBeginnings, 6, none, T_X5_findBeginnings, 1, false), (yX5_isHeatLost, cX5_isHeatLost, 3, (some .boolean), T_X5_isHeatLost, 3, true), (yX5_findGaps, cX5_findGaps, 6, none, T_X5_findGaps, 2, false), (yX5_joins, cX5_joins, 6, (some .boolean), T_X5_joins, 3, false), (yX6_read, cX6_read, 5, (some .int), T_X6_read, 2, false), (yX6_readLine, cX6_readLine, 4, (some .boolean), T_X6_readLine, 2, false), (yX6_readGuest, cX6_readGuest, 4, (some .boolean), T_X6_readGuest, 2, false), (yX6_readDish, cX6_readDish, 7, (some .boolean), T_X6_readDish, 2, false), (yX6_readDigit, cX6_readDigit, 3, (some .int), T_X6_readDigit, 1, false), (yX6_readStuffs, cX6_readStuffs, 5, (some .int), T_X6_readStuffs, 1, false), (yX7_size, cX7_size, 1, (some .int), T_X7_size, 0, false), (yX7_at, cX7_at, 2, (some .int), T_X7_at, 1, false), (yX7_clear, cX7_clear, 1, none, T_X7_clear, 0, false), (yX7_add, cX7_add, 2, none, T_X7_add, 1, false), (yX8_learn, cX8_learn, 4, none, T_X8_learn, 2, false), (yX8_isStocked, cX8_isStocked, 3, (some .boolean), T_X8_isStocked, 1, false), (yX8_begin, cX8_begin, 4, none, T_X8_begin, 3, false), (yX8_allow, cX8_allow, 3, none, T_X8_allow, 2, false), (yX8_dishes, cX8_dishes, 1, (some .int), T_X8_dishes, 0, false), (yX8_sets, cX8_sets, 1, (some .int), T_X8_sets, 0, false), (yX8_from, cX8_from, 1, (some .int), T_X8_from, 0, false), (yX8_start, cX8_start, 1, (some .int), T_X8_start, 0, false), (yX8_hot, cX8_hot, 1, (some .int), T_X8_hot, 0, false), (yX8_isHotToStay, cX8_isHotToStay, 1, (some .boolean), T_X8_isHotToStay, 0, false), (yX8_near, cX8_near, 2, (some .int), T_X8_near, 1, false), (yX8_fits, cX8_fits, 2, (some .boolean), T_X8_fits, 1, false), (yX8_ends, cX8_ends, 2, (some .int), T_X8_ends, 1, false), (yX8_more, cX8_more, 2, (some .int), T_X8_more, 1, false)]
def jIs_3 : List jIm := [(yX8_open, cX8_open, 6, (some .int), T_X8_open, 1, false), (yX8_reach, cX8_reach, 4, none, T_X8_reach, 0, false), (yX8_inSetsAbove, cX8_inSetsAbove, 4, (some .int), T_X8_inSetsAbove, 1, false), (yX9_read, cX9_read, 2, (some .int), T_X9_read, 1, false), (yX9_readExpression, cX9_readExpression, 4, (some .boolean), T_X9_readExpression, 2, false), (yX9_readSum, cX9_readSum, 6, (some .boolean), T_X9_readSum, 2, false), (yX9_readProduct, cX9_readProduct, 6, (some .boolean), T_X9_readProduct, 2, false), (yX9_readFactor, cX9_readFactor, 5, (some .boolean), T_X9_readFactor, 2, false), (yX9_readThing, cX9_readThing, 4, (some .boolean), T_X9_readThing, 2, false), (yX9_readBracket, cX9_readBracket, 3, (some .boolean), T_X9_readBracket, 2, false), (yX9_readNumber, cX9_readNumber, 4, none, T_X9_readNumber, 1, false), (yX9_isQuality, cX9_isQuality, 1, (some .boolean), T_X9_isQuality, 1, true), (yX9_emit, cX9_emit, 2, none, T_X9_emit, 1, false), (yX9_of, cX9_of, 7, (some .int), T_X9_of, 3, false), (yX9_ofAll, cX9_ofAll, 5, (some .int), T_X9_ofAll, 2, false), (yX9_push, cX9_push, 2, none, T_X9_push, 1, false), (yX9_pop, cX9_pop, 1, (some .int), T_X9_pop, 0, false), (yX9_quality, cX9_quality, 5, (some .int), T_X9_quality, 4, true), (yX9_result, cX9_result, 3, (some .int), T_X9_result, 3, true), (yX10_length, cX10_length, 1, (some .int), T_X10_length, 0, false), (yX10_append, cX10_append, 3, (some .boolean), T_X10_append, 1, false), (yX10_cutTo, cX10_cutTo, 2, (some .boolean), T_X10_cutTo, 1, false), (yX10_clear, cX10_clear, 1, none, T_X10_clear, 0, false), (yX10_at, cX10_at, 3, (some .int), T_X10_at, 2, false), (yX10_hasDigit, cX10_hasDigit, 4, (some .boolean), T_X10_hasDigit, 2, false), (yX11_sign, cX11_sign, 2, (some .int), T_X11_sign, 1, false), (yX11_end, cX11_end, 2, (some .boolean), T_X11_end, 1, false), (yX11_kitchen, cX11_kitchen, 2, (some .int), T_X11_kitchen, 0, false), (yX11_rule, cX11_rule, 2, (some .int), T_X11_rule, 0, false), (yX11_dish, cX11_dish, 3, (some .int), T_X11_dish, 2, false), (yX11_guest, cX11_guest, 3, (some .int), T_X11_guest, 2, false), (yX11_joy, cX11_joy, 3, (some .int), T_X11_joy, 2, false), (yX11_law, cX11_law, 3, (some .int), T_X11_law, 2, false), (yX11_store, cX11_store, 4, (some .int), T_X11_store, 2, false), (yX11_sheet, cX11_sheet, 8, (some .int), T_X11_sheet, 4, false), (yX11_asEntry, cX11_asEntry, 3, (some .int), T_X11_asEntry, 2, true), (yX11_serve, cX11_serve, 3, (some .int), T_X11_serve, 1, false), (yX11_back, cX11_back, 1, (some .int), T_X11_back, 0, false), (yX11_over, cX11_over, 2, (some .int), T_X11_over, 0, false), (yX11_can, cX11_can, 3, (some .int), T_X11_can, 0, false)]
def jIs_4 : List jIm := [(yX11_menu, cX11_menu, 3, (some .int), T_X11_menu, 1, false), (yX11_look, cX11_look, 5, (some .int), T_X11_look, 1, false), (yX11_swap, cX11_swap, 4, (some .boolean), T_X11_swap, 3, false), (yX11_turn, cX11_turn, 2, (some .boolean), T_X11_turn, 1, false), (yX11_joined, cX11_joined, 4, (some .int), T_X11_joined, 2, false), (yX11_falls, cX11_falls, 6, (some .int), T_X11_falls, 3, false), (yX11_isLaid, cX11_isLaid, 2, (some .boolean), T_X11_isLaid, 1, false), (yX11_isWhole, cX11_isWhole, 2, (some .boolean), T_X11_isWhole, 1, false), (yX11_longest, cX11_longest, 1, (some .int), T_X11_longest, 0, false), (yX11_ways, cX11_ways, 2, (some .long), T_X11_ways, 1, false), (yX11_between, cX11_between, 3, (some .int), T_X11_between, 2, false), (yX11_shortest, cX11_shortest, 3, (some .int), T_X11_shortest, 2, false), (yX11_bears, cX11_bears, 2, (some .int), T_X11_bears, 1, false), (yX11_beside, cX11_beside, 2, (some .int), T_X11_beside, 1, false), (yX11_parts, cX11_parts, 4, (some .int), T_X11_parts, 0, false), (yX11_rare, cX11_rare, 5, (some .int), T_X11_rare, 0, false), (yX11_round, cX11_round, 5, (some .int), T_X11_round, 0, false), (yX11_shut, cX11_shut, 2, (some .int), T_X11_shut, 1, false), (yX11_goOn, cX11_goOn, 2, none, T_X11_goOn, 1, false), (yX11_beginAnew, cX11_beginAnew, 2, none, T_X11_beginAnew, 1, false), (yX11_tellMost, cX11_tellMost, 1, (some .int), T_X11_tellMost, 0, false), (yX11_tellBetween, cX11_tellBetween, 4, (some .int), T_X11_tellBetween, 3, false), (yX11_goRound, cX11_goRound, 2, none, T_X11_goRound, 1, false), (yX11_best, cX11_best, 4, (some .int), T_X11_best, 2, false), (yX11_fair, cX11_fair, 5, (some .int), T_X11_fair, 2, false), (yX11_cheap, cX11_cheap, 2, (some .int), T_X11_cheap, 1, false), (yX11_dear, cX11_dear, 2, (some .int), T_X11_dear, 1, false), (yX11_tellJoy, cX11_tellJoy, 4, (some .int), T_X11_tellJoy, 2, false), (yX11_tellCost, cX11_tellCost, 5, (some .int), T_X11_tellCost, 3, false), (yX11_game, cX11_game, 1, (some .int), T_X11_game, 0, false), (yX11_greedy, cX11_greedy, 1, (some .int), T_X11_greedy, 0, false), (yX11_mend, cX11_mend, 3, (some .int), T_X11_mend, 2, false), (yX11_fills, cX11_fills, 3, (some .long), T_X11_fills, 1, false), (yX11_sure, cX11_sure, 5, (some .int), T_X11_sure, 2, false), (yX11_layFilled, cX11_layFilled, 3, none, T_X11_layFilled, 1, false), (yX11_hearths, cX11_hearths, 4, (some .int), T_X11_hearths, 1, false), (yX11_late, cX11_late, 3, (some .int), T_X11_late, 2, false), (yX11_poison, cX11_poison, 6, (some .int), T_X11_poison, 2, false), (yX11_eats, cX11_eats, 7, (some .int), T_X11_eats, 2, false), (yX11_made, cX11_made, 2, (some .int), T_X11_made, 0, false)]
def jIs_5 : List jIm := [(yX11_keep, cX11_keep, 2, (some .boolean), T_X11_keep, 1, false), (yX11_again, cX11_again, 2, (some .boolean), T_X11_again, 1, false), (yX11_count, cX11_count, 2, (some .int), T_X11_count, 1, false), (yX11_row, cX11_row, 2, (some .int), T_X11_row, 1, false), (yX11_menusLaid, cX11_menusLaid, 3, (some .int), T_X11_menusLaid, 0, false), (yX12_thrown, cX12_thrown, 1, (some .int), T_X12_thrown, 0, false), (yX12_in, cX12_in, 3, (some .boolean), T_X12_in, 3, true), (yX12_has, cX12_has, 2, (some .boolean), T_X12_has, 2, true), (yX12_lost, cX12_lost, 1, (some .int), T_X12_lost, 0, false), (yX12_tell, cX12_tell, 2, none, T_X12_tell, 1, false), (yX12_isDish, cX12_isDish, 2, (some .boolean), T_X12_isDish, 1, false), (yX12_isGuest, cX12_isGuest, 2, (some .boolean), T_X12_isGuest, 1, false), (yX12_sign, cX12_sign, 3, (some .int), T_X12_sign, 1, false), (yX12_end, cX12_end, 2, (some .boolean), T_X12_end, 1, false), (yX12_begin, cX12_begin, 4, none, T_X12_begin, 3, false), (yX12_here, cX12_here, 1, (some .int), T_X12_here, 0, false), (yX12_fine, cX12_fine, 1, (some .boolean), T_X12_fine, 0, false), (yX12_fault, cX12_fault, 2, none, T_X12_fault, 1, false), (yX12_passes, cX12_passes, 2, (some .boolean), T_X12_passes, 1, false), (yX12_number, cX12_number, 4, (some .int), T_X12_number, 1, false), (yX12_letters, cX12_letters, 5, (some .int), T_X12_letters, 1, false), (yX12_kitchen, cX12_kitchen, 5, (some .int), T_X12_kitchen, 0, false), (yX12_readGuest, cX12_readGuest, 2, none, T_X12_readGuest, 1, false), (yX12_held, cX12_held, 3, (some .int), T_X12_held, 1, false), (yX12_sum, cX12_sum, 5, (some .int), T_X12_sum, 1, false), (yX12_product, cX12_product, 5, (some .int), T_X12_product, 1, false), (yX12_thing, cX12_thing, 4, (some .int), T_X12_thing, 1, false), (yX12_letter, cX12_letter, 3, (some .int), T_X12_letter, 1, false), (yX12_rule, cX12_rule, 3, (some .int), T_X12_rule, 0, false), (yX12_joyOf, cX12_joyOf, 3, (some .int), T_X12_joyOf, 2, false), (yX12_joyOfAll, cX12_joyOfAll, 4, (some .int), T_X12_joyOfAll, 1, false), (yX12_isHungry, cX12_isHungry, 3, (some .boolean), T_X12_isHungry, 2, false), (yX12_dish, cX12_dish, 5, (some .int), T_X12_dish, 2, false), (yX12_guest, cX12_guest, 3, (some .int), T_X12_guest, 2, false), (yX12_joy, cX12_joy, 3, (some .int), T_X12_joy, 2, false), (yX12_isLaw, cX12_isLaw, 2, (some .boolean), T_X12_isLaw, 2, true), (yX12_law, cX12_law, 4, (some .int), T_X12_law, 2, false), (yX12_store, cX12_store, 4, (some .int), T_X12_store, 2, false), (yX12_sheet, cX12_sheet, 9, (some .int), T_X12_sheet, 4, false), (yX12_shared, cX12_shared, 3, (some .int), T_X12_shared, 2, false)]
def jIs_6 : List jIm := [(yX12_hasHot, cX12_hasHot, 3, (some .boolean), T_X12_hasHot, 1, false), (yX12_fits, cX12_fits, 7, (some .boolean), T_X12_fits, 3, false), (yX12_refusal, cX12_refusal, 4, (some .int), T_X12_refusal, 3, false), (yX12_servedSet, cX12_servedSet, 3, (some .int), T_X12_servedSet, 0, false), (yX12_servedLast, cX12_servedLast, 1, (some .int), T_X12_servedLast, 0, false), (yX12_serve, cX12_serve, 3, (some .int), T_X12_serve, 1, false), (yX12_back, cX12_back, 1, (some .int), T_X12_back, 0, false), (yX12_over, cX12_over, 3, (some .int), T_X12_over, 0, false), (yX12_can, cX12_can, 3, (some .int), T_X12_can, 0, false), (yX12_menu, cX12_menu, 3, (some .int), T_X12_menu, 1, false), (yX12_isMenu, cX12_isMenu, 2, (some .boolean), T_X12_isMenu, 1, false), (yX12_isWhole, cX12_isWhole, 3, (some .boolean), T_X12_isWhole, 1, false), (yX12_lookOn, cX12_lookOn, 5, (some .int), T_X12_lookOn, 1, false), (yX12_lookFromNothing, cX12_lookFromNothing, 1, none, T_X12_lookFromNothing, 0, false), (yX12_look, cX12_look, 3, (some .int), T_X12_look, 1, false), (yX12_swap, cX12_swap, 5, (some .boolean), T_X12_swap, 3, false), (yX12_turn, cX12_turn, 5, (some .boolean), T_X12_turn, 1, false), (yX12_joined, cX12_joined, 4, (some .int), T_X12_joined, 2, false), (yX12_isLawful, cX12_isLawful, 2, (some .boolean), T_X12_isLawful, 1, false), (yX12_falls, cX12_falls, 9, (some .int), T_X12_falls, 3, false), (yX12_place, cX12_place, 2, (some .int), T_X12_place, 2, true), (yX12_all, cX12_all, 1, (some .int), T_X12_all, 0, false), (yX12_may, cX12_may, 4, (some .boolean), T_X12_may, 3, false), (yX12_isState, cX12_isState, 2, (some .boolean), T_X12_isState, 2, true), (yX12_noEnds, cX12_noEnds, 2, none, T_X12_noEnds, 0, false), (yX12_findEnds, cX12_findEnds, 6, none, T_X12_findEnds, 1, false), (yX12_tellWay, cX12_tellWay, 7, none, T_X12_tellWay, 3, false), (yX12_findRows, cX12_findRows, 9, none, T_X12_findRows, 3, false), (yX12_longestBy, cX12_longestBy, 7, (some .int), T_X12_longestBy, 1, false), (yX12_longest, cX12_longest, 1, (some .int), T_X12_longest, 0, false), (yX12_ways, cX12_ways, 6, (some .long), T_X12_ways, 1, false), (yX12_tellFrom, cX12_tellFrom, 3, (some .boolean), T_X12_tellFrom, 2, false), (yX12_betweenBy, cX12_betweenBy, 7, (some .int), T_X12_betweenBy, 3, false), (yX12_between, cX12_between, 3, (some .int), T_X12_between, 2, false), (yX12_shortest, cX12_shortest, 3, (some .int), T_X12_shortest, 2, false), (yX12_bears, cX12_bears, 4, (some .int), T_X12_bears, 1, false), (yX12_besides, cX12_besides, 4, (some .int), T_X12_besides, 1, false), (yX12_beside, cX12_beside, 2, (some .int), T_X12_beside, 1, false), (yX12_parts, cX12_parts, 6, (some .int), T_X12_parts, 0, false), (yX12_rare, cX12_rare, 6, (some .int), T_X12_rare, 0, false)]
def jIs_7 : List jIm := [(yX12_round, cX12_round, 5, (some .int), T_X12_round, 0, false), (yX12_shut, cX12_shut, 5, (some .int), T_X12_shut, 1, false), (yX12_joyIn, cX12_joyIn, 5, (some .int), T_X12_joyIn, 2, false), (yX12_costIn, cX12_costIn, 4, (some .int), T_X12_costIn, 1, false), (yX12_scoreOf, cX12_scoreOf, 7, (some .int), T_X12_scoreOf, 2, false), (yX12_findBest, cX12_findBest, 10, (some .boolean), T_X12_findBest, 4, false), (yX12_tellBest, cX12_tellBest, 4, (some .int), T_X12_tellBest, 3, false), (yX12_best, cX12_best, 3, (some .int), T_X12_best, 2, false), (yX12_fair, cX12_fair, 3, (some .int), T_X12_fair, 2, false), (yX12_tellCost, cX12_tellCost, 4, (some .int), T_X12_tellCost, 3, false), (yX12_cheap, cX12_cheap, 6, (some .int), T_X12_cheap, 1, false), (yX12_dear, cX12_dear, 2, (some .int), T_X12_dear, 1, false), (yX12_findGame, cX12_findGame, 3, none, T_X12_findGame, 0, false), (yX12_findTurn, cX12_findTurn, 8, none, T_X12_findTurn, 2, false), (yX12_game, cX12_game, 2, (some .int), T_X12_game, 0, false), (yX12_findGreedy, cX12_findGreedy, 13, none, T_X12_findGreedy, 2, false), (yX12_greedy, cX12_greedy, 3, (some .int), T_X12_greedy, 0, false), (yX12_menuAt, cX12_menuAt, 3, (some .int), T_X12_menuAt, 2, false), (yX12_mend, cX12_mend, 9, (some .int), T_X12_mend, 2, false), (yX12_tellMended, cX12_tellMended, 6, none, T_X12_tellMended, 2, false), (yX12_findFills, cX12_findFills, 8, (some .long), T_X12_findFills, 1, false), (yX12_isAsked, cX12_isAsked, 5, (some .boolean), T_X12_isAsked, 3, false), (yX12_fills, cX12_fills, 7, (some .long), T_X12_fills, 1, false), (yX12_sure, cX12_sure, 8, (some .int), T_X12_sure, 2, false), (yX12_hearths, cX12_hearths, 6, (some .int), T_X12_hearths, 1, false), (yX12_late, cX12_late, 7, (some .int), T_X12_late, 2, false), (yX12_ateOf, cX12_ateOf, 5, (some .int), T_X12_ateOf, 2, false), (yX12_poison, cX12_poison, 5, (some .int), T_X12_poison, 2, false), (yX12_eats, cX12_eats, 8, (some .int), T_X12_eats, 2, false), (yX12_canAll, cX12_canAll, 8, (some .boolean), T_X12_canAll, 1, false), (yX12_made, cX12_made, 3, (some .int), T_X12_made, 0, false), (yX12_keep, cX12_keep, 4, (some .boolean), T_X12_keep, 1, false), (yX12_again, cX12_again, 4, (some .boolean), T_X12_again, 1, false), (yX12_count, cX12_count, 4, (some .int), T_X12_count, 1, false), (yX12_row, cX12_row, 2, (some .int), T_X12_row, 1, false)]
def jIs : List jIm := jIs_0 ++ (jIs_1 ++ (jIs_2 ++ (jIs_3 ++ (jIs_4 ++ (jIs_5 ++ (jIs_6 ++ (jIs_7)))))))
set_option maxRecDepth 100000 in
theorem jIs_Ms : jMs = jIs.map (fun q => (q.2.2.2.2.1, q.2.2.1)) := rfl
def jpc : List jIn → Nat
  | (_, _, _, _, _, pc) :: _ => pc
  | [] => 1000000
def jtg (T : jT) (is : List jIn) (a b : Nat) : Nat := bif Nat.beq a 0 then jpc (is.drop b) else jpc (jcode T b)
def jlok (T : jT) (nL L : Nat) : Bool := decide ((T.2.getD L ([], 0)).1.length = nL)
def jsel (D x : Int) : List (Int × Int) → Int
  | [] => D
  | q :: l => if x = q.1 then q.2 else jsel D x l
theorem jsw_sel (k : Int → Option jO) (f : Int → Int) (d x : Int) : ∀ l : List (Int × Int), ∃ t, jsw k d x l = k t ∧ f t = jsel (f d) x (l.map fun q => (q.1, f q.2))
  | [] => ⟨d, rfl, rfl⟩
  | q :: l => by
    obtain ⟨t, h1, h2⟩ := jsw_sel k f d x l
    show ∃ t, (if x = q.1 then k q.2 else jsw k d x l) = k t ∧ f t = if x = q.1 then f q.2 else jsel (f d) x (l.map fun q => (q.1, f q.2))
    by_cases h : x = q.1
    · rw [if_pos h, if_pos h]
      exact ⟨_, rfl, rfl⟩
    · rw [if_neg h, if_neg h]
      exact ⟨t, h1, h2⟩
theorem jsel_look (pc d x : Int) : ∀ l : List (Int × Int), pc + Op.lookupswitch.offset l d x = jsel (pc + d) x (l.map fun q => (q.1, pc + q.2))
  | [] => rfl
  | q :: l => by
    obtain ⟨a, o⟩ := q
    rw [Op.lookupswitch.offset_cons]
    show pc + (if a = x then o else Op.lookupswitch.offset l d x) = if x = a then pc + o else jsel (pc + d) x (l.map fun q => (q.1, pc + q.2))
    by_cases h : x = a
    · rw [if_pos h.symm, if_pos h]
    · rw [if_neg (fun z => h z.symm), if_neg h]
      exact jsel_look pc d x l
theorem jsel_app (D x : Int) : ∀ A B : List (Int × Int), jsel D x (A ++ B) = jsel (jsel D x B) x A
  | [], B => rfl
  | q :: l, B => by
    show (if x = q.1 then q.2 else jsel D x (l ++ B)) = if x = q.1 then q.2 else jsel (jsel D x B) x l
    rw [jsel_app D x l B]
theorem jsel_tab (lo x : Int) (g : Nat → Int) : ∀ (n : Nat) (D : Int), jsel D x ((List.range n).map (fun j : Nat => (lo + (j : Int), g j))) = if lo ≤ x ∧ x < lo + n then g (x - lo).toNat else D
  | 0, D => by
    rw [if_neg (by omega)]
    rfl
  | n + 1, D => by
    rw [List.range_succ, List.map_append, jsel_app, jsel_tab lo x g n]
    show (if lo ≤ x ∧ x < lo + n then g (x - lo).toNat else if x = lo + (n : Int) then g n else D) = _
    by_cases h : lo ≤ x ∧ x < lo + n
    · rw [if_pos h, if_pos (by omega)]
    · rw [if_neg h]
      by_cases h2 : x = lo + (n : Int)
      · rw [if_pos h2, if_pos (by omega)]
        have e : (x - lo).toNat = n := by omega
        rw [e]
      · rw [if_neg h2, if_neg (by omega)]
def jrc : Option FieldType → Nat
  | none => 0
  | some .long => 2
  | some _ => 1
/-- is an entry what stands there: of control and calls too -/
def jck (own : String) (cc : ByteArray) (nL : Nat) (ret : Option FieldType) (T : jT) : jIn → List jIn → Bool
  | (i, a, b, c, _, pc), is => match i with
    | .nop => decide (jpc (jcode T a) = pc) && jlok T nL a
    | .athrow => true
    | _ => match decode cc pc with
      | .error _ => false
      | .ok (raw, len) => match i with
        | .goto _ => (match raw with
          | .goto off => decide (len = 3 ∧ (pc : Int) + off = (jtg T is a b : Nat)) && (Nat.beq a 0 || jlok T nL b)
          | _ => false)
        | .ifCond q _ => (match raw with
          | .ifCond q' off => decide (q' = q ∧ len = 3 ∧ (pc : Int) + off = (jtg T is a b : Nat) ∧ jpc is = pc + 3) && (Nat.beq a 0 || jlok T nL b)
          | _ => false)
        | .if_icmp q _ => (match raw with
          | .if_icmp q' off => decide (q' = q ∧ len = 3 ∧ (pc : Int) + off = (jtg T is a b : Nat) ∧ jpc is = pc + 3) && (Nat.beq a 0 || jlok T nL b)
          | _ => false)
        | .lookupswitch d ps => (match raw with
          | .lookupswitch d' ps' => decide ((pc : Int) + d' = (jpc (is.drop d.toNat) : Nat)) && decide (ps'.toList.map (fun q => (q.1, (pc : Int) + q.2)) = ps.toList.map (fun q => (q.1, ((jpc (is.drop q.2.toNat) : Nat) : Int)))) && ((ps'.toList.zip (ps'.toList.drop 1)).all (fun (a, next) => a.1 < next.1))
          | .tableswitch d' lo hi offs => decide ((pc : Int) + d' = (jpc (is.drop d.toNat) : Nat) ∧ hi = lo + offs.size - 1) && decide ((List.range offs.size).map (fun j : Nat => (lo + (j : Int), (pc : Int) + (offs.toList.getD j 0))) = ps.toList.map (fun q => (q.1, ((jpc (is.drop q.2.toNat) : Nat) : Int))))
          | _ => false)
        | .invokevirtual y => (match raw with
          | .invokevirtual _ => (match jIs[y]? with
            | some q => decide (len = 3 ∧ jpc is = pc + 3 ∧ q.2.2.2.2.2.2 = false ∧ a = q.2.2.2.2.2.1 + 1 ∧ b = jrc q.2.2.2.1) && (match vwCl[c]? with
              | some r => decide (r.1 = q.1.cls)
              | none => false)
            | none => false)
          | _ => false)
        | .invokestatic y => (match raw with
          | .invokestatic _ => (match jIs[y]? with
            | some q => decide (len = 3 ∧ jpc is = pc + 3 ∧ q.2.2.2.2.2.2 = true ∧ a = q.2.2.2.2.2.1 ∧ b = jrc q.2.2.2.1)
            | none => false)
          | _ => false)
        | .ireturn => decide (raw = .ireturn ∧ len = 1 ∧ (a = 0 ∧ ret = some .int ∨ a = 1 ∧ ret = some .boolean))
        | .lreturn => decide (raw = .lreturn ∧ len = 1 ∧ ret = some .long)
        | .return_ => decide (raw = .return_ ∧ len = 1 ∧ ret = none)
        | i => jmt nL i a b raw len && decide (jpc is = pc + len)
def jcks (own : String) (cc : ByteArray) (nL : Nat) (ret : Option FieldType) (T : jT) : List jIn → Bool
  | [] => true
  | e :: is => jck own cc nL ret T e is && jcks own cc nL ret T is
/-- the words that code needs, each with its place among the tables' -/
def jwc (own : String) (cc : ByteArray) (e : jIn) : List Jvm.Cond := match e with
  | (i, a, b, _, _, pc) => match i with
    | .nop => []
    | .athrow => []
    | _ => match decode cc pc with
      | .error _ => []
      | .ok (raw, _) => match i with
        | .invokevirtual y => (match raw, jIs[y]? with
          | .invokevirtual n, some q => [.methodLink own n q.1]
          | _, _ => [])
        | .invokestatic y => (match raw, jIs[y]? with
          | .invokestatic n, some q => [.methodLink own n q.1]
          | _, _ => [])
        | i => jwd own i a b raw
theorem jcks_drop {own : String} {cc : ByteArray} {nL : Nat} {ret : Option FieldType} {T : jT} : ∀ {is : List jIn} (k : Nat), jcks own cc nL ret T is = true → jcks own cc nL ret T (is.drop k) = true
  | [], k, _ => by simp [jcks]
  | _ :: _, 0, h => h
  | e :: is, k + 1, h => by
    have h : (jck own cc nL ret T e is && jcks own cc nL ret T is) = true := h
    rw [Bool.and_eq_true] at h
    exact jcks_drop (is := is) k h.2
def jokO (o : jO) : Prop := jokM o.2 ∧ ∀ v, o.1 = some (some v) → jok v
def jQ (D : va_G) (cA : Nat → ClassId) (ad : Nat → Nat) (o : jO) : Array Value → State → Outcome → State → Prop := fun _ st oc t => oc = .returned ((o.1.getD none).map (jemb ad)) ∧ va_P D vwCl (jws cA ad o.2) t.heap ∧ va_F (jA ad) st t ∧ jokO o
def jPre (D : va_G) (cA : Nat → ClassId) (ad : Nat → Nat) (μ : jM) : State → Prop := fun U => va_P D vwCl (jws cA ad μ) U.heap ∧ va_K D vwCl (jtys cA) U
def jWs (q : jIm) : List Jvm.Cond := .code q.1 q.2.1 q.2.2.1 q.2.2.2.1 :: jTs
def jRm (d : Nat) : Room := { frames := d, cells := 0, slots := 0, locals := 70 * d }
def jar (q : jIm) : Nat := bif q.2.2.2.2.2.2 then q.2.2.2.2.2.1 else q.2.2.2.2.2.1 + 1
/-- a method's own facts -/
def jMok (q : jIm) : Prop := plainName q.1.cls = true ∧ jcks q.1.cls q.2.1 q.2.2.1 q.2.2.2.1 q.2.2.2.2.1 q.2.2.2.2.1.1 = true ∧ (∀ e ∈ q.2.2.2.2.1.1, ∀ x ∈ jwc q.1.cls q.2.1 e, x ∈ jTs) ∧ q.2.2.1 ≤ 40 ∧ jpc (jcode q.2.2.2.2.1 0) = 0 ∧ (Cond.code q.1 q.2.1 q.2.2.1 q.2.2.2.1 ∈ jTs) ∧ (Cond.initialized q.1.cls ∈ jTs) ∧ (q.2.2.2.2.2.2 = false → Cond.instanceMethod q.1 ∈ jTs ∧ Cond.selects q.1.cls q.1 q.1 ∈ jTs) ∧ (q.2.2.2.2.2.2 = true → Cond.static q.1 ∈ jTs) ∧ (q.1.cls ≠ "java/lang/invoke/MethodHandle" ∧ q.1.cls ≠ "java/lang/invoke/VarHandle" ∧ (parseMethodDescriptor q.1.desc).map (fun d => d.parameters.length) = some q.2.2.2.2.2.1)
def jMet (l : Launch) (D : va_G) (cA : Nat → ClassId) (ad : Nat → Nat) (d : Nat) : Prop := ∀ (n : Nat) (q : jIm) (as : jSt) (μ : jM) (o : jO), jIs[n]? = some q → CL d n as μ = some o → o.1 ≠ none → as.length = jar q → jokS as → jokM μ → Met l q.1 (jWs q) (jRm d) (va_Pc (as.map (jemb ad)) (jPre D cA ad μ)) (jQ D cA ad o) 0 0 (jA ad)
section FL
variable {p : Program} {l : Launch} {e : Env} {R : Room} {s : State} {m : MethodId} {args : Array Value} {below : List Frame} {meth : Method} {c : Code} {Q : State → Prop} {cc : ByteArray} {own : String} {nL : Nat} {D : va_G} {cA : Nat → ClassId} {ad : Nat → Nat}
theorem j_callW {pc : Nat} {ls : Array Slot} {st0 rest : List Value} {a : Array Value} {H : Heap} {locs : List Loc} {o : jO} (hr : va_Run p l e R s m args below meth c H locs 0 0 0 0 (F0 m pc ls st0) rest (jQ D cA ad o a) (jA ad)) (hS : va_S (jA ad) s.heap H locs)
    (kk : ∀ (H1 : Heap) (locs1 : List Loc), jokO o → va_P D vwCl (jws cA ad o.2) H1 → va_S (jA ad) s.heap H1 locs1 → W p l e R s m args below meth c H1 locs1 0 0 Q (F0 m (pc + 3) ls (((o.1.getD none).map (jemb ad)).toList ++ rest))) : W p l e R s m args below meth c H locs 0 0 Q (F0 m pc ls st0) := by
  intro T hT X
  obtain ⟨v, st₀, t, T', L, h0, X', hL, e1, e2, ⟨hv, hP, ⟨hz, hk⟩, hok⟩, st⟩ := hr T hT X
  cases hv
  rw [h0] at hz hk
  obtain ⟨t2, a1, b1⟩ := kk T'.heap (locs ++ L) hok (by rw [e1]; exact hP) ⟨Nat.le_trans hS.1 (by rw [e1]; exact hz), fun q h1 h2 => by rw [e1, hk q (Nat.lt_of_lt_of_le h1 hS.1) h2]; exact hS.2.1 q h1 h2, fun q hq => by
      rcases List.mem_append.mp hq with h | h
      · exact hS.2.2 q h
      · exact hL q h⟩ T' rfl X'
  exact ⟨t2, st t2 a1, b1⟩
theorem jPre_blind {μ : jM} {av : List Value} : FrameBlind (va_Pc av (jPre D cA ad μ)) := fun a U g mk q => by
  obtain ⟨q0, qP, qK⟩ := q
  exact ⟨q0, qP, va_K.moved (u := U) (U := U.calling g mk a) (Vm.Alike.refl U.vm) qK⟩
theorem j_recv {μ : jM} {H : Heap} {k ci : Nat} {r : vw_C} (hK : va_K D vwCl (jtys cA) s) (hP : va_P D vwCl (jws cA ad μ) H) (hc : vwCl[ci]? = some r) (hk : k < 100) (hq : KD k = ci) : ∃ cell : Cell, H[ad k]? = some cell ∧ cell.vm.isStatics = false ∧ s.vm.findClass r.1 = some cell.cls := by
  have hl : ci < 13 := by
    have := (List.getElem?_eq_some_iff.mp hc).1
    exact this
  have hat := jws_at cA ad μ hk
  rw [jce_o cA ad (μ k) (by omega : KD k < 20), hq] at hat
  exact va_recv hK hP hc hat
set_option maxHeartbeats 4000000 in
/-- a call of an instance method of ours -/
theorem j_virt {d : Nat} (hx : p.tables.exec = Jvm.exec) (hb : c.code = cc) (hml : c.maxLocals = nL) (hown : s.vm.findClass own = some m.cls) (hts : ∀ w ∈ jTs, w.before args s = true) (hK : va_K D vwCl (jtys cA) s) (hR : d + 1 ≤ R.frames) (hRl : 70 * (d + 1) ≤ R.locals) (hM : jMet l D cA ad d) (hIs : ∀ q ∈ jIs, jMok q)
    {n index pc k : Nat} {q : jIm} (hq : jIs[n]? = some q) (hst : q.2.2.2.2.2.2 = false) (hdec : decode cc pc = .ok (.invokevirtual index, 3)) (hlink : Cond.methodLink own index q.1 ∈ jTs) {as rest : jSt} {μ : jM} {o : jO} (hc : CL d n (jR k :: as) μ = some o) (hne : o.1 ≠ none) (hlen : as.length = q.2.2.2.2.2.1) {ci : Nat} {r : vw_C} (hci : vwCl[ci]? = some r) (hcn : r.1 = q.1.cls) (hkd : KD k = ci) {H : Heap} {locs : List Loc} {ls : Array Slot} (hoS : jokS (jR k :: as)) (hoM : jokM μ) (hP : va_P D vwCl (jws cA ad μ) H) (hls : ls.size = nL) (hcat : jcat rest ≤ 8) :
    va_Run p l e R s m args below meth c H locs 0 0 0 0 (F0 m pc ls (((jR k :: as).reverse ++ rest).map (jemb ad))) (rest.map (jemb ad)) (jQ D cA ad o (((jR k :: as).map (jemb ad))).toArray) (jA ad) := by
  obtain ⟨o1, o2, o3, o4, o5, o6, o7, o8, o9, o10⟩ := hIs q (List.mem_of_getElem? hq)
  obtain ⟨i1, i2⟩ := o8 hst
  have hk : k < 100 := jokS_h hoS
  have met := hM n q (jR k :: as) μ o hq hc hne (by unfold jar; rw [hst]; show as.length + 1 = _; rw [hlen]; rfl) hoS hoM
  have cw : CallW R s args own q.1.cls index q.1 q.2.1 q.2.2.1 q.2.2.2.1 (jWs q) (jRm d) 0 0 q.2.2.2.2.2.1 := by
    refine cwV (Ts := jTs) (ws' := jTs) q.2.2.2.2.2.1 hts (jTs_good ?_) rfl rfl rfl ⟨rfl, o10⟩ ⟨hR, by show 8 + (q.2.2.1 + 11) + 70 * d ≤ _; omega⟩
    intro x hx
    unfold wsV jWs at hx
    simp only [List.cons_append, List.nil_append, List.mem_cons] at hx
    rcases hx with rfl | rfl | rfl | rfl | rfl | hx
    · exact hlink
    · exact i1
    · exact i2
    · exact o7
    · exact o6
    · exact hx
  have hs : ((jR k :: as).reverse ++ rest).map (jemb ad) = (as.map (jemb ad)).reverse ++ .ref (ad k) :: rest.map (jemb ad) := by
    simp [jemb]
  rw [hs]
  exact va_runV (As := as.map (jemb ad)) (rest := rest.map (jemb ad)) (b := ad k) (C := q.1.cls) ⟨hx, hb, hml, hown, hts⟩ met cw ⟨jPre_blind, by rw [← hcn]; exact j_recv hK hP hci hk hkd, fun U hU hW => ⟨rfl, by rw [hU]; exact hP, va_K.moved hW.alike hK⟩⟩ rfl (by rw [List.length_map]; exact hlen) hls rfl (lv_room (by rw [jcat_cat]; exact hcat)) hdec ⟨Nat.zero_le _, Nat.zero_le _⟩
set_option maxHeartbeats 4000000 in
theorem j_stat {d : Nat} (hx : p.tables.exec = Jvm.exec) (hb : c.code = cc) (hml : c.maxLocals = nL) (hown : s.vm.findClass own = some m.cls) (hts : ∀ w ∈ jTs, w.before args s = true) (hK : va_K D vwCl (jtys cA) s) (hR : d + 1 ≤ R.frames) (hRl : 70 * (d + 1) ≤ R.locals) (hM : jMet l D cA ad d) (hIs : ∀ q ∈ jIs, jMok q)
    {n index pc : Nat} {q : jIm} (hq : jIs[n]? = some q) (hst : q.2.2.2.2.2.2 = true) (hdec : decode cc pc = .ok (.invokestatic index, 3)) (hlink : Cond.methodLink own index q.1 ∈ jTs) {as rest : jSt} {μ : jM} {o : jO} (hc : CL d n as μ = some o) (hne : o.1 ≠ none) (hlen : as.length = q.2.2.2.2.2.1) {H : Heap} {locs : List Loc} {ls : Array Slot} (hoS : jokS as) (hoM : jokM μ) (hP : va_P D vwCl (jws cA ad μ) H) (hls : ls.size = nL) (hcat : jcat rest ≤ 8) :
    va_Run p l e R s m args below meth c H locs 0 0 0 0 (F0 m pc ls ((as.reverse ++ rest).map (jemb ad))) (rest.map (jemb ad)) (jQ D cA ad o ((as.map (jemb ad))).toArray) (jA ad) := by
  obtain ⟨o1, o2, o3, o4, o5, o6, o7, o8, o9, o10⟩ := hIs q (List.mem_of_getElem? hq)
  have i1 := o9 hst
  have met := hM n q as μ o hq hc hne (by unfold jar; rw [hst, hlen]; rfl) hoS hoM
  have cb : CallB R s args own index q.1 q.2.1 q.2.2.1 q.2.2.2.1 (jWs q) (jRm d) 0 0 q.2.2.2.2.2.1 := callB_of (Ts := jTs) (ws' := jTs) q.2.2.2.2.2.1 hts (jTs_good (fun x hx => by
    unfold jWs at hx
    rcases List.mem_cons.mp hx with rfl | hx
    · exact o6
    · exact hx)) rfl rfl rfl (hts _ o7) (hts _ hlink) o10 ⟨hR, by show 8 + (q.2.2.1 + 11) + 70 * d ≤ _; omega⟩
  have hs : (as.reverse ++ rest).map (jemb ad) = (as.map (jemb ad)).reverse ++ rest.map (jemb ad) := by simp
  rw [hs]
  exact va_runS (As := as.map (jemb ad)) (rest := rest.map (jemb ad)) ⟨hx, hb, hml, hown, hts⟩ met ⟨cb, hts _ i1⟩ ⟨jPre_blind, fun U hU hW => ⟨rfl, by rw [hU]; exact hP, va_K.moved hW.alike hK⟩⟩ rfl (by rw [List.length_map]; exact hlen) hls rfl (lv_room (by rw [jcat_cat]; exact hcat)) hdec ⟨Nat.zero_le _, Nat.zero_le _⟩
end FL
