/-! ===== printed: the methods, the words of the tables ===== -/
abbrev mtJ0_charAt_5068e : MT := (yJ0_charAt_5068e, cJ0_charAt_5068e, 2, (some .char))
abbrev mtJ0_checkIndex_df160 : MT := (yJ0_checkIndex_df160, cJ0_checkIndex_df160, 2, none)
abbrev mtJ0_coder_7d493 : MT := (yJ0_coder_7d493, cJ0_coder_7d493, 1, (some .byte))
abbrev mtJ0_isLatin1_aae02 : MT := (yJ0_isLatin1_aae02, cJ0_isLatin1_aae02, 1, (some .boolean))
abbrev mtJ0_length_8abf5 : MT := (yJ0_length_8abf5, cJ0_length_8abf5, 1, (some .int))
abbrev mtJ1_charAt_3b067 : MT := (yJ1_charAt_3b067, cJ1_charAt_3b067, 2, (some .char))
abbrev mtJ2_charAt_3b067 : MT := (yJ2_charAt_3b067, cJ2_charAt_3b067, 2, (some .char))
abbrev mtJ2_checkIndex_2214a : MT := (yJ2_checkIndex_2214a, cJ2_checkIndex_2214a, 2, none)
abbrev mtJ2_getChar_3b067 : MT := (yJ2_getChar_3b067, cJ2_getChar_3b067, 2, (some .char))
abbrev mtJ2_length_9d52b : MT := (yJ2_length_9d52b, cJ2_length_9d52b, 1, (some .int))
abbrev mtJ3_checkIndex_8e157 : MT := (yJ3_checkIndex_8e157, cJ3_checkIndex_8e157, 3, (some .int))
abbrev mtJ7_copyOf_59c91 : MT := (yJ7_copyOf_59c91, cJ7_copyOf_59c91, 3, (some (.array .int)))
abbrev mtJ7_fill_53178 : MT := (yJ7_fill_53178, cJ7_fill_53178, 4, none)
abbrev mtJ7_fill_d0a16 : MT := (yJ7_fill_d0a16, cJ7_fill_d0a16, 5, none)
abbrev mtJ9_abs_0f7a4 : MT := (yJ9_abs_0f7a4, cJ9_abs_0f7a4, 1, (some .int))
abbrev mtJ9_max_7cf53 : MT := (yJ9_max_7cf53, cJ9_max_7cf53, 2, (some .int))
abbrev mtJ9_min_7cf53 : MT := (yJ9_min_7cf53, cJ9_min_7cf53, 2, (some .int))
abbrev mtL_law : MT := (yL_law, cL_law, 4, (some .boolean))
abbrev mtX0_become : MT := (yX0_become, cX0_become, 2, none)
abbrev mtX0_build : MT := (yX0_build, cX0_build, 2, none)
abbrev mtX0_hasMark : MT := (yX0_hasMark, cX0_hasMark, 2, (some .boolean))
abbrev mtX0_hasStep : MT := (yX0_hasStep, cX0_hasStep, 2, (some .boolean))
abbrev mtX0_highOf : MT := (yX0_highOf, cX0_highOf, 2, (some .int))
abbrev mtX0_init : MT := (yX0_init, cX0_init, 1, none)
abbrev mtX10_about : MT := (yX10_about, cX10_about, 2, (some .int))
abbrev mtX10_alike : MT := (yX10_alike, cX10_alike, 4, (some .int))
abbrev mtX10_average : MT := (yX10_average, cX10_average, 4, (some .int))
abbrev mtX10_back : MT := (yX10_back, cX10_back, 1, (some .int))
abbrev mtX10_begin : MT := (yX10_begin, cX10_begin, 4, (some .int))
abbrev mtX10_between : MT := (yX10_between, cX10_between, 3, (some .int))
abbrev mtX10_book : MT := (yX10_book, cX10_book, 3, (some .int))
abbrev mtX10_by : MT := (yX10_by, cX10_by, 2, (some .boolean))
abbrev mtX10_cell : MT := (yX10_cell, cX10_cell, 2, (some .int))
abbrev mtX10_copy : MT := (yX10_copy, cX10_copy, 2, none)
abbrev mtX10_cost : MT := (yX10_cost, cX10_cost, 6, (some .long))
abbrev mtX10_end : MT := (yX10_end, cX10_end, 2, (some .int))
abbrev mtX10_fault : MT := (yX10_fault, cX10_fault, 2, (some .int))
abbrev mtX10_feed : MT := (yX10_feed, cX10_feed, 6, (some .int))
abbrev mtX10_from : MT := (yX10_from, cX10_from, 4, (some .int))
abbrev mtX10_goes : MT := (yX10_goes, cX10_goes, 3, (some .int))
abbrev mtX10_height : MT := (yX10_height, cX10_height, 4, (some .boolean))
abbrev mtX10_house : MT := (yX10_house, cX10_house, 4, (some .int))
abbrev mtX10_image : MT := (yX10_image, cX10_image, 1, (some .int))
abbrev mtX10_init : MT := (yX10_init, cX10_init, 2, none)
abbrev mtX10_isSeed : MT := (yX10_isSeed, cX10_isSeed, 1, (some .boolean))
abbrev mtX10_lamp : MT := (yX10_lamp, cX10_lamp, 5, (some .int))
abbrev mtX10_laws : MT := (yX10_laws, cX10_laws, 1, (some .int))
abbrev mtX10_legs : MT := (yX10_legs, cX10_legs, 3, (some .int))
abbrev mtX10_mark : MT := (yX10_mark, cX10_mark, 4, (some .boolean))
abbrev mtX10_night : MT := (yX10_night, cX10_night, 3, (some .int))
abbrev mtX10_part : MT := (yX10_part, cX10_part, 12, (some .long))
abbrev mtX10_person : MT := (yX10_person, cX10_person, 4, (some .int))
abbrev mtX10_played : MT := (yX10_played, cX10_played, 3, (some .int))
abbrev mtX10_put : MT := (yX10_put, cX10_put, 3, none)
abbrev mtX10_rail : MT := (yX10_rail, cX10_rail, 3, (some .boolean))
abbrev mtX10_says : MT := (yX10_says, cX10_says, 6, (some .int))
abbrev mtX10_seed : MT := (yX10_seed, cX10_seed, 2, (some .boolean))
abbrev mtX10_seeded : MT := (yX10_seeded, cX10_seeded, 1, (some .int))
abbrev mtX10_seen : MT := (yX10_seen, cX10_seen, 5, (some .int))
abbrev mtX10_stair : MT := (yX10_stair, cX10_stair, 3, (some .boolean))
abbrev mtX10_step : MT := (yX10_step, cX10_step, 1, (some .int))
abbrev mtX10_stop : MT := (yX10_stop, cX10_stop, 1, (some .int))
abbrev mtX10_sure : MT := (yX10_sure, cX10_sure, 5, (some .long))
abbrev mtX10_tally : MT := (yX10_tally, cX10_tally, 3, (some .int))
abbrev mtX10_text : MT := (yX10_text, cX10_text, 2, (some .int))
abbrev mtX10_toe : MT := (yX10_toe, cX10_toe, 1, (some .int))
abbrev mtX10_trippers : MT := (yX10_trippers, cX10_trippers, 4, (some .int))
abbrev mtX10_undo : MT := (yX10_undo, cX10_undo, 1, (some .int))
abbrev mtX10_way : MT := (yX10_way, cX10_way, 2, (some .int))
abbrev mtX10_week : MT := (yX10_week, cX10_week, 3, (some .int))
abbrev mtX10_where : MT := (yX10_where, cX10_where, 7, (some .long))
abbrev mtX10_whether : MT := (yX10_whether, cX10_whether, 5, (some .long))
abbrev mtX10_which : MT := (yX10_which, cX10_which, 5, (some .long))
abbrev mtX10_worth : MT := (yX10_worth, cX10_worth, 4, (some .int))
abbrev mtX11_about : MT := (yX11_about, cX11_about, 2, (some .int))
abbrev mtX11_alike : MT := (yX11_alike, cX11_alike, 7, (some .int))
abbrev mtX11_anew : MT := (yX11_anew, cX11_anew, 1, none)
abbrev mtX11_areDone : MT := (yX11_areDone, cX11_areDone, 5, (some .boolean))
abbrev mtX11_average : MT := (yX11_average, cX11_average, 4, (some .int))
abbrev mtX11_back : MT := (yX11_back, cX11_back, 1, (some .int))
abbrev mtX11_begin : MT := (yX11_begin, cX11_begin, 4, (some .int))
abbrev mtX11_beginNow : MT := (yX11_beginNow, cX11_beginNow, 5, none)
abbrev mtX11_beginOne : MT := (yX11_beginOne, cX11_beginOne, 3, (some .int))
abbrev mtX11_behindOne : MT := (yX11_behindOne, cX11_behindOne, 5, (some .boolean))
abbrev mtX11_best : MT := (yX11_best, cX11_best, 7, (some .int))
abbrev mtX11_betweenOf : MT := (yX11_betweenOf, cX11_betweenOf, 2, (some .int))
abbrev mtX11_body : MT := (yX11_body, cX11_body, 3, (some .int))
abbrev mtX11_book : MT := (yX11_book, cX11_book, 3, (some .int))
abbrev mtX11_bookAt : MT := (yX11_bookAt, cX11_bookAt, 3, (some .int))
abbrev mtX11_build : MT := (yX11_build, cX11_build, 5, none)
abbrev mtX11_by : MT := (yX11_by, cX11_by, 2, (some .boolean))
abbrev mtX11_byteAt : MT := (yX11_byteAt, cX11_byteAt, 2, (some .int))
abbrev mtX11_cell : MT := (yX11_cell, cX11_cell, 2, (some .int))
abbrev mtX11_clause : MT := (yX11_clause, cX11_clause, 4, (some .int))
abbrev mtX11_clauseOf : MT := (yX11_clauseOf, cX11_clauseOf, 4, (some .int))
abbrev mtX11_clip : MT := (yX11_clip, cX11_clip, 2, (some .long))
abbrev mtX11_common : MT := (yX11_common, cX11_common, 10, (some .long))
abbrev mtX11_compareOf : MT := (yX11_compareOf, cX11_compareOf, 1, (some .int))
abbrev mtX11_copy : MT := (yX11_copy, cX11_copy, 3, none)
abbrev mtX11_cost : MT := (yX11_cost, cX11_cost, 6, (some .long))
abbrev mtX11_counted : MT := (yX11_counted, cX11_counted, 7, none)
abbrev mtX11_down : MT := (yX11_down, cX11_down, 3, none)
abbrev mtX11_drawn : MT := (yX11_drawn, cX11_drawn, 2, (some .int))
abbrev mtX11_emit : MT := (yX11_emit, cX11_emit, 3, none)
abbrev mtX11_end : MT := (yX11_end, cX11_end, 2, (some .int))
abbrev mtX11_fallOf : MT := (yX11_fallOf, cX11_fallOf, 4, (some .int))
abbrev mtX11_fault : MT := (yX11_fault, cX11_fault, 2, (some .int))
abbrev mtX11_feed : MT := (yX11_feed, cX11_feed, 6, (some .int))
abbrev mtX11_figure : MT := (yX11_figure, cX11_figure, 4, (some .int))
abbrev mtX11_findWork : MT := (yX11_findWork, cX11_findWork, 8, none)
abbrev mtX11_four : MT := (yX11_four, cX11_four, 3, none)
abbrev mtX11_from : MT := (yX11_from, cX11_from, 4, (some .int))
abbrev mtX11_goAll : MT := (yX11_goAll, cX11_goAll, 8, none)
abbrev mtX11_goOn : MT := (yX11_goOn, cX11_goOn, 10, none)
abbrev mtX11_goes : MT := (yX11_goes, cX11_goes, 6, (some .int))
abbrev mtX11_has : MT := (yX11_has, cX11_has, 2, (some .boolean))
abbrev mtX11_height : MT := (yX11_height, cX11_height, 4, (some .boolean))
abbrev mtX11_heightOf : MT := (yX11_heightOf, cX11_heightOf, 3, (some .int))
abbrev mtX11_highClause : MT := (yX11_highClause, cX11_highClause, 3, (some .int))
abbrev mtX11_house : MT := (yX11_house, cX11_house, 3, (some .int))
abbrev mtX11_image : MT := (yX11_image, cX11_image, 1, (some .int))
abbrev mtX11_init : MT := (yX11_init, cX11_init, 2, none)
abbrev mtX11_isAskAhead : MT := (yX11_isAskAhead, cX11_isAskAhead, 2, (some .boolean))
abbrev mtX11_isAsked : MT := (yX11_isAsked, cX11_isAsked, 5, (some .boolean))
abbrev mtX11_isCompared : MT := (yX11_isCompared, cX11_isCompared, 2, (some .boolean))
abbrev mtX11_isDigit : MT := (yX11_isDigit, cX11_isDigit, 1, (some .boolean))
abbrev mtX11_isHouse : MT := (yX11_isHouse, cX11_isHouse, 1, (some .boolean))
abbrev mtX11_isIn : MT := (yX11_isIn, cX11_isIn, 3, (some .boolean))
abbrev mtX11_isLetter : MT := (yX11_isLetter, cX11_isLetter, 1, (some .boolean))
abbrev mtX11_isMind : MT := (yX11_isMind, cX11_isMind, 4, (some .boolean))
abbrev mtX11_isNoLess : MT := (yX11_isNoLess, cX11_isNoLess, 21, (some .boolean))
abbrev mtX11_isOf : MT := (yX11_isOf, cX11_isOf, 2, (some .boolean))
abbrev mtX11_isPerson : MT := (yX11_isPerson, cX11_isPerson, 2, (some .boolean))
abbrev mtX11_isPlayed : MT := (yX11_isPlayed, cX11_isPlayed, 4, (some .boolean))
abbrev mtX11_isSeenBy : MT := (yX11_isSeenBy, cX11_isSeenBy, 6, (some .boolean))
abbrev mtX11_isSmooth : MT := (yX11_isSmooth, cX11_isSmooth, 6, (some .boolean))
abbrev mtX11_isStep : MT := (yX11_isStep, cX11_isStep, 3, (some .boolean))
abbrev mtX11_isWord : MT := (yX11_isWord, cX11_isWord, 3, (some .boolean))
abbrev mtX11_jarOf : MT := (yX11_jarOf, cX11_jarOf, 4, (some .int))
abbrev mtX11_jarred : MT := (yX11_jarred, cX11_jarred, 5, (some .long))
abbrev mtX11_keep : MT := (yX11_keep, cX11_keep, 3, none)
abbrev mtX11_kindOpen : MT := (yX11_kindOpen, cX11_kindOpen, 3, (some .int))
abbrev mtX11_lamp : MT := (yX11_lamp, cX11_lamp, 9, (some .int))
abbrev mtX11_lawClause : MT := (yX11_lawClause, cX11_lawClause, 4, (some .int))
abbrev mtX11_laws : MT := (yX11_laws, cX11_laws, 3, (some .int))
abbrev mtX11_legs : MT := (yX11_legs, cX11_legs, 4, (some .int))
abbrev mtX11_legsOf : MT := (yX11_legsOf, cX11_legsOf, 9, (some .int))
abbrev mtX11_mark : MT := (yX11_mark, cX11_mark, 4, (some .boolean))
abbrev mtX11_marker : MT := (yX11_marker, cX11_marker, 2, (some .int))
abbrev mtX11_marksOf : MT := (yX11_marksOf, cX11_marksOf, 2, (some .int))
abbrev mtX11_name : MT := (yX11_name, cX11_name, 4, none)
abbrev mtX11_nameAt : MT := (yX11_nameAt, cX11_nameAt, 5, none)
abbrev mtX11_nameOf : MT := (yX11_nameOf, cX11_nameOf, 1, (some .int))
abbrev mtX11_nameStep : MT := (yX11_nameStep, cX11_nameStep, 6, none)
abbrev mtX11_nextToken : MT := (yX11_nextToken, cX11_nextToken, 3, none)
abbrev mtX11_night : MT := (yX11_night, cX11_night, 3, (some .int))
abbrev mtX11_nightNow : MT := (yX11_nightNow, cX11_nightNow, 1, (some .boolean))
abbrev mtX11_noneAt : MT := (yX11_noneAt, cX11_noneAt, 5, (some .int))
abbrev mtX11_ofHouse : MT := (yX11_ofHouse, cX11_ofHouse, 2, (some .int))
abbrev mtX11_oneClause : MT := (yX11_oneClause, cX11_oneClause, 3, (some .int))
abbrev mtX11_opensBy : MT := (yX11_opensBy, cX11_opensBy, 2, (some .int))
abbrev mtX11_pair : MT := (yX11_pair, cX11_pair, 4, (some .int))
abbrev mtX11_parsed : MT := (yX11_parsed, cX11_parsed, 4, (some .int))
abbrev mtX11_part : MT := (yX11_part, cX11_part, 5, (some .long))
abbrev mtX11_person : MT := (yX11_person, cX11_person, 5, (some .int))
abbrev mtX11_played : MT := (yX11_played, cX11_played, 3, (some .int))
abbrev mtX11_push : MT := (yX11_push, cX11_push, 2, none)
abbrev mtX11_rail : MT := (yX11_rail, cX11_rail, 3, (some .boolean))
abbrev mtX11_railOf : MT := (yX11_railOf, cX11_railOf, 2, (some .int))
abbrev mtX11_rank : MT := (yX11_rank, cX11_rank, 1, (some .int))
abbrev mtX11_readText : MT := (yX11_readText, cX11_readText, 2, (some .int))
abbrev mtX11_reckon : MT := (yX11_reckon, cX11_reckon, 18, none)
abbrev mtX11_says : MT := (yX11_says, cX11_says, 6, (some .int))
abbrev mtX11_seed : MT := (yX11_seed, cX11_seed, 2, (some .boolean))
abbrev mtX11_seen : MT := (yX11_seen, cX11_seen, 6, (some .int))
abbrev mtX11_settle : MT := (yX11_settle, cX11_settle, 2, none)
abbrev mtX11_shown : MT := (yX11_shown, cX11_shown, 1, (some .int))
abbrev mtX11_sortOf : MT := (yX11_sortOf, cX11_sortOf, 1, (some .int))
abbrev mtX11_stair : MT := (yX11_stair, cX11_stair, 3, (some .boolean))
abbrev mtX11_start : MT := (yX11_start, cX11_start, 5, none)
abbrev mtX11_step : MT := (yX11_step, cX11_step, 1, (some .int))
abbrev mtX11_stepNow : MT := (yX11_stepNow, cX11_stepNow, 4, none)
abbrev mtX11_stepsOf : MT := (yX11_stepsOf, cX11_stepsOf, 2, (some .int))
abbrev mtX11_stop : MT := (yX11_stop, cX11_stop, 2, (some .int))
abbrev mtX11_sumBy : MT := (yX11_sumBy, cX11_sumBy, 5, (some .int))
abbrev mtX11_sure : MT := (yX11_sure, cX11_sure, 8, (some .long))
abbrev mtX11_tally : MT := (yX11_tally, cX11_tally, 6, (some .int))
abbrev mtX11_tenTo : MT := (yX11_tenTo, cX11_tenTo, 4, (some .long))
abbrev mtX11_text : MT := (yX11_text, cX11_text, 1, (some .int))
abbrev mtX11_toe : MT := (yX11_toe, cX11_toe, 1, (some .int))
abbrev mtX11_toeNow : MT := (yX11_toeNow, cX11_toeNow, 1, none)
abbrev mtX11_told : MT := (yX11_told, cX11_told, 2, (some .boolean))
abbrev mtX11_trippers : MT := (yX11_trippers, cX11_trippers, 6, (some .int))
abbrev mtX11_tripsAt : MT := (yX11_tripsAt, cX11_tripsAt, 5, (some .boolean))
abbrev mtX11_tripsBy : MT := (yX11_tripsBy, cX11_tripsBy, 9, (some .boolean))
abbrev mtX11_twiceAt : MT := (yX11_twiceAt, cX11_twiceAt, 6, (some .int))
abbrev mtX11_two : MT := (yX11_two, cX11_two, 5, (some .long))
abbrev mtX11_undo : MT := (yX11_undo, cX11_undo, 3, (some .int))
abbrev mtX11_w3 : MT := (yX11_w3, cX11_w3, 3, (some .long))
abbrev mtX11_w4 : MT := (yX11_w4, cX11_w4, 4, (some .long))
abbrev mtX11_w5 : MT := (yX11_w5, cX11_w5, 5, (some .long))
abbrev mtX11_w6 : MT := (yX11_w6, cX11_w6, 6, (some .long))
abbrev mtX11_way : MT := (yX11_way, cX11_way, 2, (some .int))
abbrev mtX11_week : MT := (yX11_week, cX11_week, 7, (some .int))
abbrev mtX11_where : MT := (yX11_where, cX11_where, 10, (some .long))
abbrev mtX11_whether : MT := (yX11_whether, cX11_whether, 7, (some .long))
abbrev mtX11_which : MT := (yX11_which, cX11_which, 8, (some .long))
abbrev mtX11_whole : MT := (yX11_whole, cX11_whole, 1, none)
abbrev mtX11_worded : MT := (yX11_worded, cX11_worded, 6, (some .int))
abbrev mtX11_work : MT := (yX11_work, cX11_work, 10, none)
abbrev mtX11_workBy : MT := (yX11_workBy, cX11_workBy, 7, (some .int))
abbrev mtX11_workOf : MT := (yX11_workOf, cX11_workOf, 6, (some .int))
abbrev mtX11_worth : MT := (yX11_worth, cX11_worth, 9, (some .int))
abbrev mtX1_face : MT := (yX1_face, cX1_face, 3, none)
abbrev mtX1_fallNow : MT := (yX1_fallNow, cX1_fallNow, 1, (some .int))
abbrev mtX1_init : MT := (yX1_init, cX1_init, 1, none)
abbrev mtX1_jarNow : MT := (yX1_jarNow, cX1_jarNow, 1, (some .int))
abbrev mtX1_joined : MT := (yX1_joined, cX1_joined, 7, (some .int))
abbrev mtX1_noneNow : MT := (yX1_noneNow, cX1_noneNow, 1, (some .int))
abbrev mtX1_rules : MT := (yX1_rules, cX1_rules, 2, (some .boolean))
abbrev mtX1_suppose : MT := (yX1_suppose, cX1_suppose, 3, none)
abbrev mtX1_tripsNow : MT := (yX1_tripsNow, cX1_tripsNow, 1, (some .boolean))
abbrev mtX1_turnTo : MT := (yX1_turnTo, cX1_turnTo, 7, none)
abbrev mtX1_twiceNow : MT := (yX1_twiceNow, cX1_twiceNow, 2, (some .int))
abbrev mtX1_worked : MT := (yX1_worked, cX1_worked, 6, (some .int))
abbrev mtX2_anyoneTrips : MT := (yX2_anyoneTrips, cX2_anyoneTrips, 7, (some .boolean))
abbrev mtX2_cheapest : MT := (yX2_cheapest, cX2_cheapest, 3, (some .int))
abbrev mtX2_choose : MT := (yX2_choose, cX2_choose, 8, none)
abbrev mtX2_init : MT := (yX2_init, cX2_init, 3, none)
abbrev mtX2_levelled : MT := (yX2_levelled, cX2_levelled, 8, (some .int))
abbrev mtX2_plan : MT := (yX2_plan, cX2_plan, 6, none)
abbrev mtX2_weigh : MT := (yX2_weigh, cX2_weigh, 7, none)
abbrev mtX3_add : MT := (yX3_add, cX3_add, 6, none)
abbrev mtX3_bestMark : MT := (yX3_bestMark, cX3_bestMark, 5, (some .int))
abbrev mtX3_boldlyMore : MT := (yX3_boldlyMore, cX3_boldlyMore, 5, (some .long))
abbrev mtX3_carry : MT := (yX3_carry, cX3_carry, 7, none)
abbrev mtX3_ceiling : MT := (yX3_ceiling, cX3_ceiling, 4, (some .long))
abbrev mtX3_chance : MT := (yX3_chance, cX3_chance, 4, (some .long))
abbrev mtX3_chanceOfJar : MT := (yX3_chanceOfJar, cX3_chanceOfJar, 2, (some .long))
abbrev mtX3_chooseFrom : MT := (yX3_chooseFrom, cX3_chooseFrom, 4, none)
abbrev mtX3_costFrom : MT := (yX3_costFrom, cX3_costFrom, 6, (some .long))
abbrev mtX3_costOfToes : MT := (yX3_costOfToes, cX3_costOfToes, 1, (some .long))
abbrev mtX3_evenChance : MT := (yX3_evenChance, cX3_evenChance, 3, (some .long))
abbrev mtX3_gather : MT := (yX3_gather, cX3_gather, 5, none)
abbrev mtX3_goesWithLoad : MT := (yX3_goesWithLoad, cX3_goesWithLoad, 5, (some .int))
abbrev mtX3_init : MT := (yX3_init, cX3_init, 3, none)
abbrev mtX3_lampNights : MT := (yX3_lampNights, cX3_lampNights, 7, (some .int))
abbrev mtX3_look : MT := (yX3_look, cX3_look, 8, (some .boolean))
abbrev mtX3_oddsAt : MT := (yX3_oddsAt, cX3_oddsAt, 7, (some .long))
abbrev mtX3_oddsOfHouse : MT := (yX3_oddsOfHouse, cX3_oddsOfHouse, 12, (some .long))
abbrev mtX3_oddsOfLanding : MT := (yX3_oddsOfLanding, cX3_oddsOfLanding, 5, (some .long))
abbrev mtX3_oddsOfSure : MT := (yX3_oddsOfSure, cX3_oddsOfSure, 9, (some .long))
abbrev mtX3_power : MT := (yX3_power, cX3_power, 1, (some .long))
abbrev mtX3_spread : MT := (yX3_spread, cX3_spread, 1, none)
abbrev mtX3_spreadFrom : MT := (yX3_spreadFrom, cX3_spreadFrom, 5, none)
abbrev mtX4_advance : MT := (yX4_advance, cX4_advance, 1, none)
abbrev mtX4_emit : MT := (yX4_emit, cX4_emit, 2, none)
abbrev mtX4_faulty : MT := (yX4_faulty, cX4_faulty, 2, (some .boolean))
abbrev mtX4_init : MT := (yX4_init, cX4_init, 2, none)
abbrev mtX4_opens : MT := (yX4_opens, cX4_opens, 2, (some .boolean))
abbrev mtX4_passes : MT := (yX4_passes, cX4_passes, 2, (some .boolean))
abbrev mtX4_read : MT := (yX4_read, cX4_read, 2, (some (.object "OneStepMore$Text")))
abbrev mtX4_readAsk : MT := (yX4_readAsk, cX4_readAsk, 3, (some .boolean))
abbrev mtX4_readBoth : MT := (yX4_readBoth, cX4_readBoth, 3, (some .boolean))
abbrev mtX4_readChoice : MT := (yX4_readChoice, cX4_readChoice, 2, (some .boolean))
abbrev mtX4_readClause : MT := (yX4_readClause, cX4_readClause, 3, (some .boolean))
abbrev mtX4_readDeed : MT := (yX4_readDeed, cX4_readDeed, 7, (some .boolean))
abbrev mtX4_readEither : MT := (yX4_readEither, cX4_readEither, 3, (some .boolean))
abbrev mtX4_readLaw : MT := (yX4_readLaw, cX4_readLaw, 3, (some .boolean))
abbrev mtX4_readName : MT := (yX4_readName, cX4_readName, 2, (some .boolean))
abbrev mtX4_readNumber : MT := (yX4_readNumber, cX4_readNumber, 4, (some .boolean))
abbrev mtX4_readOne : MT := (yX4_readOne, cX4_readOne, 2, (some .boolean))
abbrev mtX4_readProduct : MT := (yX4_readProduct, cX4_readProduct, 4, (some .boolean))
abbrev mtX4_readSum : MT := (yX4_readSum, cX4_readSum, 4, (some .boolean))
abbrev mtX4_readValue : MT := (yX4_readValue, cX4_readValue, 1, (some .boolean))
abbrev mtX5_aboutPerson : MT := (yX5_aboutPerson, cX5_aboutPerson, 4, (some .int))
abbrev mtX5_become : MT := (yX5_become, cX5_become, 5, none)
abbrev mtX5_houseOf : MT := (yX5_houseOf, cX5_houseOf, 2, (some (.object "OneStepMore$House")))
abbrev mtX5_init : MT := (yX5_init, cX5_init, 2, none)
abbrev mtX5_isOnWay : MT := (yX5_isOnWay, cX5_isOnWay, 1, (some .boolean))
abbrev mtX5_isPerson : MT := (yX5_isPerson, cX5_isPerson, 2, (some .boolean))
abbrev mtX5_keepText : MT := (yX5_keepText, cX5_keepText, 2, (some .int))
abbrev mtX5_lineOf : MT := (yX5_lineOf, cX5_lineOf, 3, (some .int))
abbrev mtX5_lines : MT := (yX5_lines, cX5_lines, 1, (some .int))
abbrev mtX5_remember : MT := (yX5_remember, cX5_remember, 3, none)
abbrev mtX5_takeBack : MT := (yX5_takeBack, cX5_takeBack, 3, (some .int))
abbrev mtX5_tellHeight : MT := (yX5_tellHeight, cX5_tellHeight, 5, (some .boolean))
abbrev mtX5_tellMark : MT := (yX5_tellMark, cX5_tellMark, 5, (some .boolean))
abbrev mtX5_tellPerson : MT := (yX5_tellPerson, cX5_tellPerson, 4, (some .int))
abbrev mtX5_tellRail : MT := (yX5_tellRail, cX5_tellRail, 4, (some .boolean))
abbrev mtX5_tellStairs : MT := (yX5_tellStairs, cX5_tellStairs, 4, (some .boolean))
abbrev mtX5_textOf : MT := (yX5_textOf, cX5_textOf, 2, (some (.object "OneStepMore$Text")))
abbrev mtX5_toldHouses : MT := (yX5_toldHouses, cX5_toldHouses, 4, (some .int))
abbrev mtX5_turnMark : MT := (yX5_turnMark, cX5_turnMark, 4, (some .boolean))
abbrev mtX5_wayOf : MT := (yX5_wayOf, cX5_wayOf, 2, (some .int))
abbrev mtX5_writeDown : MT := (yX5_writeDown, cX5_writeDown, 3, none)
abbrev mtX6_allSeenBy : MT := (yX6_allSeenBy, cX6_allSeenBy, 7, (some .boolean))
abbrev mtX6_counted : MT := (yX6_counted, cX6_counted, 3, (some .int))
abbrev mtX6_init : MT := (yX6_init, cX6_init, 3, none)
abbrev mtX6_lawsOfSeen : MT := (yX6_lawsOfSeen, cX6_lawsOfSeen, 3, (some .int))
abbrev mtX6_legsOf : MT := (yX6_legsOf, cX6_legsOf, 5, (some .int))
abbrev mtX6_mostOften : MT := (yX6_mostOften, cX6_mostOften, 5, (some .int))
abbrev mtX6_saidOf : MT := (yX6_saidOf, cX6_saidOf, 7, (some .int))
abbrev mtX6_see : MT := (yX6_see, cX6_see, 7, (some .int))
abbrev mtX6_tallied : MT := (yX6_tallied, cX6_tallied, 5, (some .int))
abbrev mtX6_trippersAt : MT := (yX6_trippersAt, cX6_trippersAt, 7, (some .int))
abbrev mtX7_byteAt : MT := (yX7_byteAt, cX7_byteAt, 2, (some .int))
abbrev mtX7_hasRoom : MT := (yX7_hasRoom, cX7_hasRoom, 1, (some .boolean))
abbrev mtX7_init : MT := (yX7_init, cX7_init, 1, none)
abbrev mtX7_isDigit : MT := (yX7_isDigit, cX7_isDigit, 1, (some .boolean))
abbrev mtX7_isLetter : MT := (yX7_isLetter, cX7_isLetter, 1, (some .boolean))
abbrev mtX7_isSame : MT := (yX7_isSame, cX7_isSame, 1, (some .boolean))
abbrev mtX7_isSpelled : MT := (yX7_isSpelled, cX7_isSpelled, 5, (some .boolean))
abbrev mtX7_scan : MT := (yX7_scan, cX7_scan, 3, none)
abbrev mtX7_scanNumber : MT := (yX7_scanNumber, cX7_scanNumber, 2, (some .int))
abbrev mtX7_scanToken : MT := (yX7_scanToken, cX7_scanToken, 3, (some .int))
abbrev mtX7_scanWord : MT := (yX7_scanWord, cX7_scanWord, 4, (some .int))
abbrev mtX7_signOf : MT := (yX7_signOf, cX7_signOf, 2, (some .int))
abbrev mtX7_skipBlanks : MT := (yX7_skipBlanks, cX7_skipBlanks, 1, none)
abbrev mtX7_take : MT := (yX7_take, cX7_take, 3, none)
abbrev mtX8_init : MT := (yX8_init, cX8_init, 6, none)
abbrev mtX8_numberOf : MT := (yX8_numberOf, cX8_numberOf, 3, (some .int))
abbrev mtX9_beginAct : MT := (yX9_beginAct, cX9_beginAct, 4, (some .int))
abbrev mtX9_down : MT := (yX9_down, cX9_down, 2, none)
abbrev mtX9_draw : MT := (yX9_draw, cX9_draw, 2, (some .int))
abbrev mtX9_goOn : MT := (yX9_goOn, cX9_goOn, 7, (some .int))
abbrev mtX9_init : MT := (yX9_init, cX9_init, 3, none)
abbrev mtX9_isDone : MT := (yX9_isDone, cX9_isDone, 5, (some .boolean))
abbrev mtX9_nightAct : MT := (yX9_nightAct, cX9_nightAct, 1, (some .int))
abbrev mtX9_playedBy : MT := (yX9_playedBy, cX9_playedBy, 6, (some .int))
abbrev mtX9_start : MT := (yX9_start, cX9_start, 4, none)
abbrev mtX9_stepAct : MT := (yX9_stepAct, cX9_stepAct, 1, (some .int))
abbrev mtX9_stir : MT := (yX9_stir, cX9_stir, 1, none)
abbrev mtX9_stopAct : MT := (yX9_stopAct, cX9_stopAct, 3, (some .int))
abbrev mtX9_toeAct : MT := (yX9_toeAct, cX9_toeAct, 1, (some .int))
abbrev mtX9_turnToWay : MT := (yX9_turnToWay, cX9_turnToWay, 1, none)
abbrev mtX9_weekAct : MT := (yX9_weekAct, cX9_weekAct, 8, (some .int))
def mtG (i : Nat) : MT := match i with
  | 0 => mtX4_readEither
  | 1 => mtX4_readBoth
  | 2 => mtX4_readAsk
  | 3 => mtX4_readSum
  | 4 => mtX4_readProduct
  | 5 => mtX4_readOne
  | _ => mtX4_readChoice
theorem WS_s {w : Cond} (i : Nat) (h : (k2_sels lw_privs)[i]? = some w) (hg : goodWord w = true) : w ∈ WS := List.mem_filter.mpr ⟨List.mem_append_left _ (List.mem_of_getElem? h), hg⟩
theorem WS_t1 {w : Cond} (i : Nat) (h : tables_1_1[i]? = some w) (hg : goodWord w = true) : w ∈ WS := List.mem_filter.mpr ⟨List.mem_append_right _ (List.mem_append_left _ (List.mem_of_getElem? h)), hg⟩
theorem NW_t1 {w : Cond} (i : Nat) (h : tables_1_1[i]? = some w) (hg : isNest w = true) : w ∈ NW := List.mem_filter.mpr ⟨List.mem_append_right _ (List.mem_append_left _ (List.mem_of_getElem? h)), hg⟩
theorem WS_t2 {w : Cond} (i : Nat) (h : tables_1_2[i]? = some w) (hg : goodWord w = true) : w ∈ WS := List.mem_filter.mpr ⟨List.mem_append_right _ (List.mem_append_right _ (List.mem_append_left _ (List.mem_of_getElem? h))), hg⟩
theorem NW_t2 {w : Cond} (i : Nat) (h : tables_1_2[i]? = some w) (hg : isNest w = true) : w ∈ NW := List.mem_filter.mpr ⟨List.mem_append_right _ (List.mem_append_right _ (List.mem_append_left _ (List.mem_of_getElem? h))), hg⟩
theorem WS_t3 {w : Cond} (i : Nat) (h : tables_1_3[i]? = some w) (hg : goodWord w = true) : w ∈ WS := List.mem_filter.mpr ⟨List.mem_append_right _ (List.mem_append_right _ (List.mem_append_right _ (List.mem_append_left _ (List.mem_of_getElem? h)))), hg⟩
theorem NW_t3 {w : Cond} (i : Nat) (h : tables_1_3[i]? = some w) (hg : isNest w = true) : w ∈ NW := List.mem_filter.mpr ⟨List.mem_append_right _ (List.mem_append_right _ (List.mem_append_right _ (List.mem_append_left _ (List.mem_of_getElem? h)))), hg⟩
theorem WS_t4 {w : Cond} (i : Nat) (h : tables_1_4[i]? = some w) (hg : goodWord w = true) : w ∈ WS := List.mem_filter.mpr ⟨List.mem_append_right _ (List.mem_append_right _ (List.mem_append_right _ (List.mem_append_right _ (List.mem_append_left _ (List.mem_of_getElem? h))))), hg⟩
theorem NW_t4 {w : Cond} (i : Nat) (h : tables_1_4[i]? = some w) (hg : isNest w = true) : w ∈ NW := List.mem_filter.mpr ⟨List.mem_append_right _ (List.mem_append_right _ (List.mem_append_right _ (List.mem_append_right _ (List.mem_append_left _ (List.mem_of_getElem? h))))), hg⟩
theorem WS_t5 {w : Cond} (i : Nat) (h : tables_1_5[i]? = some w) (hg : goodWord w = true) : w ∈ WS := List.mem_filter.mpr ⟨List.mem_append_right _ (List.mem_append_right _ (List.mem_append_right _ (List.mem_append_right _ (List.mem_append_right _ (List.mem_append_left _ (List.mem_of_getElem? h)))))), hg⟩
theorem NW_t5 {w : Cond} (i : Nat) (h : tables_1_5[i]? = some w) (hg : isNest w = true) : w ∈ NW := List.mem_filter.mpr ⟨List.mem_append_right _ (List.mem_append_right _ (List.mem_append_right _ (List.mem_append_right _ (List.mem_append_right _ (List.mem_append_left _ (List.mem_of_getElem? h)))))), hg⟩
theorem WS_t6 {w : Cond} (i : Nat) (h : tables_1_6[i]? = some w) (hg : goodWord w = true) : w ∈ WS := List.mem_filter.mpr ⟨List.mem_append_right _ (List.mem_append_right _ (List.mem_append_right _ (List.mem_append_right _ (List.mem_append_right _ (List.mem_append_right _ (List.mem_append_left _ (List.mem_of_getElem? h))))))), hg⟩
theorem NW_t6 {w : Cond} (i : Nat) (h : tables_1_6[i]? = some w) (hg : isNest w = true) : w ∈ NW := List.mem_filter.mpr ⟨List.mem_append_right _ (List.mem_append_right _ (List.mem_append_right _ (List.mem_append_right _ (List.mem_append_right _ (List.mem_append_right _ (List.mem_append_left _ (List.mem_of_getElem? h))))))), hg⟩
theorem WS_t7 {w : Cond} (i : Nat) (h : tables_1_7[i]? = some w) (hg : goodWord w = true) : w ∈ WS := List.mem_filter.mpr ⟨List.mem_append_right _ (List.mem_append_right _ (List.mem_append_right _ (List.mem_append_right _ (List.mem_append_right _ (List.mem_append_right _ (List.mem_append_right _ (List.mem_append_left _ (List.mem_of_getElem? h)))))))), hg⟩
theorem NW_t7 {w : Cond} (i : Nat) (h : tables_1_7[i]? = some w) (hg : isNest w = true) : w ∈ NW := List.mem_filter.mpr ⟨List.mem_append_right _ (List.mem_append_right _ (List.mem_append_right _ (List.mem_append_right _ (List.mem_append_right _ (List.mem_append_right _ (List.mem_append_right _ (List.mem_append_left _ (List.mem_of_getElem? h)))))))), hg⟩
theorem WS_t8 {w : Cond} (i : Nat) (h : tables_1_8[i]? = some w) (hg : goodWord w = true) : w ∈ WS := List.mem_filter.mpr ⟨List.mem_append_right _ (List.mem_append_right _ (List.mem_append_right _ (List.mem_append_right _ (List.mem_append_right _ (List.mem_append_right _ (List.mem_append_right _ (List.mem_append_right _ (List.mem_of_getElem? h)))))))), hg⟩
theorem NW_t8 {w : Cond} (i : Nat) (h : tables_1_8[i]? = some w) (hg : isNest w = true) : w ∈ NW := List.mem_filter.mpr ⟨List.mem_append_right _ (List.mem_append_right _ (List.mem_append_right _ (List.mem_append_right _ (List.mem_append_right _ (List.mem_append_right _ (List.mem_append_right _ (List.mem_append_right _ (List.mem_of_getElem? h)))))))), hg⟩
theorem wd0 : Cond.selects "OneStepMore$Tape" ⟨"OneStepMore$Tape", "skipBlanks", "()V"⟩ ⟨"OneStepMore$Tape", "skipBlanks", "()V"⟩ ∈ WS := WS_s 0 rfl rfl
theorem wd1 : Cond.selects "OneStepMore$Tape" ⟨"OneStepMore$Tape", "byteAt", "(I)I"⟩ ⟨"OneStepMore$Tape", "byteAt", "(I)I"⟩ ∈ WS := WS_s 1 rfl rfl
theorem wd2 : Cond.selects "OneStepMore$Tape" ⟨"OneStepMore$Tape", "scanToken", "(I)I"⟩ ⟨"OneStepMore$Tape", "scanToken", "(I)I"⟩ ∈ WS := WS_s 2 rfl rfl
theorem wd3 : Cond.selects "OneStepMore$Tape" ⟨"OneStepMore$Tape", "scanNumber", "()I"⟩ ⟨"OneStepMore$Tape", "scanNumber", "()I"⟩ ∈ WS := WS_s 3 rfl rfl
theorem wd4 : Cond.selects "OneStepMore$Tape" ⟨"OneStepMore$Tape", "scanWord", "()I"⟩ ⟨"OneStepMore$Tape", "scanWord", "()I"⟩ ∈ WS := WS_s 4 rfl rfl
theorem wd5 : Cond.selects "OneStepMore$Tape" ⟨"OneStepMore$Tape", "isSpelled", "(II)Z"⟩ ⟨"OneStepMore$Tape", "isSpelled", "(II)Z"⟩ ∈ WS := WS_s 5 rfl rfl
theorem wd6 : Cond.selects "OneStepMore$Tape" ⟨"OneStepMore$Tape", "signOf", "(I)I"⟩ ⟨"OneStepMore$Tape", "signOf", "(I)I"⟩ ∈ WS := WS_s 6 rfl rfl
theorem wd7 : Cond.selects "OneStepMore$Tape" ⟨"OneStepMore$Tape", "isSame", "()Z"⟩ ⟨"OneStepMore$Tape", "isSame", "()Z"⟩ ∈ WS := WS_s 7 rfl rfl
theorem wd8 : Cond.selects "OneStepMore$Reader" ⟨"OneStepMore$Reader", "advance", "()V"⟩ ⟨"OneStepMore$Reader", "advance", "()V"⟩ ∈ WS := WS_s 8 rfl rfl
theorem wd9 : Cond.selects "OneStepMore$Reader" ⟨"OneStepMore$Reader", "readClause", "()Z"⟩ ⟨"OneStepMore$Reader", "readClause", "()Z"⟩ ∈ WS := WS_s 9 rfl rfl
theorem wd10 : Cond.selects "OneStepMore$Reader" ⟨"OneStepMore$Reader", "faulty", "(I)Z"⟩ ⟨"OneStepMore$Reader", "faulty", "(I)Z"⟩ ∈ WS := WS_s 10 rfl rfl
theorem wd11 : Cond.selects "OneStepMore$Reader" ⟨"OneStepMore$Reader", "readLaw", "(I)Z"⟩ ⟨"OneStepMore$Reader", "readLaw", "(I)Z"⟩ ∈ WS := WS_s 11 rfl rfl
theorem wd12 : Cond.selects "OneStepMore$Reader" ⟨"OneStepMore$Reader", "readEither", "(I)Z"⟩ ⟨"OneStepMore$Reader", "readEither", "(I)Z"⟩ ∈ WS := WS_s 12 rfl rfl
theorem wd13 : Cond.selects "OneStepMore$Reader" ⟨"OneStepMore$Reader", "readBoth", "(I)Z"⟩ ⟨"OneStepMore$Reader", "readBoth", "(I)Z"⟩ ∈ WS := WS_s 13 rfl rfl
theorem wd14 : Cond.selects "OneStepMore$Reader" ⟨"OneStepMore$Reader", "readAsk", "(I)Z"⟩ ⟨"OneStepMore$Reader", "readAsk", "(I)Z"⟩ ∈ WS := WS_s 14 rfl rfl
theorem wd15 : Cond.selects "OneStepMore$Reader" ⟨"OneStepMore$Reader", "opens", "(I)Z"⟩ ⟨"OneStepMore$Reader", "opens", "(I)Z"⟩ ∈ WS := WS_s 15 rfl rfl
theorem wd16 : Cond.selects "OneStepMore$Reader" ⟨"OneStepMore$Reader", "emit", "(I)V"⟩ ⟨"OneStepMore$Reader", "emit", "(I)V"⟩ ∈ WS := WS_s 16 rfl rfl
theorem wd17 : Cond.selects "OneStepMore$Reader" ⟨"OneStepMore$Reader", "readSum", "(I)Z"⟩ ⟨"OneStepMore$Reader", "readSum", "(I)Z"⟩ ∈ WS := WS_s 17 rfl rfl
theorem wd18 : Cond.selects "OneStepMore$Reader" ⟨"OneStepMore$Reader", "readProduct", "(I)Z"⟩ ⟨"OneStepMore$Reader", "readProduct", "(I)Z"⟩ ∈ WS := WS_s 18 rfl rfl
theorem wd19 : Cond.selects "OneStepMore$Reader" ⟨"OneStepMore$Reader", "readOne", "(I)Z"⟩ ⟨"OneStepMore$Reader", "readOne", "(I)Z"⟩ ∈ WS := WS_s 19 rfl rfl
theorem wd20 : Cond.selects "OneStepMore$Reader" ⟨"OneStepMore$Reader", "readValue", "()Z"⟩ ⟨"OneStepMore$Reader", "readValue", "()Z"⟩ ∈ WS := WS_s 20 rfl rfl
theorem wd21 : Cond.selects "OneStepMore$Reader" ⟨"OneStepMore$Reader", "passes", "(I)Z"⟩ ⟨"OneStepMore$Reader", "passes", "(I)Z"⟩ ∈ WS := WS_s 21 rfl rfl
theorem wd22 : Cond.selects "OneStepMore$Reader" ⟨"OneStepMore$Reader", "readChoice", "(I)Z"⟩ ⟨"OneStepMore$Reader", "readChoice", "(I)Z"⟩ ∈ WS := WS_s 22 rfl rfl
theorem wd23 : Cond.selects "OneStepMore$Reader" ⟨"OneStepMore$Reader", "readName", "()Z"⟩ ⟨"OneStepMore$Reader", "readName", "()Z"⟩ ∈ WS := WS_s 23 rfl rfl
theorem wd24 : Cond.selects "OneStepMore$Reader" ⟨"OneStepMore$Reader", "readDeed", "(I)Z"⟩ ⟨"OneStepMore$Reader", "readDeed", "(I)Z"⟩ ∈ WS := WS_s 24 rfl rfl
theorem wd25 : Cond.selects "OneStepMore$Reader" ⟨"OneStepMore$Reader", "readNumber", "(III)Z"⟩ ⟨"OneStepMore$Reader", "readNumber", "(III)Z"⟩ ∈ WS := WS_s 25 rfl rfl
theorem wd26 : Cond.selects "OneStepMore$Walk" ⟨"OneStepMore$Walk", "start", "(III)V"⟩ ⟨"OneStepMore$Walk", "start", "(III)V"⟩ ∈ WS := WS_s 26 rfl rfl
theorem wd27 : Cond.selects "OneStepMore$Walk" ⟨"OneStepMore$Walk", "draw", "()I"⟩ ⟨"OneStepMore$Walk", "draw", "()I"⟩ ∈ WS := WS_s 27 rfl rfl
theorem wd28 : Cond.selects "OneStepMore$Walk" ⟨"OneStepMore$Walk", "stir", "()V"⟩ ⟨"OneStepMore$Walk", "stir", "()V"⟩ ∈ WS := WS_s 28 rfl rfl
theorem wd29 : Cond.selects "OneStepMore$Walk" ⟨"OneStepMore$Walk", "goOn", "(Z)I"⟩ ⟨"OneStepMore$Walk", "goOn", "(Z)I"⟩ ∈ WS := WS_s 29 rfl rfl
theorem wd30 : Cond.selects "OneStepMore$Walk" ⟨"OneStepMore$Walk", "turnToWay", "()V"⟩ ⟨"OneStepMore$Walk", "turnToWay", "()V"⟩ ∈ WS := WS_s 30 rfl rfl
theorem wd31 : Cond.selects "OneStepMore$Laws" ⟨"OneStepMore$Laws", "rules", "(I)Z"⟩ ⟨"OneStepMore$Laws", "rules", "(I)Z"⟩ ∈ WS := WS_s 31 rfl rfl
theorem wd32 : Cond.selects "OneStepMore$Laws" ⟨"OneStepMore$Laws", "worked", "(I)I"⟩ ⟨"OneStepMore$Laws", "worked", "(I)I"⟩ ∈ WS := WS_s 32 rfl rfl
theorem wd33 : Cond.selects "OneStepMore$Walk" ⟨"OneStepMore$Walk", "down", "(I)V"⟩ ⟨"OneStepMore$Walk", "down", "(I)V"⟩ ∈ WS := WS_s 33 rfl rfl
theorem wd34 : Cond.selects "OneStepMore$Walk" ⟨"OneStepMore$Walk", "isDone", "(LOneStepMore$Text;I)Z"⟩ ⟨"OneStepMore$Walk", "isDone", "(LOneStepMore$Text;I)Z"⟩ ∈ WS := WS_s 34 rfl rfl
theorem wd35 : Cond.selects "OneStepMore$Mind" ⟨"OneStepMore$Mind", "spreadFrom", "(III)V"⟩ ⟨"OneStepMore$Mind", "spreadFrom", "(III)V"⟩ ∈ WS := WS_s 35 rfl rfl
theorem wd36 : Cond.selects "OneStepMore$Mind" ⟨"OneStepMore$Mind", "add", "(IIJ)V"⟩ ⟨"OneStepMore$Mind", "add", "(IIJ)V"⟩ ∈ WS := WS_s 36 rfl rfl
theorem wd37 : Cond.selects "OneStepMore$Mind" ⟨"OneStepMore$Mind", "gather", "(I)V"⟩ ⟨"OneStepMore$Mind", "gather", "(I)V"⟩ ∈ WS := WS_s 37 rfl rfl
theorem wd38 : Cond.selects "OneStepMore$Mind" ⟨"OneStepMore$Mind", "chance", "(II)J"⟩ ⟨"OneStepMore$Mind", "chance", "(II)J"⟩ ∈ WS := WS_s 38 rfl rfl
theorem wd39 : Cond.selects "OneStepMore$Mind" ⟨"OneStepMore$Mind", "carry", "(I)V"⟩ ⟨"OneStepMore$Mind", "carry", "(I)V"⟩ ∈ WS := WS_s 39 rfl rfl
theorem wd40 : Cond.selects "OneStepMore$Mind" ⟨"OneStepMore$Mind", "evenChance", "(II)J"⟩ ⟨"OneStepMore$Mind", "evenChance", "(II)J"⟩ ∈ WS := WS_s 40 rfl rfl
theorem wd41 : Cond.selects "OneStepMore$Mind" ⟨"OneStepMore$Mind", "costOfToes", "()J"⟩ ⟨"OneStepMore$Mind", "costOfToes", "()J"⟩ ∈ WS := WS_s 41 rfl rfl
theorem wd42 : Cond.selects "OneStepMore$Mind" ⟨"OneStepMore$Mind", "boldlyMore", "(I)J"⟩ ⟨"OneStepMore$Mind", "boldlyMore", "(I)J"⟩ ∈ WS := WS_s 42 rfl rfl
theorem wd43 : Cond.selects "OneStepMore$Mind" ⟨"OneStepMore$Mind", "chanceOfJar", "(I)J"⟩ ⟨"OneStepMore$Mind", "chanceOfJar", "(I)J"⟩ ∈ WS := WS_s 43 rfl rfl
theorem wd44 : Cond.selects "OneStepMore$Tales" ⟨"OneStepMore$Tales", "counted", "(II)I"⟩ ⟨"OneStepMore$Tales", "counted", "(II)I"⟩ ∈ WS := WS_s 44 rfl rfl
theorem wd45 : Cond.selects "OneStepMore$Tales" ⟨"OneStepMore$Tales", "mostOften", "(I)I"⟩ ⟨"OneStepMore$Tales", "mostOften", "(I)I"⟩ ∈ WS := WS_s 45 rfl rfl
theorem wd46 : Cond.selects "OneStepMore$Tales" ⟨"OneStepMore$Tales", "allSeenBy", "(LOneStepMore$Text;)Z"⟩ ⟨"OneStepMore$Tales", "allSeenBy", "(LOneStepMore$Text;)Z"⟩ ∈ WS := WS_s 46 rfl rfl
theorem wd47 : Cond.selects "OneStepMore$Leveller" ⟨"OneStepMore$Leveller", "plan", "(LOneStepMore$House;IZ)V"⟩ ⟨"OneStepMore$Leveller", "plan", "(LOneStepMore$House;IZ)V"⟩ ∈ WS := WS_s 47 rfl rfl
theorem wd48 : Cond.selects "OneStepMore$Leveller" ⟨"OneStepMore$Leveller", "weigh", "(LOneStepMore$House;IZ)V"⟩ ⟨"OneStepMore$Leveller", "weigh", "(LOneStepMore$House;IZ)V"⟩ ∈ WS := WS_s 48 rfl rfl
theorem wd49 : Cond.selects "OneStepMore$Leveller" ⟨"OneStepMore$Leveller", "choose", "(LOneStepMore$House;III)V"⟩ ⟨"OneStepMore$Leveller", "choose", "(LOneStepMore$House;III)V"⟩ ∈ WS := WS_s 49 rfl rfl
theorem wd50 : Cond.selects "OneStepMore$Leveller" ⟨"OneStepMore$Leveller", "cheapest", "()I"⟩ ⟨"OneStepMore$Leveller", "cheapest", "()I"⟩ ∈ WS := WS_s 50 rfl rfl
theorem wd51 : Cond.selects "OneStepMore$Leveller" ⟨"OneStepMore$Leveller", "anyoneTrips", "(LOneStepMore$House;IIII)Z"⟩ ⟨"OneStepMore$Leveller", "anyoneTrips", "(LOneStepMore$House;IIII)Z"⟩ ∈ WS := WS_s 51 rfl rfl
theorem wd52 : Cond.selects "OneStepMoreModel" ⟨"OneStepMoreModel", "build", "(II)V"⟩ ⟨"OneStepMoreModel", "build", "(II)V"⟩ ∈ WS := WS_s 52 rfl rfl
theorem wd53 : Cond.selects "OneStepMoreModel" ⟨"OneStepMoreModel", "told", "(I)Z"⟩ ⟨"OneStepMoreModel", "told", "(I)Z"⟩ ∈ WS := WS_s 53 rfl rfl
theorem wd54 : Cond.selects "OneStepMoreModel" ⟨"OneStepMoreModel", "isStep", "(II)Z"⟩ ⟨"OneStepMoreModel", "isStep", "(II)Z"⟩ ∈ WS := WS_s 54 rfl rfl
theorem wd55 : Cond.selects "OneStepMoreModel" ⟨"OneStepMoreModel", "stepsOf", "(I)I"⟩ ⟨"OneStepMoreModel", "stepsOf", "(I)I"⟩ ∈ WS := WS_s 55 rfl rfl
theorem wd56 : Cond.selects "OneStepMoreModel" ⟨"OneStepMoreModel", "marksOf", "(I)I"⟩ ⟨"OneStepMoreModel", "marksOf", "(I)I"⟩ ∈ WS := WS_s 56 rfl rfl
theorem wd57 : Cond.selects "OneStepMoreModel" ⟨"OneStepMoreModel", "four", "(I)V"⟩ ⟨"OneStepMoreModel", "four", "(I)V"⟩ ∈ WS := WS_s 57 rfl rfl
theorem wd58 : Cond.selects "OneStepMoreModel" ⟨"OneStepMoreModel", "readText", "()I"⟩ ⟨"OneStepMoreModel", "readText", "()I"⟩ ∈ WS := WS_s 58 rfl rfl
theorem wd59 : Cond.selects "OneStepMoreModel" ⟨"OneStepMoreModel", "nextToken", "()V"⟩ ⟨"OneStepMoreModel", "nextToken", "()V"⟩ ∈ WS := WS_s 59 rfl rfl
theorem wd60 : Cond.selects "OneStepMoreModel" ⟨"OneStepMoreModel", "byteAt", "(I)I"⟩ ⟨"OneStepMoreModel", "byteAt", "(I)I"⟩ ∈ WS := WS_s 60 rfl rfl
theorem wd61 : Cond.selects "OneStepMoreModel" ⟨"OneStepMoreModel", "clause", "()I"⟩ ⟨"OneStepMoreModel", "clause", "()I"⟩ ∈ WS := WS_s 61 rfl rfl
theorem wd62 : Cond.selects "OneStepMoreModel" ⟨"OneStepMoreModel", "sortOf", "()I"⟩ ⟨"OneStepMoreModel", "sortOf", "()I"⟩ ∈ WS := WS_s 62 rfl rfl
theorem wd63 : Cond.selects "OneStepMoreModel" ⟨"OneStepMoreModel", "isWord", "(J)Z"⟩ ⟨"OneStepMoreModel", "isWord", "(J)Z"⟩ ∈ WS := WS_s 63 rfl rfl
theorem wd64 : Cond.selects "OneStepMoreModel" ⟨"OneStepMoreModel", "body", "(II)I"⟩ ⟨"OneStepMoreModel", "body", "(II)I"⟩ ∈ WS := WS_s 64 rfl rfl
theorem wd65 : Cond.selects "OneStepMoreModel" ⟨"OneStepMoreModel", "lawClause", "(II)I"⟩ ⟨"OneStepMoreModel", "lawClause", "(II)I"⟩ ∈ WS := WS_s 65 rfl rfl
theorem wd66 : Cond.selects "OneStepMoreModel" ⟨"OneStepMoreModel", "parsed", "(Z)I"⟩ ⟨"OneStepMoreModel", "parsed", "(Z)I"⟩ ∈ WS := WS_s 66 rfl rfl
theorem wd67 : Cond.selects "OneStepMoreModel" ⟨"OneStepMoreModel", "behindOne", "(Z)Z"⟩ ⟨"OneStepMoreModel", "behindOne", "(Z)Z"⟩ ∈ WS := WS_s 67 rfl rfl
theorem wd68 : Cond.selects "OneStepMoreModel" ⟨"OneStepMoreModel", "betweenOf", "(Z)I"⟩ ⟨"OneStepMoreModel", "betweenOf", "(Z)I"⟩ ∈ WS := WS_s 68 rfl rfl
theorem wd69 : Cond.selects "OneStepMoreModel" ⟨"OneStepMoreModel", "kindOpen", "(Z)I"⟩ ⟨"OneStepMoreModel", "kindOpen", "(Z)I"⟩ ∈ WS := WS_s 69 rfl rfl
theorem wd70 : Cond.selects "OneStepMoreModel" ⟨"OneStepMoreModel", "marker", "()I"⟩ ⟨"OneStepMoreModel", "marker", "()I"⟩ ∈ WS := WS_s 70 rfl rfl
theorem wd71 : Cond.selects "OneStepMoreModel" ⟨"OneStepMoreModel", "isCompared", "()Z"⟩ ⟨"OneStepMoreModel", "isCompared", "()Z"⟩ ∈ WS := WS_s 71 rfl rfl
theorem wd72 : Cond.selects "OneStepMoreModel" ⟨"OneStepMoreModel", "compareOf", "()I"⟩ ⟨"OneStepMoreModel", "compareOf", "()I"⟩ ∈ WS := WS_s 72 rfl rfl
theorem wd73 : Cond.selects "OneStepMoreModel" ⟨"OneStepMoreModel", "settle", "(I)V"⟩ ⟨"OneStepMoreModel", "settle", "(I)V"⟩ ∈ WS := WS_s 73 rfl rfl
theorem wd74 : Cond.selects "OneStepMoreModel" ⟨"OneStepMoreModel", "emit", "(II)V"⟩ ⟨"OneStepMoreModel", "emit", "(II)V"⟩ ∈ WS := WS_s 74 rfl rfl
theorem wd75 : Cond.selects "OneStepMoreModel" ⟨"OneStepMoreModel", "push", "(I)V"⟩ ⟨"OneStepMoreModel", "push", "(I)V"⟩ ∈ WS := WS_s 75 rfl rfl
theorem wd76 : Cond.selects "OneStepMoreModel" ⟨"OneStepMoreModel", "whole", "()V"⟩ ⟨"OneStepMoreModel", "whole", "()V"⟩ ∈ WS := WS_s 76 rfl rfl
theorem wd77 : Cond.selects "OneStepMoreModel" ⟨"OneStepMoreModel", "beginOne", "(Z)I"⟩ ⟨"OneStepMoreModel", "beginOne", "(Z)I"⟩ ∈ WS := WS_s 77 rfl rfl
theorem wd78 : Cond.selects "OneStepMoreModel" ⟨"OneStepMoreModel", "nameOf", "()I"⟩ ⟨"OneStepMoreModel", "nameOf", "()I"⟩ ∈ WS := WS_s 78 rfl rfl
theorem wd79 : Cond.selects "OneStepMoreModel" ⟨"OneStepMoreModel", "isOf", "(I)Z"⟩ ⟨"OneStepMoreModel", "isOf", "(I)Z"⟩ ∈ WS := WS_s 79 rfl rfl
theorem wd80 : Cond.selects "OneStepMoreModel" ⟨"OneStepMoreModel", "opensBy", "(I)I"⟩ ⟨"OneStepMoreModel", "opensBy", "(I)I"⟩ ∈ WS := WS_s 80 rfl rfl
theorem wd81 : Cond.selects "OneStepMoreModel" ⟨"OneStepMoreModel", "isAskAhead", "(Z)Z"⟩ ⟨"OneStepMoreModel", "isAskAhead", "(Z)Z"⟩ ∈ WS := WS_s 81 rfl rfl
theorem wd82 : Cond.selects "OneStepMoreModel" ⟨"OneStepMoreModel", "highClause", "(I)I"⟩ ⟨"OneStepMoreModel", "highClause", "(I)I"⟩ ∈ WS := WS_s 82 rfl rfl
theorem wd83 : Cond.selects "OneStepMoreModel" ⟨"OneStepMoreModel", "figure", "(III)I"⟩ ⟨"OneStepMoreModel", "figure", "(III)I"⟩ ∈ WS := WS_s 83 rfl rfl
theorem wd84 : Cond.selects "OneStepMoreModel" ⟨"OneStepMoreModel", "worded", "(JIII)I"⟩ ⟨"OneStepMoreModel", "worded", "(JIII)I"⟩ ∈ WS := WS_s 84 rfl rfl
theorem wd85 : Cond.selects "OneStepMoreModel" ⟨"OneStepMoreModel", "ofHouse", "(I)I"⟩ ⟨"OneStepMoreModel", "ofHouse", "(I)I"⟩ ∈ WS := WS_s 85 rfl rfl
theorem wd86 : Cond.selects "OneStepMoreModel" ⟨"OneStepMoreModel", "oneClause", "(I)I"⟩ ⟨"OneStepMoreModel", "oneClause", "(I)I"⟩ ∈ WS := WS_s 86 rfl rfl
theorem wd87 : Cond.selects "OneStepMoreModel" ⟨"OneStepMoreModel", "pair", "(II)I"⟩ ⟨"OneStepMoreModel", "pair", "(II)I"⟩ ∈ WS := WS_s 87 rfl rfl
theorem wd88 : Cond.selects "OneStepMoreModel" ⟨"OneStepMoreModel", "isMind", "(III)Z"⟩ ⟨"OneStepMoreModel", "isMind", "(III)Z"⟩ ∈ WS := WS_s 88 rfl rfl
theorem wd89 : Cond.selects "OneStepMoreModel" ⟨"OneStepMoreModel", "isPerson", "(I)Z"⟩ ⟨"OneStepMoreModel", "isPerson", "(I)Z"⟩ ∈ WS := WS_s 89 rfl rfl
theorem wd90 : Cond.selects "OneStepMoreModel" ⟨"OneStepMoreModel", "noneAt", "(IIII)I"⟩ ⟨"OneStepMoreModel", "noneAt", "(IIII)I"⟩ ∈ WS := WS_s 90 rfl rfl
theorem wd91 : Cond.selects "OneStepMoreModel" ⟨"OneStepMoreModel", "nameAt", "(IIII)V"⟩ ⟨"OneStepMoreModel", "nameAt", "(IIII)V"⟩ ∈ WS := WS_s 91 rfl rfl
theorem wd92 : Cond.selects "OneStepMoreModel" ⟨"OneStepMoreModel", "name", "(III)V"⟩ ⟨"OneStepMoreModel", "name", "(III)V"⟩ ∈ WS := WS_s 92 rfl rfl
theorem wd93 : Cond.selects "OneStepMoreModel" ⟨"OneStepMoreModel", "heightOf", "(II)I"⟩ ⟨"OneStepMoreModel", "heightOf", "(II)I"⟩ ∈ WS := WS_s 93 rfl rfl
theorem wd94 : Cond.selects "OneStepMoreModel" ⟨"OneStepMoreModel", "nameStep", "(IIIII)V"⟩ ⟨"OneStepMoreModel", "nameStep", "(IIIII)V"⟩ ∈ WS := WS_s 94 rfl rfl
theorem wd95 : Cond.selects "OneStepMoreModel" ⟨"OneStepMoreModel", "railOf", "(I)I"⟩ ⟨"OneStepMoreModel", "railOf", "(I)I"⟩ ∈ WS := WS_s 95 rfl rfl
theorem wd96 : Cond.selects "OneStepMoreModel" ⟨"OneStepMoreModel", "sumBy", "(III)I"⟩ ⟨"OneStepMoreModel", "sumBy", "(III)I"⟩ ∈ WS := WS_s 96 rfl rfl
theorem wd97 : Cond.selects "OneStepMoreModel" ⟨"OneStepMoreModel", "clauseOf", "(II)I"⟩ ⟨"OneStepMoreModel", "clauseOf", "(II)I"⟩ ∈ WS := WS_s 97 rfl rfl
theorem wd98 : Cond.selects "OneStepMoreModel" ⟨"OneStepMoreModel", "work", "(II)V"⟩ ⟨"OneStepMoreModel", "work", "(II)V"⟩ ∈ WS := WS_s 98 rfl rfl
theorem wd99 : Cond.selects "OneStepMoreModel" ⟨"OneStepMoreModel", "twiceAt", "(IIII)I"⟩ ⟨"OneStepMoreModel", "twiceAt", "(IIII)I"⟩ ∈ WS := WS_s 99 rfl rfl
theorem wd100 : Cond.selects "OneStepMoreModel" ⟨"OneStepMoreModel", "tripsAt", "(IIII)Z"⟩ ⟨"OneStepMoreModel", "tripsAt", "(IIII)Z"⟩ ∈ WS := WS_s 100 rfl rfl
theorem wd101 : Cond.selects "OneStepMoreModel" ⟨"OneStepMoreModel", "tripsBy", "(IIIIIII)Z"⟩ ⟨"OneStepMoreModel", "tripsBy", "(IIIIIII)Z"⟩ ∈ WS := WS_s 101 rfl rfl
theorem wd102 : Cond.selects "OneStepMoreModel" ⟨"OneStepMoreModel", "jarOf", "(III)I"⟩ ⟨"OneStepMoreModel", "jarOf", "(III)I"⟩ ∈ WS := WS_s 102 rfl rfl
theorem wd103 : Cond.selects "OneStepMoreModel" ⟨"OneStepMoreModel", "fallOf", "(III)I"⟩ ⟨"OneStepMoreModel", "fallOf", "(III)I"⟩ ∈ WS := WS_s 103 rfl rfl
theorem wd104 : Cond.selects "OneStepMoreModel" ⟨"OneStepMoreModel", "keep", "()V"⟩ ⟨"OneStepMoreModel", "keep", "()V"⟩ ∈ WS := WS_s 104 rfl rfl
theorem wd105 : Cond.selects "OneStepMoreModel" ⟨"OneStepMoreModel", "beginNow", "(III)V"⟩ ⟨"OneStepMoreModel", "beginNow", "(III)V"⟩ ∈ WS := WS_s 105 rfl rfl
theorem wd106 : Cond.selects "OneStepMoreModel" ⟨"OneStepMoreModel", "drawn", "()I"⟩ ⟨"OneStepMoreModel", "drawn", "()I"⟩ ∈ WS := WS_s 106 rfl rfl
theorem wd107 : Cond.selects "OneStepMoreModel" ⟨"OneStepMoreModel", "anew", "()V"⟩ ⟨"OneStepMoreModel", "anew", "()V"⟩ ∈ WS := WS_s 107 rfl rfl
theorem wd108 : Cond.selects "OneStepMoreModel" ⟨"OneStepMoreModel", "stepNow", "()V"⟩ ⟨"OneStepMoreModel", "stepNow", "()V"⟩ ∈ WS := WS_s 108 rfl rfl
theorem wd109 : Cond.selects "OneStepMoreModel" ⟨"OneStepMoreModel", "down", "(I)V"⟩ ⟨"OneStepMoreModel", "down", "(I)V"⟩ ∈ WS := WS_s 109 rfl rfl
theorem wd110 : Cond.selects "OneStepMoreModel" ⟨"OneStepMoreModel", "counted", "()V"⟩ ⟨"OneStepMoreModel", "counted", "()V"⟩ ∈ WS := WS_s 110 rfl rfl
theorem wd111 : Cond.selects "OneStepMoreModel" ⟨"OneStepMoreModel", "toeNow", "()V"⟩ ⟨"OneStepMoreModel", "toeNow", "()V"⟩ ∈ WS := WS_s 111 rfl rfl
theorem wd112 : Cond.selects "OneStepMoreModel" ⟨"OneStepMoreModel", "nightNow", "()Z"⟩ ⟨"OneStepMoreModel", "nightNow", "()Z"⟩ ∈ WS := WS_s 112 rfl rfl
theorem wd113 : Cond.selects "OneStepMoreModel" ⟨"OneStepMoreModel", "isPlayed", "(I)Z"⟩ ⟨"OneStepMoreModel", "isPlayed", "(I)Z"⟩ ∈ WS := WS_s 113 rfl rfl
theorem wd114 : Cond.selects "OneStepMoreModel" ⟨"OneStepMoreModel", "areDone", "(II)Z"⟩ ⟨"OneStepMoreModel", "areDone", "(II)Z"⟩ ∈ WS := WS_s 114 rfl rfl
theorem wd115 : Cond.selects "OneStepMoreModel" ⟨"OneStepMoreModel", "shown", "()I"⟩ ⟨"OneStepMoreModel", "shown", "()I"⟩ ∈ WS := WS_s 115 rfl rfl
theorem wd116 : Cond.selects "OneStepMoreModel" ⟨"OneStepMoreModel", "bookAt", "(II)I"⟩ ⟨"OneStepMoreModel", "bookAt", "(II)I"⟩ ∈ WS := WS_s 116 rfl rfl
theorem wd117 : Cond.selects "OneStepMoreModel" ⟨"OneStepMoreModel", "start", "(IZZ)V"⟩ ⟨"OneStepMoreModel", "start", "(IZZ)V"⟩ ∈ WS := WS_s 117 rfl rfl
theorem wd118 : Cond.selects "OneStepMoreModel" ⟨"OneStepMoreModel", "goAll", "(III)V"⟩ ⟨"OneStepMoreModel", "goAll", "(III)V"⟩ ∈ WS := WS_s 118 rfl rfl
theorem wd119 : Cond.selects "OneStepMoreModel" ⟨"OneStepMoreModel", "goOn", "(IIIIII)V"⟩ ⟨"OneStepMoreModel", "goOn", "(IIIIII)V"⟩ ∈ WS := WS_s 119 rfl rfl
theorem wd120 : Cond.selects "OneStepMoreModel" ⟨"OneStepMoreModel", "reckon", "(IIIII)V"⟩ ⟨"OneStepMoreModel", "reckon", "(IIIII)V"⟩ ∈ WS := WS_s 120 rfl rfl
theorem wd121 : Cond.selects "OneStepMoreModel" ⟨"OneStepMoreModel", "best", "(IIII)I"⟩ ⟨"OneStepMoreModel", "best", "(IIII)I"⟩ ∈ WS := WS_s 121 rfl rfl
theorem wd122 : Cond.selects "OneStepMoreModel" ⟨"OneStepMoreModel", "jarred", "(IIIZ)J"⟩ ⟨"OneStepMoreModel", "jarred", "(IIIZ)J"⟩ ∈ WS := WS_s 122 rfl rfl
theorem wd123 : Cond.selects "OneStepMoreModel" ⟨"OneStepMoreModel", "legsOf", "(I)I"⟩ ⟨"OneStepMoreModel", "legsOf", "(I)I"⟩ ∈ WS := WS_s 123 rfl rfl
theorem wd124 : Cond.selects "OneStepMoreModel" ⟨"OneStepMoreModel", "isSeenBy", "(I)Z"⟩ ⟨"OneStepMoreModel", "isSeenBy", "(I)Z"⟩ ∈ WS := WS_s 124 rfl rfl
theorem wd125 : Cond.selects "OneStepMoreModel" ⟨"OneStepMoreModel", "findWork", "(IZ)V"⟩ ⟨"OneStepMoreModel", "findWork", "(IZ)V"⟩ ∈ WS := WS_s 125 rfl rfl
theorem wd126 : Cond.selects "OneStepMoreModel" ⟨"OneStepMoreModel", "workBy", "(IIIIZ)I"⟩ ⟨"OneStepMoreModel", "workBy", "(IIIIZ)I"⟩ ∈ WS := WS_s 126 rfl rfl
theorem wd127 : Cond.selects "OneStepMoreModel" ⟨"OneStepMoreModel", "isSmooth", "(IIII)Z"⟩ ⟨"OneStepMoreModel", "isSmooth", "(IIII)Z"⟩ ∈ WS := WS_s 127 rfl rfl
theorem wd128 : Cond.selects "OneStepMoreModel" ⟨"OneStepMoreModel", "workOf", "(IIIZ)I"⟩ ⟨"OneStepMoreModel", "workOf", "(IIIZ)I"⟩ ∈ WS := WS_s 128 rfl rfl
theorem wd130 : (Jvm.Cond.initialized "OneStepMore") ∈ WS := WS_t1 1 rfl rfl
theorem wd131 : (Jvm.Cond.initialized "OneStepMore$Laws") ∈ WS := WS_t1 2 rfl rfl
theorem wd132 : (Jvm.Cond.initialized "OneStepMore$State") ∈ WS := WS_t1 3 rfl rfl
theorem wd133 : (Jvm.Cond.initialized "OneStepMore$House") ∈ WS := WS_t1 4 rfl rfl
theorem wd134 : (Jvm.Cond.initialized "java/util/Arrays") ∈ WS := WS_t1 5 rfl rfl
theorem wd135 : (Jvm.Cond.initialized "OneStepMore$Tape") ∈ WS := WS_t1 6 rfl rfl
theorem wd136 : (Jvm.Cond.initialized "OneStepMore$Reader") ∈ WS := WS_t1 7 rfl rfl
theorem wd137 : (Jvm.Cond.initialized "OneStepMore$Walk") ∈ WS := WS_t1 8 rfl rfl
theorem wd138 : (Jvm.Cond.initialized "OneStepMore$Mind") ∈ WS := WS_t1 9 rfl rfl
theorem wd139 : (Jvm.Cond.initialized "OneStepMore$Tales") ∈ WS := WS_t1 10 rfl rfl
theorem wd140 : (Jvm.Cond.initialized "OneStepMore$Leveller") ∈ WS := WS_t1 11 rfl rfl
theorem wd141 : (Jvm.Cond.initialized "OneStepMoreModel") ∈ WS := WS_t1 12 rfl rfl
theorem wd142 : (Jvm.Cond.initialized "java/lang/Math") ∈ WS := WS_t1 13 rfl rfl
theorem wd143 : (Jvm.Cond.initialized "java/lang/String") ∈ WS := WS_t1 14 rfl rfl
theorem wd144 : (Jvm.Cond.initialized "java/lang/StringLatin1") ∈ WS := WS_t1 15 rfl rfl
theorem wd145 : (Jvm.Cond.initialized "jdk/internal/util/Preconditions") ∈ WS := WS_t1 16 rfl rfl
theorem wd147 : (Jvm.Cond.initialized "OneStepMore$Text") ∈ WS := WS_t1 18 rfl rfl
theorem wd148 : (Jvm.Cond.initialized "java/lang/System") ∈ WS := WS_t1 19 rfl rfl
theorem wd149 : (Jvm.Cond.classLink "OneStepMoreLaw" (7 : Nat) "OneStepMore") ∈ WS := WS_t1 20 rfl rfl
theorem wd150 : (Jvm.Cond.instantiable "OneStepMore" (8 : Nat)) ∈ WS := WS_t1 21 rfl rfl
theorem wd151 : (Jvm.Cond.methodLink "OneStepMoreLaw" (9 : Nat) ({ cls := "OneStepMore", name := "<init>", desc := "()V" } : Jvm.MethodName)) ∈ WS := WS_t1 22 rfl rfl
theorem wd152 : (Jvm.Cond.instanceMethod ({ cls := "OneStepMore", name := "<init>", desc := "()V" } : Jvm.MethodName)) ∈ WS := WS_t1 23 rfl rfl
theorem wd153 : (Jvm.Cond.code ({ cls := "OneStepMore", name := "<init>", desc := "()V" } : Jvm.MethodName) prog_1_method_1_code (2 : Nat) (Option.none : Option Jvm.ClassFile.FieldType)) ∈ WS := WS_t1 24 rfl rfl
theorem wd154 : (Jvm.Cond.methodLink "OneStepMore" (1 : Nat) ({ cls := "java/lang/Object", name := "<init>", desc := "()V" } : Jvm.MethodName)) ∈ WS := WS_t1 25 rfl rfl
theorem wd155 : (Jvm.Cond.instanceMethod ({ cls := "java/lang/Object", name := "<init>", desc := "()V" } : Jvm.MethodName)) ∈ WS := WS_t1 26 rfl rfl
theorem wd156 : (Jvm.Cond.code ({ cls := "java/lang/Object", name := "<init>", desc := "()V" } : Jvm.MethodName) object_method_1_code (1 : Nat) (Option.none : Option Jvm.ClassFile.FieldType)) ∈ WS := WS_t1 27 rfl rfl
theorem wd157 : (Jvm.Cond.classLink "OneStepMore" (7 : Nat) "OneStepMore$Laws") ∈ WS := WS_t1 28 rfl rfl
theorem wd158 : (Jvm.Cond.instantiable "OneStepMore$Laws" (5 : Nat)) ∈ WS := WS_t1 29 rfl rfl
theorem wd160 : (Jvm.Cond.instanceMethod ({ cls := "OneStepMore$Laws", name := "<init>", desc := "()V" } : Jvm.MethodName)) ∈ WS := WS_t1 31 rfl rfl
theorem wd161 : (Jvm.Cond.code ({ cls := "OneStepMore$Laws", name := "<init>", desc := "()V" } : Jvm.MethodName) prog_3_method_1_code (1 : Nat) (Option.none : Option Jvm.ClassFile.FieldType)) ∈ WS := WS_t1 32 rfl rfl
theorem wd162 : (Jvm.Cond.methodLink "OneStepMore$Laws" (3 : Nat) ({ cls := "java/lang/Object", name := "<init>", desc := "()V" } : Jvm.MethodName)) ∈ WS := WS_t1 33 rfl rfl
theorem wd179 : (Jvm.Cond.arrayClass Jvm.ClassFile.FieldType.int) ∈ WS := WS_t1 50 rfl rfl
theorem wd180 : (Jvm.Cond.classLink "OneStepMore" (10 : Nat) "OneStepMore$State") ∈ WS := WS_t1 51 rfl rfl
theorem wd181 : (Jvm.Cond.instantiable "OneStepMore$State" (18 : Nat)) ∈ WS := WS_t1 52 rfl rfl
theorem wd182 : (Jvm.Cond.methodLink "OneStepMore" (12 : Nat) ({ cls := "OneStepMore$State", name := "<init>", desc := "()V" } : Jvm.MethodName)) ∈ WS := WS_t1 53 rfl rfl
theorem wd183 : (Jvm.Cond.instanceMethod ({ cls := "OneStepMore$State", name := "<init>", desc := "()V" } : Jvm.MethodName)) ∈ WS := WS_t1 54 rfl rfl
theorem wd184 : (Jvm.Cond.code ({ cls := "OneStepMore$State", name := "<init>", desc := "()V" } : Jvm.MethodName) prog_7_method_1_code (2 : Nat) (Option.none : Option Jvm.ClassFile.FieldType)) ∈ WS := WS_t1 55 rfl rfl
theorem wd185 : (Jvm.Cond.methodLink "OneStepMore$State" (3 : Nat) ({ cls := "java/lang/Object", name := "<init>", desc := "()V" } : Jvm.MethodName)) ∈ WS := WS_t1 56 rfl rfl
theorem wd186 : (Jvm.Cond.classLink "OneStepMore$State" (9 : Nat) "OneStepMore$House") ∈ WS := WS_t1 57 rfl rfl
theorem wd188 : (Jvm.Cond.classLink "OneStepMore$State" (40 : Nat) "OneStepMore$Text") ∈ WS := WS_t1 59 rfl rfl
theorem wd190 : (Jvm.Cond.instantiable "OneStepMore$House" (5 : Nat)) ∈ WS := WS_t1 61 rfl rfl
theorem wd191 : (Jvm.Cond.methodLink "OneStepMore$State" (52 : Nat) ({ cls := "OneStepMore$House", name := "<init>", desc := "()V" } : Jvm.MethodName)) ∈ WS := WS_t1 62 rfl rfl
theorem wd192 : (Jvm.Cond.instanceMethod ({ cls := "OneStepMore$House", name := "<init>", desc := "()V" } : Jvm.MethodName)) ∈ WS := WS_t1 63 rfl rfl
theorem wd193 : (Jvm.Cond.code ({ cls := "OneStepMore$House", name := "<init>", desc := "()V" } : Jvm.MethodName) prog_2_method_1_code (1 : Nat) (Option.none : Option Jvm.ClassFile.FieldType)) ∈ WS := WS_t1 64 rfl rfl
theorem wd194 : (Jvm.Cond.methodLink "OneStepMore$House" (3 : Nat) ({ cls := "java/lang/Object", name := "<init>", desc := "()V" } : Jvm.MethodName)) ∈ WS := WS_t1 65 rfl rfl
theorem wd195 : (Jvm.Cond.methodLink "OneStepMore$House" (19 : Nat) ({ cls := "java/util/Arrays", name := "fill", desc := "([II)V" } : Jvm.MethodName)) ∈ WS := WS_t1 66 rfl rfl
theorem wd196 : (Jvm.Cond.static ({ cls := "java/util/Arrays", name := "fill", desc := "([II)V" } : Jvm.MethodName)) ∈ WS := WS_t1 67 rfl rfl
theorem wd197 : (Jvm.Cond.code ({ cls := "java/util/Arrays", name := "fill", desc := "([II)V" } : Jvm.MethodName) prog_20_method_103_code (4 : Nat) (Option.none : Option Jvm.ClassFile.FieldType)) ∈ WS := WS_t1 68 rfl rfl
theorem wd310 : (Jvm.Cond.classLink "OneStepMore" (22 : Nat) "OneStepMore$Tape") ∈ WS := WS_t1 181 rfl rfl
theorem wd311 : (Jvm.Cond.instantiable "OneStepMore$Tape" (6 : Nat)) ∈ WS := WS_t1 182 rfl rfl
theorem wd313 : (Jvm.Cond.instanceMethod ({ cls := "OneStepMore$Tape", name := "<init>", desc := "()V" } : Jvm.MethodName)) ∈ WS := WS_t1 184 rfl rfl
theorem wd314 : (Jvm.Cond.code ({ cls := "OneStepMore$Tape", name := "<init>", desc := "()V" } : Jvm.MethodName) prog_9_method_1_code (1 : Nat) (Option.none : Option Jvm.ClassFile.FieldType)) ∈ WS := WS_t1 185 rfl rfl
theorem wd315 : (Jvm.Cond.methodLink "OneStepMore$Tape" (3 : Nat) ({ cls := "java/lang/Object", name := "<init>", desc := "()V" } : Jvm.MethodName)) ∈ WS := WS_t1 186 rfl rfl
theorem wd339 : (Jvm.Cond.classLink "OneStepMore" (29 : Nat) "OneStepMore$Reader") ∈ WS := WS_t1 210 rfl rfl
theorem wd340 : (Jvm.Cond.instantiable "OneStepMore$Reader" (14 : Nat)) ∈ WS := WS_t1 211 rfl rfl
theorem wd341 : (Jvm.Cond.methodLink "OneStepMore" (31 : Nat) ({ cls := "OneStepMore$Reader", name := "<init>", desc := "(LOneStepMore$Tape;)V" } : Jvm.MethodName)) ∈ WS := WS_t1 212 rfl rfl
theorem wd342 : (Jvm.Cond.instanceMethod ({ cls := "OneStepMore$Reader", name := "<init>", desc := "(LOneStepMore$Tape;)V" } : Jvm.MethodName)) ∈ WS := WS_t1 213 rfl rfl
theorem wd343 : (Jvm.Cond.code ({ cls := "OneStepMore$Reader", name := "<init>", desc := "(LOneStepMore$Tape;)V" } : Jvm.MethodName) prog_6_method_1_code (2 : Nat) (Option.none : Option Jvm.ClassFile.FieldType)) ∈ WS := WS_t1 214 rfl rfl
theorem wd344 : (Jvm.Cond.methodLink "OneStepMore$Reader" (3 : Nat) ({ cls := "java/lang/Object", name := "<init>", desc := "()V" } : Jvm.MethodName)) ∈ WS := WS_t1 215 rfl rfl
theorem wd390 : (Jvm.Cond.classLink "OneStepMore" (38 : Nat) "OneStepMore$Walk") ∈ WS := WS_t2 21 rfl rfl
theorem wd391 : (Jvm.Cond.instantiable "OneStepMore$Walk" (2 : Nat)) ∈ WS := WS_t2 22 rfl rfl
theorem wd392 : (Jvm.Cond.methodLink "OneStepMore" (40 : Nat) ({ cls := "OneStepMore$Walk", name := "<init>", desc := "(LOneStepMore$State;LOneStepMore$Laws;)V" } : Jvm.MethodName)) ∈ WS := WS_t2 23 rfl rfl
theorem wd393 : (Jvm.Cond.instanceMethod ({ cls := "OneStepMore$Walk", name := "<init>", desc := "(LOneStepMore$State;LOneStepMore$Laws;)V" } : Jvm.MethodName)) ∈ WS := WS_t2 24 rfl rfl
theorem wd394 : (Jvm.Cond.code ({ cls := "OneStepMore$Walk", name := "<init>", desc := "(LOneStepMore$State;LOneStepMore$Laws;)V" } : Jvm.MethodName) prog_11_method_1_code (3 : Nat) (Option.none : Option Jvm.ClassFile.FieldType)) ∈ WS := WS_t2 25 rfl rfl
theorem wd395 : (Jvm.Cond.methodLink "OneStepMore$Walk" (3 : Nat) ({ cls := "java/lang/Object", name := "<init>", desc := "()V" } : Jvm.MethodName)) ∈ WS := WS_t2 26 rfl rfl
theorem wd403 : (Jvm.Cond.classLink "OneStepMore" (47 : Nat) "OneStepMore$Mind") ∈ WS := WS_t2 34 rfl rfl
theorem wd404 : (Jvm.Cond.instantiable "OneStepMore$Mind" (13 : Nat)) ∈ WS := WS_t2 35 rfl rfl
theorem wd405 : (Jvm.Cond.methodLink "OneStepMore" (49 : Nat) ({ cls := "OneStepMore$Mind", name := "<init>", desc := "(LOneStepMore$State;LOneStepMore$Laws;)V" } : Jvm.MethodName)) ∈ WS := WS_t2 36 rfl rfl
theorem wd406 : (Jvm.Cond.instanceMethod ({ cls := "OneStepMore$Mind", name := "<init>", desc := "(LOneStepMore$State;LOneStepMore$Laws;)V" } : Jvm.MethodName)) ∈ WS := WS_t2 37 rfl rfl
theorem wd407 : (Jvm.Cond.code ({ cls := "OneStepMore$Mind", name := "<init>", desc := "(LOneStepMore$State;LOneStepMore$Laws;)V" } : Jvm.MethodName) prog_5_method_1_code (3 : Nat) (Option.none : Option Jvm.ClassFile.FieldType)) ∈ WS := WS_t2 38 rfl rfl
theorem wd408 : (Jvm.Cond.methodLink "OneStepMore$Mind" (3 : Nat) ({ cls := "java/lang/Object", name := "<init>", desc := "()V" } : Jvm.MethodName)) ∈ WS := WS_t2 39 rfl rfl
theorem wd450 : (Jvm.Cond.arrayClass Jvm.ClassFile.FieldType.long) ∈ WS := WS_t2 81 rfl rfl
theorem wd451 : (Jvm.Cond.classLink "OneStepMore" (54 : Nat) "OneStepMore$Tales") ∈ WS := WS_t2 82 rfl rfl
theorem wd452 : (Jvm.Cond.instantiable "OneStepMore$Tales" (3 : Nat)) ∈ WS := WS_t2 83 rfl rfl
theorem wd453 : (Jvm.Cond.methodLink "OneStepMore" (56 : Nat) ({ cls := "OneStepMore$Tales", name := "<init>", desc := "(LOneStepMore$State;LOneStepMore$Laws;)V" } : Jvm.MethodName)) ∈ WS := WS_t2 84 rfl rfl
theorem wd454 : (Jvm.Cond.instanceMethod ({ cls := "OneStepMore$Tales", name := "<init>", desc := "(LOneStepMore$State;LOneStepMore$Laws;)V" } : Jvm.MethodName)) ∈ WS := WS_t2 85 rfl rfl
theorem wd455 : (Jvm.Cond.code ({ cls := "OneStepMore$Tales", name := "<init>", desc := "(LOneStepMore$State;LOneStepMore$Laws;)V" } : Jvm.MethodName) prog_8_method_1_code (3 : Nat) (Option.none : Option Jvm.ClassFile.FieldType)) ∈ WS := WS_t2 86 rfl rfl
theorem wd456 : (Jvm.Cond.methodLink "OneStepMore$Tales" (3 : Nat) ({ cls := "java/lang/Object", name := "<init>", desc := "()V" } : Jvm.MethodName)) ∈ WS := WS_t2 87 rfl rfl
theorem wd467 : (Jvm.Cond.classLink "OneStepMore" (61 : Nat) "OneStepMore$Leveller") ∈ WS := WS_t2 98 rfl rfl
theorem wd468 : (Jvm.Cond.instantiable "OneStepMore$Leveller" (5 : Nat)) ∈ WS := WS_t2 99 rfl rfl
theorem wd469 : (Jvm.Cond.methodLink "OneStepMore" (63 : Nat) ({ cls := "OneStepMore$Leveller", name := "<init>", desc := "(LOneStepMore$State;LOneStepMore$Laws;)V" } : Jvm.MethodName)) ∈ WS := WS_t2 100 rfl rfl
theorem wd470 : (Jvm.Cond.instanceMethod ({ cls := "OneStepMore$Leveller", name := "<init>", desc := "(LOneStepMore$State;LOneStepMore$Laws;)V" } : Jvm.MethodName)) ∈ WS := WS_t2 101 rfl rfl
theorem wd471 : (Jvm.Cond.code ({ cls := "OneStepMore$Leveller", name := "<init>", desc := "(LOneStepMore$State;LOneStepMore$Laws;)V" } : Jvm.MethodName) prog_4_method_1_code (3 : Nat) (Option.none : Option Jvm.ClassFile.FieldType)) ∈ WS := WS_t2 102 rfl rfl
theorem wd472 : (Jvm.Cond.methodLink "OneStepMore$Leveller" (3 : Nat) ({ cls := "java/lang/Object", name := "<init>", desc := "()V" } : Jvm.MethodName)) ∈ WS := WS_t2 103 rfl rfl
theorem wd514 : (Jvm.Cond.methodLink "OneStepMoreLaw" (13 : Nat) ({ cls := "OneStepMore", name := "stair", desc := "(II)Z" } : Jvm.MethodName)) ∈ WS := WS_t2 145 rfl rfl
theorem wd515 : (Jvm.Cond.instanceMethod ({ cls := "OneStepMore", name := "stair", desc := "(II)Z" } : Jvm.MethodName)) ∈ WS := WS_t2 146 rfl rfl
theorem wd516 : (Jvm.Cond.selects "OneStepMore" ({ cls := "OneStepMore", name := "stair", desc := "(II)Z" } : Jvm.MethodName) ({ cls := "OneStepMore", name := "stair", desc := "(II)Z" } : Jvm.MethodName)) ∈ WS := WS_t2 147 rfl rfl
theorem wd517 : (Jvm.Cond.code ({ cls := "OneStepMore", name := "stair", desc := "(II)Z" } : Jvm.MethodName) prog_1_method_2_code (3 : Nat) (Option.some Jvm.ClassFile.FieldType.boolean)) ∈ WS := WS_t2 148 rfl rfl
theorem wd518 : (Jvm.Cond.methodLink "OneStepMore" (68 : Nat) ({ cls := "OneStepMore$State", name := "tellStairs", desc := "(II)Z" } : Jvm.MethodName)) ∈ WS := WS_t2 149 rfl rfl
theorem wd519 : (Jvm.Cond.instanceMethod ({ cls := "OneStepMore$State", name := "tellStairs", desc := "(II)Z" } : Jvm.MethodName)) ∈ WS := WS_t2 150 rfl rfl
theorem wd520 : (Jvm.Cond.selects "OneStepMore$State" ({ cls := "OneStepMore$State", name := "tellStairs", desc := "(II)Z" } : Jvm.MethodName) ({ cls := "OneStepMore$State", name := "tellStairs", desc := "(II)Z" } : Jvm.MethodName)) ∈ WS := WS_t2 151 rfl rfl
theorem wd521 : (Jvm.Cond.code ({ cls := "OneStepMore$State", name := "tellStairs", desc := "(II)Z" } : Jvm.MethodName) prog_7_method_8_code (4 : Nat) (Option.some Jvm.ClassFile.FieldType.boolean)) ∈ WS := WS_t2 152 rfl rfl
theorem wd522 : (Jvm.Cond.methodLink "OneStepMore$State" (59 : Nat) ({ cls := "OneStepMore$State", name := "houseOf", desc := "(I)LOneStepMore$House;" } : Jvm.MethodName)) ∈ WS := WS_t2 153 rfl rfl
theorem wd523 : (Jvm.Cond.instanceMethod ({ cls := "OneStepMore$State", name := "houseOf", desc := "(I)LOneStepMore$House;" } : Jvm.MethodName)) ∈ WS := WS_t2 154 rfl rfl
theorem wd524 : (Jvm.Cond.selects "OneStepMore$State" ({ cls := "OneStepMore$State", name := "houseOf", desc := "(I)LOneStepMore$House;" } : Jvm.MethodName) ({ cls := "OneStepMore$State", name := "houseOf", desc := "(I)LOneStepMore$House;" } : Jvm.MethodName)) ∈ WS := WS_t2 155 rfl rfl
theorem wd525 : (Jvm.Cond.code ({ cls := "OneStepMore$State", name := "houseOf", desc := "(I)LOneStepMore$House;" } : Jvm.MethodName) prog_7_method_2_code (2 : Nat) (Option.some (Jvm.ClassFile.FieldType.object "OneStepMore$House"))) ∈ WS := WS_t2 156 rfl rfl
theorem wd526 : (Jvm.Cond.methodLink "OneStepMore$State" (63 : Nat) ({ cls := "OneStepMore$State", name := "isOnWay", desc := "()Z" } : Jvm.MethodName)) ∈ WS := WS_t2 157 rfl rfl
theorem wd527 : (Jvm.Cond.instanceMethod ({ cls := "OneStepMore$State", name := "isOnWay", desc := "()Z" } : Jvm.MethodName)) ∈ WS := WS_t2 158 rfl rfl
theorem wd528 : (Jvm.Cond.selects "OneStepMore$State" ({ cls := "OneStepMore$State", name := "isOnWay", desc := "()Z" } : Jvm.MethodName) ({ cls := "OneStepMore$State", name := "isOnWay", desc := "()Z" } : Jvm.MethodName)) ∈ WS := WS_t2 159 rfl rfl
theorem wd529 : (Jvm.Cond.code ({ cls := "OneStepMore$State", name := "isOnWay", desc := "()Z" } : Jvm.MethodName) prog_7_method_4_code (1 : Nat) (Option.some Jvm.ClassFile.FieldType.boolean)) ∈ WS := WS_t2 160 rfl rfl
theorem wd530 : (Jvm.Cond.methodLink "OneStepMore$State" (67 : Nat) ({ cls := "OneStepMore$House", name := "build", desc := "(I)V" } : Jvm.MethodName)) ∈ WS := WS_t2 161 rfl rfl
theorem wd531 : (Jvm.Cond.instanceMethod ({ cls := "OneStepMore$House", name := "build", desc := "(I)V" } : Jvm.MethodName)) ∈ WS := WS_t2 162 rfl rfl
theorem wd532 : (Jvm.Cond.selects "OneStepMore$House" ({ cls := "OneStepMore$House", name := "build", desc := "(I)V" } : Jvm.MethodName) ({ cls := "OneStepMore$House", name := "build", desc := "(I)V" } : Jvm.MethodName)) ∈ WS := WS_t2 163 rfl rfl
theorem wd533 : (Jvm.Cond.code ({ cls := "OneStepMore$House", name := "build", desc := "(I)V" } : Jvm.MethodName) prog_2_method_2_code (2 : Nat) (Option.none : Option Jvm.ClassFile.FieldType)) ∈ WS := WS_t2 164 rfl rfl
theorem wd534 : (Jvm.Cond.methodLink "OneStepMoreLaw" (18 : Nat) ({ cls := "OneStepMore", name := "height", desc := "(III)Z" } : Jvm.MethodName)) ∈ WS := WS_t2 165 rfl rfl
theorem wd535 : (Jvm.Cond.instanceMethod ({ cls := "OneStepMore", name := "height", desc := "(III)Z" } : Jvm.MethodName)) ∈ WS := WS_t2 166 rfl rfl
theorem wd536 : (Jvm.Cond.selects "OneStepMore" ({ cls := "OneStepMore", name := "height", desc := "(III)Z" } : Jvm.MethodName) ({ cls := "OneStepMore", name := "height", desc := "(III)Z" } : Jvm.MethodName)) ∈ WS := WS_t2 167 rfl rfl
theorem wd537 : (Jvm.Cond.code ({ cls := "OneStepMore", name := "height", desc := "(III)Z" } : Jvm.MethodName) prog_1_method_3_code (4 : Nat) (Option.some Jvm.ClassFile.FieldType.boolean)) ∈ WS := WS_t2 168 rfl rfl
theorem wd538 : (Jvm.Cond.methodLink "OneStepMore" (72 : Nat) ({ cls := "OneStepMore$State", name := "tellHeight", desc := "(III)Z" } : Jvm.MethodName)) ∈ WS := WS_t2 169 rfl rfl
theorem wd539 : (Jvm.Cond.instanceMethod ({ cls := "OneStepMore$State", name := "tellHeight", desc := "(III)Z" } : Jvm.MethodName)) ∈ WS := WS_t2 170 rfl rfl
theorem wd540 : (Jvm.Cond.selects "OneStepMore$State" ({ cls := "OneStepMore$State", name := "tellHeight", desc := "(III)Z" } : Jvm.MethodName) ({ cls := "OneStepMore$State", name := "tellHeight", desc := "(III)Z" } : Jvm.MethodName)) ∈ WS := WS_t2 171 rfl rfl
theorem wd541 : (Jvm.Cond.code ({ cls := "OneStepMore$State", name := "tellHeight", desc := "(III)Z" } : Jvm.MethodName) prog_7_method_9_code (5 : Nat) (Option.some Jvm.ClassFile.FieldType.boolean)) ∈ WS := WS_t2 172 rfl rfl
theorem wd542 : (Jvm.Cond.methodLink "OneStepMore$State" (75 : Nat) ({ cls := "OneStepMore$House", name := "hasStep", desc := "(I)Z" } : Jvm.MethodName)) ∈ WS := WS_t2 173 rfl rfl
theorem wd543 : (Jvm.Cond.instanceMethod ({ cls := "OneStepMore$House", name := "hasStep", desc := "(I)Z" } : Jvm.MethodName)) ∈ WS := WS_t2 174 rfl rfl
theorem wd544 : (Jvm.Cond.selects "OneStepMore$House" ({ cls := "OneStepMore$House", name := "hasStep", desc := "(I)Z" } : Jvm.MethodName) ({ cls := "OneStepMore$House", name := "hasStep", desc := "(I)Z" } : Jvm.MethodName)) ∈ WS := WS_t2 175 rfl rfl
theorem wd545 : (Jvm.Cond.code ({ cls := "OneStepMore$House", name := "hasStep", desc := "(I)Z" } : Jvm.MethodName) prog_2_method_3_code (2 : Nat) (Option.some Jvm.ClassFile.FieldType.boolean)) ∈ WS := WS_t2 176 rfl rfl
theorem wd547 : (Jvm.Cond.static ({ cls := "OneStepMore", name := "put", desc := "([III)V" } : Jvm.MethodName)) ∈ WS := WS_t2 178 rfl rfl
theorem wd548 : (Jvm.Cond.code ({ cls := "OneStepMore", name := "put", desc := "([III)V" } : Jvm.MethodName) prog_1_method_49_code (3 : Nat) (Option.none : Option Jvm.ClassFile.FieldType)) ∈ WS := WS_t2 179 rfl rfl
theorem wd549 : (Jvm.Cond.methodLink "OneStepMoreLaw" (23 : Nat) ({ cls := "OneStepMore", name := "mark", desc := "(IIZ)Z" } : Jvm.MethodName)) ∈ WS := WS_t2 180 rfl rfl
theorem wd550 : (Jvm.Cond.instanceMethod ({ cls := "OneStepMore", name := "mark", desc := "(IIZ)Z" } : Jvm.MethodName)) ∈ WS := WS_t2 181 rfl rfl
theorem wd551 : (Jvm.Cond.selects "OneStepMore" ({ cls := "OneStepMore", name := "mark", desc := "(IIZ)Z" } : Jvm.MethodName) ({ cls := "OneStepMore", name := "mark", desc := "(IIZ)Z" } : Jvm.MethodName)) ∈ WS := WS_t2 182 rfl rfl
theorem wd552 : (Jvm.Cond.code ({ cls := "OneStepMore", name := "mark", desc := "(IIZ)Z" } : Jvm.MethodName) prog_1_method_4_code (4 : Nat) (Option.some Jvm.ClassFile.FieldType.boolean)) ∈ WS := WS_t2 183 rfl rfl
theorem wd553 : (Jvm.Cond.methodLink "OneStepMore" (76 : Nat) ({ cls := "OneStepMore$State", name := "tellMark", desc := "(IIZ)Z" } : Jvm.MethodName)) ∈ WS := WS_t2 184 rfl rfl
theorem wd554 : (Jvm.Cond.instanceMethod ({ cls := "OneStepMore$State", name := "tellMark", desc := "(IIZ)Z" } : Jvm.MethodName)) ∈ WS := WS_t2 185 rfl rfl
theorem wd555 : (Jvm.Cond.selects "OneStepMore$State" ({ cls := "OneStepMore$State", name := "tellMark", desc := "(IIZ)Z" } : Jvm.MethodName) ({ cls := "OneStepMore$State", name := "tellMark", desc := "(IIZ)Z" } : Jvm.MethodName)) ∈ WS := WS_t2 186 rfl rfl
theorem wd556 : (Jvm.Cond.code ({ cls := "OneStepMore$State", name := "tellMark", desc := "(IIZ)Z" } : Jvm.MethodName) prog_7_method_10_code (5 : Nat) (Option.some Jvm.ClassFile.FieldType.boolean)) ∈ WS := WS_t2 187 rfl rfl
theorem wd557 : (Jvm.Cond.methodLink "OneStepMore$State" (86 : Nat) ({ cls := "OneStepMore$House", name := "hasMark", desc := "(I)Z" } : Jvm.MethodName)) ∈ WS := WS_t2 188 rfl rfl
theorem wd558 : (Jvm.Cond.instanceMethod ({ cls := "OneStepMore$House", name := "hasMark", desc := "(I)Z" } : Jvm.MethodName)) ∈ WS := WS_t2 189 rfl rfl
theorem wd559 : (Jvm.Cond.selects "OneStepMore$House" ({ cls := "OneStepMore$House", name := "hasMark", desc := "(I)Z" } : Jvm.MethodName) ({ cls := "OneStepMore$House", name := "hasMark", desc := "(I)Z" } : Jvm.MethodName)) ∈ WS := WS_t2 190 rfl rfl
theorem wd560 : (Jvm.Cond.code ({ cls := "OneStepMore$House", name := "hasMark", desc := "(I)Z" } : Jvm.MethodName) prog_2_method_4_code (2 : Nat) (Option.some Jvm.ClassFile.FieldType.boolean)) ∈ WS := WS_t2 191 rfl rfl
theorem wd561 : (Jvm.Cond.methodLink "OneStepMore$House" (31 : Nat) ({ cls := "OneStepMore$House", name := "hasStep", desc := "(I)Z" } : Jvm.MethodName)) ∈ WS := WS_t2 192 rfl rfl
theorem wd562 : (Jvm.Cond.methodLink "OneStepMoreLaw" (28 : Nat) ({ cls := "OneStepMore", name := "rail", desc := "(II)Z" } : Jvm.MethodName)) ∈ WS := WS_t2 193 rfl rfl
theorem wd563 : (Jvm.Cond.instanceMethod ({ cls := "OneStepMore", name := "rail", desc := "(II)Z" } : Jvm.MethodName)) ∈ WS := WS_t2 194 rfl rfl
theorem wd564 : (Jvm.Cond.selects "OneStepMore" ({ cls := "OneStepMore", name := "rail", desc := "(II)Z" } : Jvm.MethodName) ({ cls := "OneStepMore", name := "rail", desc := "(II)Z" } : Jvm.MethodName)) ∈ WS := WS_t2 195 rfl rfl
theorem wd565 : (Jvm.Cond.code ({ cls := "OneStepMore", name := "rail", desc := "(II)Z" } : Jvm.MethodName) prog_1_method_5_code (3 : Nat) (Option.some Jvm.ClassFile.FieldType.boolean)) ∈ WS := WS_t2 196 rfl rfl
theorem wd566 : (Jvm.Cond.methodLink "OneStepMore" (80 : Nat) ({ cls := "OneStepMore$State", name := "tellRail", desc := "(II)Z" } : Jvm.MethodName)) ∈ WS := WS_t2 197 rfl rfl
theorem wd567 : (Jvm.Cond.instanceMethod ({ cls := "OneStepMore$State", name := "tellRail", desc := "(II)Z" } : Jvm.MethodName)) ∈ WS := WS_t2 198 rfl rfl
theorem wd568 : (Jvm.Cond.selects "OneStepMore$State" ({ cls := "OneStepMore$State", name := "tellRail", desc := "(II)Z" } : Jvm.MethodName) ({ cls := "OneStepMore$State", name := "tellRail", desc := "(II)Z" } : Jvm.MethodName)) ∈ WS := WS_t2 199 rfl rfl
theorem wd569 : (Jvm.Cond.code ({ cls := "OneStepMore$State", name := "tellRail", desc := "(II)Z" } : Jvm.MethodName) prog_7_method_12_code (4 : Nat) (Option.some Jvm.ClassFile.FieldType.boolean)) ∈ WS := WS_t2 200 rfl rfl
theorem wd570 : (Jvm.Cond.methodLink "OneStepMoreLaw" (32 : Nat) ({ cls := "OneStepMore", name := "person", desc := "(III)I" } : Jvm.MethodName)) ∈ WS := WS_t2 201 rfl rfl
theorem wd571 : (Jvm.Cond.instanceMethod ({ cls := "OneStepMore", name := "person", desc := "(III)I" } : Jvm.MethodName)) ∈ WS := WS_t2 202 rfl rfl
theorem wd572 : (Jvm.Cond.selects "OneStepMore" ({ cls := "OneStepMore", name := "person", desc := "(III)I" } : Jvm.MethodName) ({ cls := "OneStepMore", name := "person", desc := "(III)I" } : Jvm.MethodName)) ∈ WS := WS_t2 203 rfl rfl
theorem wd573 : (Jvm.Cond.code ({ cls := "OneStepMore", name := "person", desc := "(III)I" } : Jvm.MethodName) prog_1_method_6_code (4 : Nat) (Option.some Jvm.ClassFile.FieldType.int)) ∈ WS := WS_t2 204 rfl rfl
theorem wd574 : (Jvm.Cond.methodLink "OneStepMore" (83 : Nat) ({ cls := "OneStepMore$State", name := "tellPerson", desc := "(III)I" } : Jvm.MethodName)) ∈ WS := WS_t2 205 rfl rfl
theorem wd575 : (Jvm.Cond.instanceMethod ({ cls := "OneStepMore$State", name := "tellPerson", desc := "(III)I" } : Jvm.MethodName)) ∈ WS := WS_t2 206 rfl rfl
theorem wd576 : (Jvm.Cond.selects "OneStepMore$State" ({ cls := "OneStepMore$State", name := "tellPerson", desc := "(III)I" } : Jvm.MethodName) ({ cls := "OneStepMore$State", name := "tellPerson", desc := "(III)I" } : Jvm.MethodName)) ∈ WS := WS_t2 207 rfl rfl
theorem wd577 : (Jvm.Cond.code ({ cls := "OneStepMore$State", name := "tellPerson", desc := "(III)I" } : Jvm.MethodName) prog_7_method_13_code (4 : Nat) (Option.some Jvm.ClassFile.FieldType.int)) ∈ WS := WS_t2 208 rfl rfl
theorem wd578 : (Jvm.Cond.methodLink "OneStepMoreLaw" (37 : Nat) ({ cls := "OneStepMore", name := "seed", desc := "(I)Z" } : Jvm.MethodName)) ∈ WS := WS_t2 209 rfl rfl
theorem wd579 : (Jvm.Cond.instanceMethod ({ cls := "OneStepMore", name := "seed", desc := "(I)Z" } : Jvm.MethodName)) ∈ WS := WS_t2 210 rfl rfl
theorem wd580 : (Jvm.Cond.selects "OneStepMore" ({ cls := "OneStepMore", name := "seed", desc := "(I)Z" } : Jvm.MethodName) ({ cls := "OneStepMore", name := "seed", desc := "(I)Z" } : Jvm.MethodName)) ∈ WS := WS_t2 211 rfl rfl
theorem wd581 : (Jvm.Cond.code ({ cls := "OneStepMore", name := "seed", desc := "(I)Z" } : Jvm.MethodName) prog_1_method_7_code (2 : Nat) (Option.some Jvm.ClassFile.FieldType.boolean)) ∈ WS := WS_t2 212 rfl rfl
theorem wd582 : (Jvm.Cond.methodLink "OneStepMore" (87 : Nat) ({ cls := "OneStepMore", name := "isSeed", desc := "(I)Z" } : Jvm.MethodName)) ∈ WS := WS_t2 213 rfl rfl
theorem wd583 : (Jvm.Cond.static ({ cls := "OneStepMore", name := "isSeed", desc := "(I)Z" } : Jvm.MethodName)) ∈ WS := WS_t2 214 rfl rfl
theorem wd584 : (Jvm.Cond.code ({ cls := "OneStepMore", name := "isSeed", desc := "(I)Z" } : Jvm.MethodName) prog_1_method_44_code (1 : Nat) (Option.some Jvm.ClassFile.FieldType.boolean)) ∈ WS := WS_t2 215 rfl rfl
theorem wd585 : (Jvm.Cond.methodLink "OneStepMore" (91 : Nat) ({ cls := "OneStepMore", name := "seeded", desc := "(I)I" } : Jvm.MethodName)) ∈ WS := WS_t2 216 rfl rfl
theorem wd586 : (Jvm.Cond.static ({ cls := "OneStepMore", name := "seeded", desc := "(I)I" } : Jvm.MethodName)) ∈ WS := WS_t2 217 rfl rfl
theorem wd587 : (Jvm.Cond.code ({ cls := "OneStepMore", name := "seeded", desc := "(I)I" } : Jvm.MethodName) prog_1_method_45_code (1 : Nat) (Option.some Jvm.ClassFile.FieldType.int)) ∈ WS := WS_t2 218 rfl rfl
theorem wd588 : (Jvm.Cond.methodLink "OneStepMoreLaw" (42 : Nat) ({ cls := "OneStepMore", name := "feed", desc := "(IIIII)I" } : Jvm.MethodName)) ∈ WS := WS_t2 219 rfl rfl
theorem wd589 : (Jvm.Cond.instanceMethod ({ cls := "OneStepMore", name := "feed", desc := "(IIIII)I" } : Jvm.MethodName)) ∈ WS := WS_t2 220 rfl rfl
theorem wd590 : (Jvm.Cond.selects "OneStepMore" ({ cls := "OneStepMore", name := "feed", desc := "(IIIII)I" } : Jvm.MethodName) ({ cls := "OneStepMore", name := "feed", desc := "(IIIII)I" } : Jvm.MethodName)) ∈ WS := WS_t2 221 rfl rfl
theorem wd591 : (Jvm.Cond.code ({ cls := "OneStepMore", name := "feed", desc := "(IIIII)I" } : Jvm.MethodName) prog_1_method_8_code (6 : Nat) (Option.some Jvm.ClassFile.FieldType.int)) ∈ WS := WS_t2 222 rfl rfl
theorem wd592 : (Jvm.Cond.methodLink "OneStepMore" (99 : Nat) ({ cls := "OneStepMore$Tape", name := "hasRoom", desc := "()Z" } : Jvm.MethodName)) ∈ WS := WS_t2 223 rfl rfl
theorem wd593 : (Jvm.Cond.instanceMethod ({ cls := "OneStepMore$Tape", name := "hasRoom", desc := "()Z" } : Jvm.MethodName)) ∈ WS := WS_t2 224 rfl rfl
theorem wd594 : (Jvm.Cond.selects "OneStepMore$Tape" ({ cls := "OneStepMore$Tape", name := "hasRoom", desc := "()Z" } : Jvm.MethodName) ({ cls := "OneStepMore$Tape", name := "hasRoom", desc := "()Z" } : Jvm.MethodName)) ∈ WS := WS_t2 225 rfl rfl
theorem wd595 : (Jvm.Cond.code ({ cls := "OneStepMore$Tape", name := "hasRoom", desc := "()Z" } : Jvm.MethodName) prog_9_method_2_code (1 : Nat) (Option.some Jvm.ClassFile.FieldType.boolean)) ∈ WS := WS_t2 226 rfl rfl
theorem wd596 : (Jvm.Cond.methodLink "OneStepMore" (103 : Nat) ({ cls := "OneStepMore$Tape", name := "take", desc := "(I)V" } : Jvm.MethodName)) ∈ WS := WS_t2 227 rfl rfl
theorem wd597 : (Jvm.Cond.instanceMethod ({ cls := "OneStepMore$Tape", name := "take", desc := "(I)V" } : Jvm.MethodName)) ∈ WS := WS_t2 228 rfl rfl
theorem wd598 : (Jvm.Cond.selects "OneStepMore$Tape" ({ cls := "OneStepMore$Tape", name := "take", desc := "(I)V" } : Jvm.MethodName) ({ cls := "OneStepMore$Tape", name := "take", desc := "(I)V" } : Jvm.MethodName)) ∈ WS := WS_t2 229 rfl rfl
theorem wd599 : (Jvm.Cond.code ({ cls := "OneStepMore$Tape", name := "take", desc := "(I)V" } : Jvm.MethodName) prog_9_method_3_code (3 : Nat) (Option.none : Option Jvm.ClassFile.FieldType)) ∈ WS := WS_t2 230 rfl rfl
theorem wd601 : (Jvm.Cond.methodLink "OneStepMoreLaw" (47 : Nat) ({ cls := "OneStepMore", name := "end", desc := "(I)I" } : Jvm.MethodName)) ∈ WS := WS_t2 232 rfl rfl
theorem wd602 : (Jvm.Cond.instanceMethod ({ cls := "OneStepMore", name := "end", desc := "(I)I" } : Jvm.MethodName)) ∈ WS := WS_t2 233 rfl rfl
theorem wd603 : (Jvm.Cond.selects "OneStepMore" ({ cls := "OneStepMore", name := "end", desc := "(I)I" } : Jvm.MethodName) ({ cls := "OneStepMore", name := "end", desc := "(I)I" } : Jvm.MethodName)) ∈ WS := WS_t2 234 rfl rfl
theorem wd604 : (Jvm.Cond.code ({ cls := "OneStepMore", name := "end", desc := "(I)I" } : Jvm.MethodName) prog_1_method_9_code (2 : Nat) (Option.some Jvm.ClassFile.FieldType.int)) ∈ WS := WS_t2 235 rfl rfl
theorem wd605 : (Jvm.Cond.methodLink "OneStepMoreLaw" (52 : Nat) ({ cls := "OneStepMore", name := "text", desc := "()I" } : Jvm.MethodName)) ∈ WS := WS_t2 236 rfl rfl
theorem wd606 : (Jvm.Cond.instanceMethod ({ cls := "OneStepMore", name := "text", desc := "()I" } : Jvm.MethodName)) ∈ WS := WS_t2 237 rfl rfl
theorem wd607 : (Jvm.Cond.selects "OneStepMore" ({ cls := "OneStepMore", name := "text", desc := "()I" } : Jvm.MethodName) ({ cls := "OneStepMore", name := "text", desc := "()I" } : Jvm.MethodName)) ∈ WS := WS_t2 238 rfl rfl
theorem wd608 : (Jvm.Cond.code ({ cls := "OneStepMore", name := "text", desc := "()I" } : Jvm.MethodName) prog_1_method_10_code (2 : Nat) (Option.some Jvm.ClassFile.FieldType.int)) ∈ WS := WS_t2 239 rfl rfl
theorem wd609 : (Jvm.Cond.methodLink "OneStepMore" (113 : Nat) ({ cls := "OneStepMore$Reader", name := "read", desc := "()LOneStepMore$Text;" } : Jvm.MethodName)) ∈ WS := WS_t3 0 rfl rfl
theorem wd610 : (Jvm.Cond.instanceMethod ({ cls := "OneStepMore$Reader", name := "read", desc := "()LOneStepMore$Text;" } : Jvm.MethodName)) ∈ WS := WS_t3 1 rfl rfl
theorem wd611 : (Jvm.Cond.selects "OneStepMore$Reader" ({ cls := "OneStepMore$Reader", name := "read", desc := "()LOneStepMore$Text;" } : Jvm.MethodName) ({ cls := "OneStepMore$Reader", name := "read", desc := "()LOneStepMore$Text;" } : Jvm.MethodName)) ∈ WS := WS_t3 2 rfl rfl
theorem wd612 : (Jvm.Cond.code ({ cls := "OneStepMore$Reader", name := "read", desc := "()LOneStepMore$Text;" } : Jvm.MethodName) prog_6_method_2_code (2 : Nat) (Option.some (Jvm.ClassFile.FieldType.object "OneStepMore$Text"))) ∈ WS := WS_t3 3 rfl rfl
theorem wd613 : (Jvm.Cond.methodLink "OneStepMore$Reader" (44 : Nat) ({ cls := "java/util/Arrays", name := "fill", desc := "([II)V" } : Jvm.MethodName)) ∈ WS := WS_t3 4 rfl rfl
theorem wd614 : (Jvm.Cond.methodLink "OneStepMore$Reader" (50 : Nat) ({ cls := "OneStepMore$Tape", name := "scan", desc := "()V" } : Jvm.MethodName)) ∈ WS := WS_t3 5 rfl rfl
theorem wd615 : (Jvm.Cond.instanceMethod ({ cls := "OneStepMore$Tape", name := "scan", desc := "()V" } : Jvm.MethodName)) ∈ WS := WS_t3 6 rfl rfl
theorem wd616 : (Jvm.Cond.selects "OneStepMore$Tape" ({ cls := "OneStepMore$Tape", name := "scan", desc := "()V" } : Jvm.MethodName) ({ cls := "OneStepMore$Tape", name := "scan", desc := "()V" } : Jvm.MethodName)) ∈ WS := WS_t3 7 rfl rfl
theorem wd617 : (Jvm.Cond.code ({ cls := "OneStepMore$Tape", name := "scan", desc := "()V" } : Jvm.MethodName) prog_9_method_4_code (3 : Nat) (Option.none : Option Jvm.ClassFile.FieldType)) ∈ WS := WS_t3 8 rfl rfl
theorem wd618 : (Jvm.Cond.methodLink "OneStepMore$Tape" (35 : Nat) ({ cls := "OneStepMore$Tape", name := "skipBlanks", desc := "()V" } : Jvm.MethodName)) ∈ WS := WS_t3 9 rfl rfl
theorem wd620 : (Jvm.Cond.instanceMethod ({ cls := "OneStepMore$Tape", name := "skipBlanks", desc := "()V" } : Jvm.MethodName)) ∈ WS := WS_t3 11 rfl rfl
theorem wd621 : (Jvm.Cond.code ({ cls := "OneStepMore$Tape", name := "skipBlanks", desc := "()V" } : Jvm.MethodName) prog_9_method_6_code (1 : Nat) (Option.none : Option Jvm.ClassFile.FieldType)) ∈ WS := WS_t3 12 rfl rfl
theorem wd622 : (Jvm.Cond.methodLink "OneStepMore$Tape" (46 : Nat) ({ cls := "OneStepMore$Tape", name := "byteAt", desc := "(I)I" } : Jvm.MethodName)) ∈ WS := WS_t3 13 rfl rfl
theorem wd624 : (Jvm.Cond.instanceMethod ({ cls := "OneStepMore$Tape", name := "byteAt", desc := "(I)I" } : Jvm.MethodName)) ∈ WS := WS_t3 15 rfl rfl
theorem wd625 : (Jvm.Cond.code ({ cls := "OneStepMore$Tape", name := "byteAt", desc := "(I)I" } : Jvm.MethodName) prog_9_method_5_code (2 : Nat) (Option.some Jvm.ClassFile.FieldType.int)) ∈ WS := WS_t3 16 rfl rfl
theorem wd627 : (Jvm.Cond.static ({ cls := "OneStepMore", name := "cell", desc := "([II)I" } : Jvm.MethodName)) ∈ WS := WS_t3 18 rfl rfl
theorem wd628 : (Jvm.Cond.code ({ cls := "OneStepMore", name := "cell", desc := "([II)I" } : Jvm.MethodName) prog_1_method_48_code (2 : Nat) (Option.some Jvm.ClassFile.FieldType.int)) ∈ WS := WS_t3 19 rfl rfl
theorem wd629 : (Jvm.Cond.methodLink "OneStepMore$Tape" (38 : Nat) ({ cls := "OneStepMore$Tape", name := "scanToken", desc := "(I)I" } : Jvm.MethodName)) ∈ WS := WS_t3 20 rfl rfl
theorem wd631 : (Jvm.Cond.instanceMethod ({ cls := "OneStepMore$Tape", name := "scanToken", desc := "(I)I" } : Jvm.MethodName)) ∈ WS := WS_t3 22 rfl rfl
theorem wd632 : (Jvm.Cond.code ({ cls := "OneStepMore$Tape", name := "scanToken", desc := "(I)I" } : Jvm.MethodName) prog_9_method_7_code (3 : Nat) (Option.some Jvm.ClassFile.FieldType.int)) ∈ WS := WS_t3 23 rfl rfl
theorem wd633 : (Jvm.Cond.methodLink "OneStepMore$Tape" (49 : Nat) ({ cls := "OneStepMore$Tape", name := "isDigit", desc := "(I)Z" } : Jvm.MethodName)) ∈ WS := WS_t3 24 rfl rfl
theorem wd634 : (Jvm.Cond.static ({ cls := "OneStepMore$Tape", name := "isDigit", desc := "(I)Z" } : Jvm.MethodName)) ∈ WS := WS_t3 25 rfl rfl
theorem wd635 : (Jvm.Cond.code ({ cls := "OneStepMore$Tape", name := "isDigit", desc := "(I)Z" } : Jvm.MethodName) prog_9_method_13_code (1 : Nat) (Option.some Jvm.ClassFile.FieldType.boolean)) ∈ WS := WS_t3 26 rfl rfl
theorem wd636 : (Jvm.Cond.methodLink "OneStepMore$Tape" (53 : Nat) ({ cls := "OneStepMore$Tape", name := "scanNumber", desc := "()I" } : Jvm.MethodName)) ∈ WS := WS_t3 27 rfl rfl
theorem wd638 : (Jvm.Cond.instanceMethod ({ cls := "OneStepMore$Tape", name := "scanNumber", desc := "()I" } : Jvm.MethodName)) ∈ WS := WS_t3 29 rfl rfl
theorem wd639 : (Jvm.Cond.code ({ cls := "OneStepMore$Tape", name := "scanNumber", desc := "()I" } : Jvm.MethodName) prog_9_method_8_code (2 : Nat) (Option.some Jvm.ClassFile.FieldType.int)) ∈ WS := WS_t3 30 rfl rfl
theorem wd640 : (Jvm.Cond.methodLink "OneStepMore$Tape" (66 : Nat) ({ cls := "java/lang/Math", name := "min", desc := "(II)I" } : Jvm.MethodName)) ∈ WS := WS_t3 31 rfl rfl
theorem wd641 : (Jvm.Cond.static ({ cls := "java/lang/Math", name := "min", desc := "(II)I" } : Jvm.MethodName)) ∈ WS := WS_t3 32 rfl rfl
theorem wd642 : (Jvm.Cond.code ({ cls := "java/lang/Math", name := "min", desc := "(II)I" } : Jvm.MethodName) prog_15_method_69_code (2 : Nat) (Option.some Jvm.ClassFile.FieldType.int)) ∈ WS := WS_t3 33 rfl rfl
theorem wd643 : (Jvm.Cond.methodLink "OneStepMore$Tape" (57 : Nat) ({ cls := "OneStepMore$Tape", name := "isLetter", desc := "(I)Z" } : Jvm.MethodName)) ∈ WS := WS_t3 34 rfl rfl
theorem wd644 : (Jvm.Cond.static ({ cls := "OneStepMore$Tape", name := "isLetter", desc := "(I)Z" } : Jvm.MethodName)) ∈ WS := WS_t3 35 rfl rfl
theorem wd645 : (Jvm.Cond.code ({ cls := "OneStepMore$Tape", name := "isLetter", desc := "(I)Z" } : Jvm.MethodName) prog_9_method_14_code (1 : Nat) (Option.some Jvm.ClassFile.FieldType.boolean)) ∈ WS := WS_t3 36 rfl rfl
theorem wd646 : (Jvm.Cond.methodLink "OneStepMore$Tape" (60 : Nat) ({ cls := "OneStepMore$Tape", name := "scanWord", desc := "()I" } : Jvm.MethodName)) ∈ WS := WS_t3 37 rfl rfl
theorem wd648 : (Jvm.Cond.instanceMethod ({ cls := "OneStepMore$Tape", name := "scanWord", desc := "()I" } : Jvm.MethodName)) ∈ WS := WS_t3 39 rfl rfl
theorem wd649 : (Jvm.Cond.code ({ cls := "OneStepMore$Tape", name := "scanWord", desc := "()I" } : Jvm.MethodName) prog_9_method_9_code (4 : Nat) (Option.some Jvm.ClassFile.FieldType.int)) ∈ WS := WS_t3 40 rfl rfl
theorem wd651 : (Jvm.Cond.methodLink "OneStepMore$Tape" (74 : Nat) ({ cls := "java/lang/String", name := "length", desc := "()I" } : Jvm.MethodName)) ∈ WS := WS_t3 42 rfl rfl
theorem wd652 : (Jvm.Cond.instanceMethod ({ cls := "java/lang/String", name := "length", desc := "()I" } : Jvm.MethodName)) ∈ WS := WS_t3 43 rfl rfl
theorem wd653 : (Jvm.Cond.selects "java/lang/String" ({ cls := "java/lang/String", name := "length", desc := "()I" } : Jvm.MethodName) ({ cls := "java/lang/String", name := "length", desc := "()I" } : Jvm.MethodName)) ∈ WS := WS_t3 44 rfl rfl
theorem wd654 : (Jvm.Cond.code ({ cls := "java/lang/String", name := "length", desc := "()I" } : Jvm.MethodName) prog_16_method_54_code (1 : Nat) (Option.some Jvm.ClassFile.FieldType.int)) ∈ WS := WS_t3 45 rfl rfl
theorem wd655 : (Jvm.Cond.methodLink "java/lang/String" (335 : Nat) ({ cls := "java/lang/String", name := "coder", desc := "()B" } : Jvm.MethodName)) ∈ WS := WS_t3 46 rfl rfl
theorem wd656 : (Jvm.Cond.instanceMethod ({ cls := "java/lang/String", name := "coder", desc := "()B" } : Jvm.MethodName)) ∈ WS := WS_t3 47 rfl rfl
theorem wd657 : (Jvm.Cond.selects "java/lang/String" ({ cls := "java/lang/String", name := "coder", desc := "()B" } : Jvm.MethodName) ({ cls := "java/lang/String", name := "coder", desc := "()B" } : Jvm.MethodName)) ∈ WS := WS_t3 48 rfl rfl
theorem wd658 : (Jvm.Cond.code ({ cls := "java/lang/String", name := "coder", desc := "()B" } : Jvm.MethodName) prog_16_method_152_code (1 : Nat) (Option.some Jvm.ClassFile.FieldType.byte)) ∈ WS := WS_t3 49 rfl rfl
theorem wd659 : (Jvm.Cond.fieldLink "java/lang/String" (38 : Nat) "java/lang/String" "COMPACT_STRINGS" "Z") ∈ WS := WS_t3 50 rfl rfl
theorem wd661 : (Jvm.Cond.methodLink "OneStepMore$Tape" (78 : Nat) ({ cls := "java/lang/String", name := "charAt", desc := "(I)C" } : Jvm.MethodName)) ∈ WS := WS_t3 52 rfl rfl
theorem wd662 : (Jvm.Cond.instanceMethod ({ cls := "java/lang/String", name := "charAt", desc := "(I)C" } : Jvm.MethodName)) ∈ WS := WS_t3 53 rfl rfl
theorem wd663 : (Jvm.Cond.selects "java/lang/String" ({ cls := "java/lang/String", name := "charAt", desc := "(I)C" } : Jvm.MethodName) ({ cls := "java/lang/String", name := "charAt", desc := "(I)C" } : Jvm.MethodName)) ∈ WS := WS_t3 54 rfl rfl
theorem wd664 : (Jvm.Cond.code ({ cls := "java/lang/String", name := "charAt", desc := "(I)C" } : Jvm.MethodName) prog_16_method_56_code (2 : Nat) (Option.some Jvm.ClassFile.FieldType.char)) ∈ WS := WS_t3 55 rfl rfl
theorem wd665 : (Jvm.Cond.methodLink "java/lang/String" (492 : Nat) ({ cls := "java/lang/String", name := "isLatin1", desc := "()Z" } : Jvm.MethodName)) ∈ WS := WS_t3 56 rfl rfl
theorem wd666 : (Jvm.Cond.instanceMethod ({ cls := "java/lang/String", name := "isLatin1", desc := "()Z" } : Jvm.MethodName)) ∈ WS := WS_t3 57 rfl rfl
theorem wd667 : (Jvm.Cond.selects "java/lang/String" ({ cls := "java/lang/String", name := "isLatin1", desc := "()Z" } : Jvm.MethodName) ({ cls := "java/lang/String", name := "isLatin1", desc := "()Z" } : Jvm.MethodName)) ∈ WS := WS_t3 58 rfl rfl
theorem wd668 : (Jvm.Cond.code ({ cls := "java/lang/String", name := "isLatin1", desc := "()Z" } : Jvm.MethodName) prog_16_method_154_code (1 : Nat) (Option.some Jvm.ClassFile.FieldType.boolean)) ∈ WS := WS_t3 59 rfl rfl
theorem wd669 : (Jvm.Cond.methodLink "java/lang/String" (495 : Nat) ({ cls := "java/lang/StringLatin1", name := "charAt", desc := "([BI)C" } : Jvm.MethodName)) ∈ WS := WS_t3 60 rfl rfl
theorem wd670 : (Jvm.Cond.static ({ cls := "java/lang/StringLatin1", name := "charAt", desc := "([BI)C" } : Jvm.MethodName)) ∈ WS := WS_t3 61 rfl rfl
theorem wd671 : (Jvm.Cond.code ({ cls := "java/lang/StringLatin1", name := "charAt", desc := "([BI)C" } : Jvm.MethodName) prog_17_method_2_code (2 : Nat) (Option.some Jvm.ClassFile.FieldType.char)) ∈ WS := WS_t3 62 rfl rfl
theorem wd672 : (Jvm.Cond.methodLink "java/lang/StringLatin1" (9 : Nat) ({ cls := "java/lang/String", name := "checkIndex", desc := "(II)V" } : Jvm.MethodName)) ∈ WS := WS_t3 63 rfl rfl
theorem wd673 : (Jvm.Cond.static ({ cls := "java/lang/String", name := "checkIndex", desc := "(II)V" } : Jvm.MethodName)) ∈ WS := WS_t3 64 rfl rfl
theorem wd674 : (Jvm.Cond.code ({ cls := "java/lang/String", name := "checkIndex", desc := "(II)V" } : Jvm.MethodName) prog_16_method_155_code (2 : Nat) (Option.none : Option Jvm.ClassFile.FieldType)) ∈ WS := WS_t3 65 rfl rfl
theorem wd675 : (Jvm.Cond.fieldLink "java/lang/String" (1053 : Nat) "jdk/internal/util/Preconditions" "SIOOBE_FORMATTER" "Ljava/util/function/BiFunction;") ∈ WS := WS_t3 66 rfl rfl
theorem wd677 : (Jvm.Cond.methodLink "java/lang/String" (1059 : Nat) ({ cls := "jdk/internal/util/Preconditions", name := "checkIndex", desc := "(IILjava/util/function/BiFunction;)I" } : Jvm.MethodName)) ∈ WS := WS_t3 68 rfl rfl
theorem wd678 : (Jvm.Cond.static ({ cls := "jdk/internal/util/Preconditions", name := "checkIndex", desc := "(IILjava/util/function/BiFunction;)I" } : Jvm.MethodName)) ∈ WS := WS_t3 69 rfl rfl
theorem wd679 : (Jvm.Cond.code ({ cls := "jdk/internal/util/Preconditions", name := "checkIndex", desc := "(IILjava/util/function/BiFunction;)I" } : Jvm.MethodName) prog_21_method_11_code (3 : Nat) (Option.some Jvm.ClassFile.FieldType.int)) ∈ WS := WS_t3 70 rfl rfl
theorem wd699 : (Jvm.Cond.methodLink "OneStepMore$Tape" (82 : Nat) ({ cls := "OneStepMore$Tape", name := "isSpelled", desc := "(II)Z" } : Jvm.MethodName)) ∈ WS := WS_t3 90 rfl rfl
theorem wd701 : (Jvm.Cond.instanceMethod ({ cls := "OneStepMore$Tape", name := "isSpelled", desc := "(II)Z" } : Jvm.MethodName)) ∈ WS := WS_t3 92 rfl rfl
theorem wd702 : (Jvm.Cond.code ({ cls := "OneStepMore$Tape", name := "isSpelled", desc := "(II)Z" } : Jvm.MethodName) prog_9_method_10_code (5 : Nat) (Option.some Jvm.ClassFile.FieldType.boolean)) ∈ WS := WS_t3 93 rfl rfl
theorem wd703 : (Jvm.Cond.methodLink "OneStepMore$Tape" (63 : Nat) ({ cls := "OneStepMore$Tape", name := "signOf", desc := "(I)I" } : Jvm.MethodName)) ∈ WS := WS_t3 94 rfl rfl
theorem wd705 : (Jvm.Cond.instanceMethod ({ cls := "OneStepMore$Tape", name := "signOf", desc := "(I)I" } : Jvm.MethodName)) ∈ WS := WS_t3 96 rfl rfl
theorem wd706 : (Jvm.Cond.code ({ cls := "OneStepMore$Tape", name := "signOf", desc := "(I)I" } : Jvm.MethodName) prog_9_method_11_code (2 : Nat) (Option.some Jvm.ClassFile.FieldType.int)) ∈ WS := WS_t3 97 rfl rfl
theorem wd707 : (Jvm.Cond.methodLink "OneStepMore$Tape" (86 : Nat) ({ cls := "OneStepMore$Tape", name := "isSame", desc := "()Z" } : Jvm.MethodName)) ∈ WS := WS_t3 98 rfl rfl
theorem wd709 : (Jvm.Cond.instanceMethod ({ cls := "OneStepMore$Tape", name := "isSame", desc := "()Z" } : Jvm.MethodName)) ∈ WS := WS_t3 100 rfl rfl
theorem wd710 : (Jvm.Cond.code ({ cls := "OneStepMore$Tape", name := "isSame", desc := "()Z" } : Jvm.MethodName) prog_9_method_12_code (1 : Nat) (Option.some Jvm.ClassFile.FieldType.boolean)) ∈ WS := WS_t3 101 rfl rfl
theorem wd711 : (Jvm.Cond.methodLink "OneStepMore$Reader" (58 : Nat) ({ cls := "OneStepMore$Reader", name := "advance", desc := "()V" } : Jvm.MethodName)) ∈ WS := WS_t3 102 rfl rfl
theorem wd713 : (Jvm.Cond.instanceMethod ({ cls := "OneStepMore$Reader", name := "advance", desc := "()V" } : Jvm.MethodName)) ∈ WS := WS_t3 104 rfl rfl
theorem wd714 : (Jvm.Cond.code ({ cls := "OneStepMore$Reader", name := "advance", desc := "()V" } : Jvm.MethodName) prog_6_method_20_code (1 : Nat) (Option.none : Option Jvm.ClassFile.FieldType)) ∈ WS := WS_t3 105 rfl rfl
theorem wd715 : (Jvm.Cond.methodLink "OneStepMore$Reader" (148 : Nat) ({ cls := "java/lang/Math", name := "min", desc := "(II)I" } : Jvm.MethodName)) ∈ WS := WS_t3 106 rfl rfl
theorem wd717 : (Jvm.Cond.methodLink "OneStepMore$Reader" (64 : Nat) ({ cls := "OneStepMore$Reader", name := "readClause", desc := "()Z" } : Jvm.MethodName)) ∈ WS := WS_t3 108 rfl rfl
theorem wd719 : (Jvm.Cond.instanceMethod ({ cls := "OneStepMore$Reader", name := "readClause", desc := "()Z" } : Jvm.MethodName)) ∈ WS := WS_t3 110 rfl rfl
theorem wd720 : (Jvm.Cond.code ({ cls := "OneStepMore$Reader", name := "readClause", desc := "()Z" } : Jvm.MethodName) prog_6_method_4_code (3 : Nat) (Option.some Jvm.ClassFile.FieldType.boolean)) ∈ WS := WS_t3 111 rfl rfl
theorem wd721 : (Jvm.Cond.methodLink "OneStepMore$Reader" (84 : Nat) ({ cls := "OneStepMore$Reader", name := "faulty", desc := "(I)Z" } : Jvm.MethodName)) ∈ WS := WS_t3 112 rfl rfl
theorem wd723 : (Jvm.Cond.instanceMethod ({ cls := "OneStepMore$Reader", name := "faulty", desc := "(I)Z" } : Jvm.MethodName)) ∈ WS := WS_t3 114 rfl rfl
theorem wd724 : (Jvm.Cond.code ({ cls := "OneStepMore$Reader", name := "faulty", desc := "(I)Z" } : Jvm.MethodName) prog_6_method_3_code (2 : Nat) (Option.some Jvm.ClassFile.FieldType.boolean)) ∈ WS := WS_t3 115 rfl rfl
theorem wd725 : (Jvm.Cond.methodLink "OneStepMore$Reader" (88 : Nat) ({ cls := "OneStepMore$Reader", name := "readLaw", desc := "(I)Z" } : Jvm.MethodName)) ∈ WS := WS_t3 116 rfl rfl
theorem wd727 : (Jvm.Cond.instanceMethod ({ cls := "OneStepMore$Reader", name := "readLaw", desc := "(I)Z" } : Jvm.MethodName)) ∈ WS := WS_t3 118 rfl rfl
theorem wd728 : (Jvm.Cond.code ({ cls := "OneStepMore$Reader", name := "readLaw", desc := "(I)Z" } : Jvm.MethodName) prog_6_method_5_code (3 : Nat) (Option.some Jvm.ClassFile.FieldType.boolean)) ∈ WS := WS_t3 119 rfl rfl
theorem wd730 : (Jvm.Cond.methodLink "OneStepMore$Reader" (104 : Nat) ({ cls := "OneStepMore$Reader", name := "readEither", desc := "(I)Z" } : Jvm.MethodName)) ∈ WS := WS_t3 121 rfl rfl
theorem wd732 : (Jvm.Cond.instanceMethod ({ cls := "OneStepMore$Reader", name := "readEither", desc := "(I)Z" } : Jvm.MethodName)) ∈ WS := WS_t3 123 rfl rfl
theorem wd733 : (Jvm.Cond.code ({ cls := "OneStepMore$Reader", name := "readEither", desc := "(I)Z" } : Jvm.MethodName) prog_6_method_9_code (3 : Nat) (Option.some Jvm.ClassFile.FieldType.boolean)) ∈ WS := WS_t3 124 rfl rfl
theorem wd734 : (Jvm.Cond.methodLink "OneStepMore$Reader" (120 : Nat) ({ cls := "OneStepMore$Reader", name := "readBoth", desc := "(I)Z" } : Jvm.MethodName)) ∈ WS := WS_t3 125 rfl rfl
theorem wd736 : (Jvm.Cond.instanceMethod ({ cls := "OneStepMore$Reader", name := "readBoth", desc := "(I)Z" } : Jvm.MethodName)) ∈ WS := WS_t3 127 rfl rfl
theorem wd737 : (Jvm.Cond.code ({ cls := "OneStepMore$Reader", name := "readBoth", desc := "(I)Z" } : Jvm.MethodName) prog_6_method_10_code (3 : Nat) (Option.some Jvm.ClassFile.FieldType.boolean)) ∈ WS := WS_t3 128 rfl rfl
theorem wd738 : (Jvm.Cond.methodLink "OneStepMore$Reader" (127 : Nat) ({ cls := "OneStepMore$Reader", name := "readAsk", desc := "(I)Z" } : Jvm.MethodName)) ∈ WS := WS_t3 129 rfl rfl
theorem wd740 : (Jvm.Cond.instanceMethod ({ cls := "OneStepMore$Reader", name := "readAsk", desc := "(I)Z" } : Jvm.MethodName)) ∈ WS := WS_t3 131 rfl rfl
theorem wd741 : (Jvm.Cond.code ({ cls := "OneStepMore$Reader", name := "readAsk", desc := "(I)Z" } : Jvm.MethodName) prog_6_method_11_code (3 : Nat) (Option.some Jvm.ClassFile.FieldType.boolean)) ∈ WS := WS_t3 132 rfl rfl
theorem wd742 : (Jvm.Cond.methodLink "OneStepMore$Reader" (130 : Nat) ({ cls := "OneStepMore$Reader", name := "opens", desc := "(I)Z" } : Jvm.MethodName)) ∈ WS := WS_t3 133 rfl rfl
theorem wd744 : (Jvm.Cond.instanceMethod ({ cls := "OneStepMore$Reader", name := "opens", desc := "(I)Z" } : Jvm.MethodName)) ∈ WS := WS_t3 135 rfl rfl
theorem wd745 : (Jvm.Cond.code ({ cls := "OneStepMore$Reader", name := "opens", desc := "(I)Z" } : Jvm.MethodName) prog_6_method_18_code (2 : Nat) (Option.some Jvm.ClassFile.FieldType.boolean)) ∈ WS := WS_t3 136 rfl rfl
theorem wd746 : (Jvm.Cond.methodLink "OneStepMore$Reader" (123 : Nat) ({ cls := "OneStepMore$Reader", name := "emit", desc := "(I)V" } : Jvm.MethodName)) ∈ WS := WS_t3 137 rfl rfl
theorem wd748 : (Jvm.Cond.instanceMethod ({ cls := "OneStepMore$Reader", name := "emit", desc := "(I)V" } : Jvm.MethodName)) ∈ WS := WS_t3 139 rfl rfl
theorem wd749 : (Jvm.Cond.code ({ cls := "OneStepMore$Reader", name := "emit", desc := "(I)V" } : Jvm.MethodName) prog_6_method_19_code (2 : Nat) (Option.none : Option Jvm.ClassFile.FieldType)) ∈ WS := WS_t3 140 rfl rfl
theorem wd750 : (Jvm.Cond.methodLink "OneStepMore$Reader" (107 : Nat) ({ cls := "OneStepMore$Reader", name := "readSum", desc := "(I)Z" } : Jvm.MethodName)) ∈ WS := WS_t3 141 rfl rfl
theorem wd752 : (Jvm.Cond.instanceMethod ({ cls := "OneStepMore$Reader", name := "readSum", desc := "(I)Z" } : Jvm.MethodName)) ∈ WS := WS_t3 143 rfl rfl
theorem wd753 : (Jvm.Cond.code ({ cls := "OneStepMore$Reader", name := "readSum", desc := "(I)Z" } : Jvm.MethodName) prog_6_method_12_code (4 : Nat) (Option.some Jvm.ClassFile.FieldType.boolean)) ∈ WS := WS_t3 144 rfl rfl
theorem wd754 : (Jvm.Cond.methodLink "OneStepMore$Reader" (133 : Nat) ({ cls := "OneStepMore$Reader", name := "readProduct", desc := "(I)Z" } : Jvm.MethodName)) ∈ WS := WS_t3 145 rfl rfl
theorem wd756 : (Jvm.Cond.instanceMethod ({ cls := "OneStepMore$Reader", name := "readProduct", desc := "(I)Z" } : Jvm.MethodName)) ∈ WS := WS_t3 147 rfl rfl
theorem wd757 : (Jvm.Cond.code ({ cls := "OneStepMore$Reader", name := "readProduct", desc := "(I)Z" } : Jvm.MethodName) prog_6_method_13_code (4 : Nat) (Option.some Jvm.ClassFile.FieldType.boolean)) ∈ WS := WS_t3 148 rfl rfl
theorem wd758 : (Jvm.Cond.methodLink "OneStepMore$Reader" (136 : Nat) ({ cls := "OneStepMore$Reader", name := "readOne", desc := "(I)Z" } : Jvm.MethodName)) ∈ WS := WS_t3 149 rfl rfl
theorem wd760 : (Jvm.Cond.instanceMethod ({ cls := "OneStepMore$Reader", name := "readOne", desc := "(I)Z" } : Jvm.MethodName)) ∈ WS := WS_t3 151 rfl rfl
theorem wd761 : (Jvm.Cond.code ({ cls := "OneStepMore$Reader", name := "readOne", desc := "(I)Z" } : Jvm.MethodName) prog_6_method_14_code (2 : Nat) (Option.some Jvm.ClassFile.FieldType.boolean)) ∈ WS := WS_t3 152 rfl rfl
theorem wd762 : (Jvm.Cond.methodLink "OneStepMore$Reader" (139 : Nat) ({ cls := "OneStepMore$Reader", name := "readValue", desc := "()Z" } : Jvm.MethodName)) ∈ WS := WS_t3 153 rfl rfl
theorem wd764 : (Jvm.Cond.instanceMethod ({ cls := "OneStepMore$Reader", name := "readValue", desc := "()Z" } : Jvm.MethodName)) ∈ WS := WS_t3 155 rfl rfl
theorem wd765 : (Jvm.Cond.code ({ cls := "OneStepMore$Reader", name := "readValue", desc := "()Z" } : Jvm.MethodName) prog_6_method_16_code (1 : Nat) (Option.some Jvm.ClassFile.FieldType.boolean)) ∈ WS := WS_t3 156 rfl rfl
theorem wd766 : (Jvm.Cond.methodLink "OneStepMore$Reader" (94 : Nat) ({ cls := "OneStepMore$Reader", name := "passes", desc := "(I)Z" } : Jvm.MethodName)) ∈ WS := WS_t3 157 rfl rfl
theorem wd768 : (Jvm.Cond.instanceMethod ({ cls := "OneStepMore$Reader", name := "passes", desc := "(I)Z" } : Jvm.MethodName)) ∈ WS := WS_t3 159 rfl rfl
theorem wd769 : (Jvm.Cond.code ({ cls := "OneStepMore$Reader", name := "passes", desc := "(I)Z" } : Jvm.MethodName) prog_6_method_8_code (2 : Nat) (Option.some Jvm.ClassFile.FieldType.boolean)) ∈ WS := WS_t3 160 rfl rfl
theorem wd770 : (Jvm.Cond.methodLink "OneStepMore$Reader" (142 : Nat) ({ cls := "OneStepMore$Reader", name := "readChoice", desc := "(I)Z" } : Jvm.MethodName)) ∈ WS := WS_t3 161 rfl rfl
theorem wd772 : (Jvm.Cond.instanceMethod ({ cls := "OneStepMore$Reader", name := "readChoice", desc := "(I)Z" } : Jvm.MethodName)) ∈ WS := WS_t3 163 rfl rfl
theorem wd773 : (Jvm.Cond.code ({ cls := "OneStepMore$Reader", name := "readChoice", desc := "(I)Z" } : Jvm.MethodName) prog_6_method_15_code (2 : Nat) (Option.some Jvm.ClassFile.FieldType.boolean)) ∈ WS := WS_t3 164 rfl rfl
theorem wd774 : (Jvm.Cond.methodLink "OneStepMore$Reader" (145 : Nat) ({ cls := "OneStepMore$Reader", name := "readName", desc := "()Z" } : Jvm.MethodName)) ∈ WS := WS_t3 165 rfl rfl
theorem wd776 : (Jvm.Cond.instanceMethod ({ cls := "OneStepMore$Reader", name := "readName", desc := "()Z" } : Jvm.MethodName)) ∈ WS := WS_t3 167 rfl rfl
theorem wd777 : (Jvm.Cond.code ({ cls := "OneStepMore$Reader", name := "readName", desc := "()Z" } : Jvm.MethodName) prog_6_method_17_code (2 : Nat) (Option.some Jvm.ClassFile.FieldType.boolean)) ∈ WS := WS_t3 168 rfl rfl
theorem wd778 : (Jvm.Cond.methodLink "OneStepMore$Reader" (91 : Nat) ({ cls := "OneStepMore$Reader", name := "readDeed", desc := "(I)Z" } : Jvm.MethodName)) ∈ WS := WS_t3 169 rfl rfl
theorem wd780 : (Jvm.Cond.instanceMethod ({ cls := "OneStepMore$Reader", name := "readDeed", desc := "(I)Z" } : Jvm.MethodName)) ∈ WS := WS_t3 171 rfl rfl
theorem wd781 : (Jvm.Cond.code ({ cls := "OneStepMore$Reader", name := "readDeed", desc := "(I)Z" } : Jvm.MethodName) prog_6_method_6_code (7 : Nat) (Option.some Jvm.ClassFile.FieldType.boolean)) ∈ WS := WS_t3 172 rfl rfl
theorem wd784 : (Jvm.Cond.methodLink "OneStepMore$Reader" (113 : Nat) ({ cls := "OneStepMore$Reader", name := "readNumber", desc := "(III)Z" } : Jvm.MethodName)) ∈ WS := WS_t3 175 rfl rfl
theorem wd786 : (Jvm.Cond.instanceMethod ({ cls := "OneStepMore$Reader", name := "readNumber", desc := "(III)Z" } : Jvm.MethodName)) ∈ WS := WS_t3 177 rfl rfl
theorem wd787 : (Jvm.Cond.code ({ cls := "OneStepMore$Reader", name := "readNumber", desc := "(III)Z" } : Jvm.MethodName) prog_6_method_7_code (4 : Nat) (Option.some Jvm.ClassFile.FieldType.boolean)) ∈ WS := WS_t3 178 rfl rfl
theorem wd788 : (Jvm.Cond.classLink "OneStepMore$Reader" (68 : Nat) "OneStepMore$Text") ∈ WS := WS_t3 179 rfl rfl
theorem wd789 : (Jvm.Cond.instantiable "OneStepMore$Text" (5 : Nat)) ∈ WS := WS_t3 180 rfl rfl
theorem wd790 : (Jvm.Cond.methodLink "OneStepMore$Reader" (70 : Nat) ({ cls := "java/util/Arrays", name := "copyOf", desc := "([II)[I" } : Jvm.MethodName)) ∈ WS := WS_t3 181 rfl rfl
theorem wd791 : (Jvm.Cond.static ({ cls := "java/util/Arrays", name := "copyOf", desc := "([II)[I" } : Jvm.MethodName)) ∈ WS := WS_t3 182 rfl rfl
theorem wd792 : (Jvm.Cond.code ({ cls := "java/util/Arrays", name := "copyOf", desc := "([II)[I" } : Jvm.MethodName) prog_20_method_123_code (3 : Nat) (Option.some (Jvm.ClassFile.FieldType.array Jvm.ClassFile.FieldType.int))) ∈ WS := WS_t3 183 rfl rfl
theorem wd793 : (Jvm.Cond.methodLink "java/util/Arrays" (316 : Nat) ({ cls := "[I", name := "clone", desc := "()Ljava/lang/Object;" } : Jvm.MethodName)) ∈ WS := WS_t3 184 rfl rfl
theorem wd794 : (Jvm.Cond.sameMethod "[I" "java/lang/Object" "clone" "()Ljava/lang/Object;") ∈ WS := WS_t3 185 rfl rfl
theorem wd795 : (Jvm.Cond.native ({ cls := "java/lang/Object", name := "clone", desc := "()Ljava/lang/Object;" } : Jvm.MethodName)) ∈ WS := WS_t3 186 rfl rfl
theorem wd796 : (Jvm.Cond.instanceMethod ({ cls := "java/lang/Object", name := "clone", desc := "()Ljava/lang/Object;" } : Jvm.MethodName)) ∈ WS := WS_t3 187 rfl rfl
theorem wd797 : (Jvm.Cond.selects "[I" ({ cls := "[I", name := "clone", desc := "()Ljava/lang/Object;" } : Jvm.MethodName) ({ cls := "java/lang/Object", name := "clone", desc := "()Ljava/lang/Object;" } : Jvm.MethodName)) ∈ WS := WS_t3 188 rfl rfl
theorem wd799 : (Jvm.Cond.classLink "java/util/Arrays" (317 : Nat) "[I") ∈ WS := WS_t3 190 rfl rfl
theorem wd800 : (Jvm.Cond.methodLink "java/util/Arrays" (304 : Nat) ({ cls := "java/lang/Math", name := "min", desc := "(II)I" } : Jvm.MethodName)) ∈ WS := WS_t3 191 rfl rfl
theorem wd801 : (Jvm.Cond.methodLink "java/util/Arrays" (150 : Nat) ({ cls := "java/lang/System", name := "arraycopy", desc := "(Ljava/lang/Object;ILjava/lang/Object;II)V" } : Jvm.MethodName)) ∈ WS := WS_t3 192 rfl rfl
theorem wd802 : (Jvm.Cond.static ({ cls := "java/lang/System", name := "arraycopy", desc := "(Ljava/lang/Object;ILjava/lang/Object;II)V" } : Jvm.MethodName)) ∈ WS := WS_t3 193 rfl rfl
theorem wd803 : (Jvm.Cond.native ({ cls := "java/lang/System", name := "arraycopy", desc := "(Ljava/lang/Object;ILjava/lang/Object;II)V" } : Jvm.MethodName)) ∈ WS := WS_t3 194 rfl rfl
theorem wd804 : (Jvm.Cond.methodLink "OneStepMore$Reader" (74 : Nat) ({ cls := "OneStepMore$Text", name := "<init>", desc := "([I[I[I[I[I)V" } : Jvm.MethodName)) ∈ WS := WS_t3 195 rfl rfl
theorem wd805 : (Jvm.Cond.instanceMethod ({ cls := "OneStepMore$Text", name := "<init>", desc := "([I[I[I[I[I)V" } : Jvm.MethodName)) ∈ WS := WS_t3 196 rfl rfl
theorem wd806 : (Jvm.Cond.code ({ cls := "OneStepMore$Text", name := "<init>", desc := "([I[I[I[I[I)V" } : Jvm.MethodName) prog_10_method_1_code (6 : Nat) (Option.none : Option Jvm.ClassFile.FieldType)) ∈ WS := WS_t3 197 rfl rfl
theorem wd807 : (Jvm.Cond.methodLink "OneStepMore$Text" (3 : Nat) ({ cls := "java/lang/Object", name := "<init>", desc := "()V" } : Jvm.MethodName)) ∈ WS := WS_t3 198 rfl rfl
theorem wd829 : (Jvm.Cond.methodLink "OneStepMore" (117 : Nat) ({ cls := "OneStepMore$State", name := "keepText", desc := "(LOneStepMore$Text;)I" } : Jvm.MethodName)) ∈ WS := WS_t3 220 rfl rfl
theorem wd830 : (Jvm.Cond.instanceMethod ({ cls := "OneStepMore$State", name := "keepText", desc := "(LOneStepMore$Text;)I" } : Jvm.MethodName)) ∈ WS := WS_t3 221 rfl rfl
theorem wd831 : (Jvm.Cond.selects "OneStepMore$State" ({ cls := "OneStepMore$State", name := "keepText", desc := "(LOneStepMore$Text;)I" } : Jvm.MethodName) ({ cls := "OneStepMore$State", name := "keepText", desc := "(LOneStepMore$Text;)I" } : Jvm.MethodName)) ∈ WS := WS_t3 222 rfl rfl
theorem wd832 : (Jvm.Cond.code ({ cls := "OneStepMore$State", name := "keepText", desc := "(LOneStepMore$Text;)I" } : Jvm.MethodName) prog_7_method_7_code (2 : Nat) (Option.some Jvm.ClassFile.FieldType.int)) ∈ WS := WS_t3 223 rfl rfl
theorem wd833 : (Jvm.Cond.methodLink "OneStepMoreLaw" (57 : Nat) ({ cls := "OneStepMore", name := "fault", desc := "(I)I" } : Jvm.MethodName)) ∈ WS := WS_t3 224 rfl rfl
theorem wd834 : (Jvm.Cond.instanceMethod ({ cls := "OneStepMore", name := "fault", desc := "(I)I" } : Jvm.MethodName)) ∈ WS := WS_t3 225 rfl rfl
theorem wd835 : (Jvm.Cond.selects "OneStepMore" ({ cls := "OneStepMore", name := "fault", desc := "(I)I" } : Jvm.MethodName) ({ cls := "OneStepMore", name := "fault", desc := "(I)I" } : Jvm.MethodName)) ∈ WS := WS_t3 226 rfl rfl
theorem wd836 : (Jvm.Cond.code ({ cls := "OneStepMore", name := "fault", desc := "(I)I" } : Jvm.MethodName) prog_1_method_11_code (2 : Nat) (Option.some Jvm.ClassFile.FieldType.int)) ∈ WS := WS_t3 227 rfl rfl
theorem wd837 : (Jvm.Cond.methodLink "OneStepMoreLaw" (61 : Nat) ({ cls := "OneStepMore", name := "by", desc := "(I)Z" } : Jvm.MethodName)) ∈ WS := WS_t3 228 rfl rfl
theorem wd838 : (Jvm.Cond.instanceMethod ({ cls := "OneStepMore", name := "by", desc := "(I)Z" } : Jvm.MethodName)) ∈ WS := WS_t3 229 rfl rfl
theorem wd839 : (Jvm.Cond.selects "OneStepMore" ({ cls := "OneStepMore", name := "by", desc := "(I)Z" } : Jvm.MethodName) ({ cls := "OneStepMore", name := "by", desc := "(I)Z" } : Jvm.MethodName)) ∈ WS := WS_t3 230 rfl rfl
theorem wd840 : (Jvm.Cond.code ({ cls := "OneStepMore", name := "by", desc := "(I)Z" } : Jvm.MethodName) prog_1_method_12_code (2 : Nat) (Option.some Jvm.ClassFile.FieldType.boolean)) ∈ WS := WS_t3 231 rfl rfl
theorem wd841 : (Jvm.Cond.methodLink "OneStepMore" (127 : Nat) ({ cls := "OneStepMore$State", name := "textOf", desc := "(I)LOneStepMore$Text;" } : Jvm.MethodName)) ∈ WS := WS_t3 232 rfl rfl
theorem wd842 : (Jvm.Cond.instanceMethod ({ cls := "OneStepMore$State", name := "textOf", desc := "(I)LOneStepMore$Text;" } : Jvm.MethodName)) ∈ WS := WS_t3 233 rfl rfl
theorem wd843 : (Jvm.Cond.selects "OneStepMore$State" ({ cls := "OneStepMore$State", name := "textOf", desc := "(I)LOneStepMore$Text;" } : Jvm.MethodName) ({ cls := "OneStepMore$State", name := "textOf", desc := "(I)LOneStepMore$Text;" } : Jvm.MethodName)) ∈ WS := WS_t3 234 rfl rfl
theorem wd844 : (Jvm.Cond.code ({ cls := "OneStepMore$State", name := "textOf", desc := "(I)LOneStepMore$Text;" } : Jvm.MethodName) prog_7_method_6_code (2 : Nat) (Option.some (Jvm.ClassFile.FieldType.object "OneStepMore$Text"))) ∈ WS := WS_t3 235 rfl rfl
theorem wd845 : (Jvm.Cond.methodLink "OneStepMoreLaw" (65 : Nat) ({ cls := "OneStepMore", name := "begin", desc := "(III)I" } : Jvm.MethodName)) ∈ WS := WS_t3 236 rfl rfl
theorem wd846 : (Jvm.Cond.instanceMethod ({ cls := "OneStepMore", name := "begin", desc := "(III)I" } : Jvm.MethodName)) ∈ WS := WS_t3 237 rfl rfl
theorem wd847 : (Jvm.Cond.selects "OneStepMore" ({ cls := "OneStepMore", name := "begin", desc := "(III)I" } : Jvm.MethodName) ({ cls := "OneStepMore", name := "begin", desc := "(III)I" } : Jvm.MethodName)) ∈ WS := WS_t3 238 rfl rfl
theorem wd848 : (Jvm.Cond.code ({ cls := "OneStepMore", name := "begin", desc := "(III)I" } : Jvm.MethodName) prog_1_method_13_code (4 : Nat) (Option.some Jvm.ClassFile.FieldType.int)) ∈ WS := WS_t3 239 rfl rfl
theorem wd849 : (Jvm.Cond.methodLink "OneStepMore" (134 : Nat) ({ cls := "OneStepMore$Walk", name := "beginAct", desc := "(III)I" } : Jvm.MethodName)) ∈ WS := WS_t4 0 rfl rfl
theorem wd850 : (Jvm.Cond.instanceMethod ({ cls := "OneStepMore$Walk", name := "beginAct", desc := "(III)I" } : Jvm.MethodName)) ∈ WS := WS_t4 1 rfl rfl
theorem wd851 : (Jvm.Cond.selects "OneStepMore$Walk" ({ cls := "OneStepMore$Walk", name := "beginAct", desc := "(III)I" } : Jvm.MethodName) ({ cls := "OneStepMore$Walk", name := "beginAct", desc := "(III)I" } : Jvm.MethodName)) ∈ WS := WS_t4 2 rfl rfl
theorem wd852 : (Jvm.Cond.code ({ cls := "OneStepMore$Walk", name := "beginAct", desc := "(III)I" } : Jvm.MethodName) prog_11_method_2_code (4 : Nat) (Option.some Jvm.ClassFile.FieldType.int)) ∈ WS := WS_t4 3 rfl rfl
theorem wd853 : (Jvm.Cond.methodLink "OneStepMore$Walk" (19 : Nat) ({ cls := "OneStepMore$State", name := "isPerson", desc := "(I)Z" } : Jvm.MethodName)) ∈ WS := WS_t4 4 rfl rfl
theorem wd854 : (Jvm.Cond.instanceMethod ({ cls := "OneStepMore$State", name := "isPerson", desc := "(I)Z" } : Jvm.MethodName)) ∈ WS := WS_t4 5 rfl rfl
theorem wd855 : (Jvm.Cond.selects "OneStepMore$State" ({ cls := "OneStepMore$State", name := "isPerson", desc := "(I)Z" } : Jvm.MethodName) ({ cls := "OneStepMore$State", name := "isPerson", desc := "(I)Z" } : Jvm.MethodName)) ∈ WS := WS_t4 6 rfl rfl
theorem wd856 : (Jvm.Cond.code ({ cls := "OneStepMore$State", name := "isPerson", desc := "(I)Z" } : Jvm.MethodName) prog_7_method_3_code (2 : Nat) (Option.some Jvm.ClassFile.FieldType.boolean)) ∈ WS := WS_t4 7 rfl rfl
theorem wd857 : (Jvm.Cond.methodLink "OneStepMore$Walk" (25 : Nat) ({ cls := "OneStepMore$State", name := "houseOf", desc := "(I)LOneStepMore$House;" } : Jvm.MethodName)) ∈ WS := WS_t4 8 rfl rfl
theorem wd858 : (Jvm.Cond.methodLink "OneStepMore$Walk" (29 : Nat) ({ cls := "OneStepMore$State", name := "remember", desc := "()V" } : Jvm.MethodName)) ∈ WS := WS_t4 9 rfl rfl
theorem wd859 : (Jvm.Cond.instanceMethod ({ cls := "OneStepMore$State", name := "remember", desc := "()V" } : Jvm.MethodName)) ∈ WS := WS_t4 10 rfl rfl
theorem wd860 : (Jvm.Cond.selects "OneStepMore$State" ({ cls := "OneStepMore$State", name := "remember", desc := "()V" } : Jvm.MethodName) ({ cls := "OneStepMore$State", name := "remember", desc := "()V" } : Jvm.MethodName)) ∈ WS := WS_t4 11 rfl rfl
theorem wd861 : (Jvm.Cond.code ({ cls := "OneStepMore$State", name := "remember", desc := "()V" } : Jvm.MethodName) prog_7_method_16_code (3 : Nat) (Option.none : Option Jvm.ClassFile.FieldType)) ∈ WS := WS_t4 12 rfl rfl
theorem wd862 : (Jvm.Cond.methodLink "OneStepMore$State" (118 : Nat) ({ cls := "java/lang/Math", name := "min", desc := "(II)I" } : Jvm.MethodName)) ∈ WS := WS_t4 13 rfl rfl
theorem wd863 : (Jvm.Cond.methodLink "OneStepMore$Walk" (32 : Nat) ({ cls := "OneStepMore$Walk", name := "start", desc := "(III)V" } : Jvm.MethodName)) ∈ WS := WS_t4 14 rfl rfl
theorem wd865 : (Jvm.Cond.instanceMethod ({ cls := "OneStepMore$Walk", name := "start", desc := "(III)V" } : Jvm.MethodName)) ∈ WS := WS_t4 16 rfl rfl
theorem wd866 : (Jvm.Cond.code ({ cls := "OneStepMore$Walk", name := "start", desc := "(III)V" } : Jvm.MethodName) prog_11_method_12_code (4 : Nat) (Option.none : Option Jvm.ClassFile.FieldType)) ∈ WS := WS_t4 17 rfl rfl
theorem wd867 : (Jvm.Cond.methodLink "OneStepMore$Walk" (140 : Nat) ({ cls := "java/util/Arrays", name := "fill", desc := "([II)V" } : Jvm.MethodName)) ∈ WS := WS_t4 18 rfl rfl
theorem wd868 : (Jvm.Cond.methodLink "OneStepMore$Walk" (146 : Nat) ({ cls := "OneStepMore$Walk", name := "draw", desc := "()I" } : Jvm.MethodName)) ∈ WS := WS_t4 19 rfl rfl
theorem wd870 : (Jvm.Cond.instanceMethod ({ cls := "OneStepMore$Walk", name := "draw", desc := "()I" } : Jvm.MethodName)) ∈ WS := WS_t4 21 rfl rfl
theorem wd871 : (Jvm.Cond.code ({ cls := "OneStepMore$Walk", name := "draw", desc := "()I" } : Jvm.MethodName) prog_11_method_11_code (2 : Nat) (Option.some Jvm.ClassFile.FieldType.int)) ∈ WS := WS_t4 22 rfl rfl
theorem wd872 : (Jvm.Cond.methodLink "OneStepMore$Walk" (76 : Nat) ({ cls := "OneStepMore$Walk", name := "stir", desc := "()V" } : Jvm.MethodName)) ∈ WS := WS_t4 23 rfl rfl
theorem wd874 : (Jvm.Cond.instanceMethod ({ cls := "OneStepMore$Walk", name := "stir", desc := "()V" } : Jvm.MethodName)) ∈ WS := WS_t4 25 rfl rfl
theorem wd875 : (Jvm.Cond.code ({ cls := "OneStepMore$Walk", name := "stir", desc := "()V" } : Jvm.MethodName) prog_11_method_10_code (1 : Nat) (Option.none : Option Jvm.ClassFile.FieldType)) ∈ WS := WS_t4 26 rfl rfl
theorem wd877 : (Jvm.Cond.methodLink "OneStepMoreLaw" (69 : Nat) ({ cls := "OneStepMore", name := "step", desc := "()I" } : Jvm.MethodName)) ∈ WS := WS_t4 28 rfl rfl
theorem wd878 : (Jvm.Cond.instanceMethod ({ cls := "OneStepMore", name := "step", desc := "()I" } : Jvm.MethodName)) ∈ WS := WS_t4 29 rfl rfl
theorem wd879 : (Jvm.Cond.selects "OneStepMore" ({ cls := "OneStepMore", name := "step", desc := "()I" } : Jvm.MethodName) ({ cls := "OneStepMore", name := "step", desc := "()I" } : Jvm.MethodName)) ∈ WS := WS_t4 30 rfl rfl
theorem wd880 : (Jvm.Cond.code ({ cls := "OneStepMore", name := "step", desc := "()I" } : Jvm.MethodName) prog_1_method_14_code (1 : Nat) (Option.some Jvm.ClassFile.FieldType.int)) ∈ WS := WS_t4 31 rfl rfl
theorem wd881 : (Jvm.Cond.methodLink "OneStepMore" (137 : Nat) ({ cls := "OneStepMore$Walk", name := "stepAct", desc := "()I" } : Jvm.MethodName)) ∈ WS := WS_t4 32 rfl rfl
theorem wd882 : (Jvm.Cond.instanceMethod ({ cls := "OneStepMore$Walk", name := "stepAct", desc := "()I" } : Jvm.MethodName)) ∈ WS := WS_t4 33 rfl rfl
theorem wd883 : (Jvm.Cond.selects "OneStepMore$Walk" ({ cls := "OneStepMore$Walk", name := "stepAct", desc := "()I" } : Jvm.MethodName) ({ cls := "OneStepMore$Walk", name := "stepAct", desc := "()I" } : Jvm.MethodName)) ∈ WS := WS_t4 34 rfl rfl
theorem wd884 : (Jvm.Cond.code ({ cls := "OneStepMore$Walk", name := "stepAct", desc := "()I" } : Jvm.MethodName) prog_11_method_3_code (1 : Nat) (Option.some Jvm.ClassFile.FieldType.int)) ∈ WS := WS_t4 35 rfl rfl
theorem wd885 : (Jvm.Cond.methodLink "OneStepMore$Walk" (40 : Nat) ({ cls := "OneStepMore$State", name := "isOnWay", desc := "()Z" } : Jvm.MethodName)) ∈ WS := WS_t4 36 rfl rfl
theorem wd886 : (Jvm.Cond.methodLink "OneStepMore$Walk" (44 : Nat) ({ cls := "OneStepMore$Walk", name := "goOn", desc := "(Z)I" } : Jvm.MethodName)) ∈ WS := WS_t4 37 rfl rfl
theorem wd888 : (Jvm.Cond.instanceMethod ({ cls := "OneStepMore$Walk", name := "goOn", desc := "(Z)I" } : Jvm.MethodName)) ∈ WS := WS_t4 39 rfl rfl
theorem wd889 : (Jvm.Cond.code ({ cls := "OneStepMore$Walk", name := "goOn", desc := "(Z)I" } : Jvm.MethodName) prog_11_method_14_code (7 : Nat) (Option.some Jvm.ClassFile.FieldType.int)) ∈ WS := WS_t4 40 rfl rfl
theorem wd890 : (Jvm.Cond.methodLink "OneStepMore$Walk" (48 : Nat) ({ cls := "OneStepMore$Walk", name := "turnToWay", desc := "()V" } : Jvm.MethodName)) ∈ WS := WS_t4 41 rfl rfl
theorem wd892 : (Jvm.Cond.instanceMethod ({ cls := "OneStepMore$Walk", name := "turnToWay", desc := "()V" } : Jvm.MethodName)) ∈ WS := WS_t4 43 rfl rfl
theorem wd893 : (Jvm.Cond.code ({ cls := "OneStepMore$Walk", name := "turnToWay", desc := "()V" } : Jvm.MethodName) prog_11_method_13_code (1 : Nat) (Option.none : Option Jvm.ClassFile.FieldType)) ∈ WS := WS_t4 44 rfl rfl
theorem wd894 : (Jvm.Cond.methodLink "OneStepMore$Walk" (155 : Nat) ({ cls := "OneStepMore$State", name := "textOf", desc := "(I)LOneStepMore$Text;" } : Jvm.MethodName)) ∈ WS := WS_t4 45 rfl rfl
theorem wd895 : (Jvm.Cond.methodLink "OneStepMore$Walk" (159 : Nat) ({ cls := "OneStepMore$Laws", name := "turnTo", desc := "(LOneStepMore$State;LOneStepMore$Text;III)V" } : Jvm.MethodName)) ∈ WS := WS_t4 46 rfl rfl
theorem wd896 : (Jvm.Cond.instanceMethod ({ cls := "OneStepMore$Laws", name := "turnTo", desc := "(LOneStepMore$State;LOneStepMore$Text;III)V" } : Jvm.MethodName)) ∈ WS := WS_t4 47 rfl rfl
theorem wd897 : (Jvm.Cond.selects "OneStepMore$Laws" ({ cls := "OneStepMore$Laws", name := "turnTo", desc := "(LOneStepMore$State;LOneStepMore$Text;III)V" } : Jvm.MethodName) ({ cls := "OneStepMore$Laws", name := "turnTo", desc := "(LOneStepMore$State;LOneStepMore$Text;III)V" } : Jvm.MethodName)) ∈ WS := WS_t4 48 rfl rfl
theorem wd898 : (Jvm.Cond.code ({ cls := "OneStepMore$Laws", name := "turnTo", desc := "(LOneStepMore$State;LOneStepMore$Text;III)V" } : Jvm.MethodName) prog_3_method_2_code (7 : Nat) (Option.none : Option Jvm.ClassFile.FieldType)) ∈ WS := WS_t4 49 rfl rfl
theorem wd899 : (Jvm.Cond.methodLink "OneStepMore$Laws" (18 : Nat) ({ cls := "OneStepMore$State", name := "houseOf", desc := "(I)LOneStepMore$House;" } : Jvm.MethodName)) ∈ WS := WS_t4 50 rfl rfl
theorem wd901 : (Jvm.Cond.methodLink "OneStepMore$Walk" (163 : Nat) ({ cls := "OneStepMore$Laws", name := "jarNow", desc := "()I" } : Jvm.MethodName)) ∈ WS := WS_t4 52 rfl rfl
theorem wd902 : (Jvm.Cond.instanceMethod ({ cls := "OneStepMore$Laws", name := "jarNow", desc := "()I" } : Jvm.MethodName)) ∈ WS := WS_t4 53 rfl rfl
theorem wd903 : (Jvm.Cond.selects "OneStepMore$Laws" ({ cls := "OneStepMore$Laws", name := "jarNow", desc := "()I" } : Jvm.MethodName) ({ cls := "OneStepMore$Laws", name := "jarNow", desc := "()I" } : Jvm.MethodName)) ∈ WS := WS_t4 54 rfl rfl
theorem wd904 : (Jvm.Cond.code ({ cls := "OneStepMore$Laws", name := "jarNow", desc := "()I" } : Jvm.MethodName) prog_3_method_8_code (1 : Nat) (Option.some Jvm.ClassFile.FieldType.int)) ∈ WS := WS_t4 55 rfl rfl
theorem wd905 : (Jvm.Cond.methodLink "OneStepMore$Laws" (60 : Nat) ({ cls := "OneStepMore$Laws", name := "rules", desc := "(I)Z" } : Jvm.MethodName)) ∈ WS := WS_t4 56 rfl rfl
theorem wd907 : (Jvm.Cond.instanceMethod ({ cls := "OneStepMore$Laws", name := "rules", desc := "(I)Z" } : Jvm.MethodName)) ∈ WS := WS_t4 58 rfl rfl
theorem wd908 : (Jvm.Cond.code ({ cls := "OneStepMore$Laws", name := "rules", desc := "(I)Z" } : Jvm.MethodName) prog_3_method_10_code (2 : Nat) (Option.some Jvm.ClassFile.FieldType.boolean)) ∈ WS := WS_t4 59 rfl rfl
theorem wd909 : (Jvm.Cond.methodLink "OneStepMore$Laws" (64 : Nat) ({ cls := "OneStepMore$Laws", name := "worked", desc := "(I)I" } : Jvm.MethodName)) ∈ WS := WS_t4 60 rfl rfl
theorem wd911 : (Jvm.Cond.instanceMethod ({ cls := "OneStepMore$Laws", name := "worked", desc := "(I)I" } : Jvm.MethodName)) ∈ WS := WS_t4 62 rfl rfl
theorem wd912 : (Jvm.Cond.code ({ cls := "OneStepMore$Laws", name := "worked", desc := "(I)I" } : Jvm.MethodName) prog_3_method_11_code (6 : Nat) (Option.some Jvm.ClassFile.FieldType.int)) ∈ WS := WS_t4 63 rfl rfl
theorem wd914 : (Jvm.Cond.methodLink "OneStepMore$Laws" (91 : Nat) ({ cls := "OneStepMore$Laws", name := "joined", desc := "(IJJ)I" } : Jvm.MethodName)) ∈ WS := WS_t4 65 rfl rfl
theorem wd915 : (Jvm.Cond.static ({ cls := "OneStepMore$Laws", name := "joined", desc := "(IJJ)I" } : Jvm.MethodName)) ∈ WS := WS_t4 66 rfl rfl
theorem wd916 : (Jvm.Cond.code ({ cls := "OneStepMore$Laws", name := "joined", desc := "(IJJ)I" } : Jvm.MethodName) prog_3_method_12_code (7 : Nat) (Option.some Jvm.ClassFile.FieldType.int)) ∈ WS := WS_t4 67 rfl rfl
theorem wd917 : (Jvm.Cond.constantLong "OneStepMore$Laws" (95 : Nat) (1000000 : Int64)) ∈ WS := WS_t4 68 rfl rfl
theorem wd918 : (Jvm.Cond.constantLong "OneStepMore$Laws" (97 : Nat) (-1000000 : Int64)) ∈ WS := WS_t4 69 rfl rfl
theorem wd920 : (Jvm.Cond.static ({ cls := "OneStepMore", name := "between", desc := "(III)I" } : Jvm.MethodName)) ∈ WS := WS_t4 71 rfl rfl
theorem wd921 : (Jvm.Cond.code ({ cls := "OneStepMore", name := "between", desc := "(III)I" } : Jvm.MethodName) prog_1_method_50_code (3 : Nat) (Option.some Jvm.ClassFile.FieldType.int)) ∈ WS := WS_t4 72 rfl rfl
theorem wd922 : (Jvm.Cond.methodLink "OneStepMore" (288 : Nat) ({ cls := "java/lang/Math", name := "min", desc := "(II)I" } : Jvm.MethodName)) ∈ WS := WS_t4 73 rfl rfl
theorem wd923 : (Jvm.Cond.methodLink "OneStepMore" (299 : Nat) ({ cls := "java/lang/Math", name := "max", desc := "(II)I" } : Jvm.MethodName)) ∈ WS := WS_t4 74 rfl rfl
theorem wd924 : (Jvm.Cond.static ({ cls := "java/lang/Math", name := "max", desc := "(II)I" } : Jvm.MethodName)) ∈ WS := WS_t4 75 rfl rfl
theorem wd925 : (Jvm.Cond.code ({ cls := "java/lang/Math", name := "max", desc := "(II)I" } : Jvm.MethodName) prog_15_method_65_code (2 : Nat) (Option.some Jvm.ClassFile.FieldType.int)) ∈ WS := WS_t4 76 rfl rfl
theorem wd926 : (Jvm.Cond.methodLink "OneStepMore$Walk" (63 : Nat) ({ cls := "OneStepMore$Walk", name := "down", desc := "(I)V" } : Jvm.MethodName)) ∈ WS := WS_t4 77 rfl rfl
theorem wd928 : (Jvm.Cond.instanceMethod ({ cls := "OneStepMore$Walk", name := "down", desc := "(I)V" } : Jvm.MethodName)) ∈ WS := WS_t4 79 rfl rfl
theorem wd929 : (Jvm.Cond.code ({ cls := "OneStepMore$Walk", name := "down", desc := "(I)V" } : Jvm.MethodName) prog_11_method_15_code (2 : Nat) (Option.none : Option Jvm.ClassFile.FieldType)) ∈ WS := WS_t4 80 rfl rfl
theorem wd930 : (Jvm.Cond.methodLink "OneStepMore$Walk" (183 : Nat) ({ cls := "OneStepMore$State", name := "writeDown", desc := "(I)V" } : Jvm.MethodName)) ∈ WS := WS_t4 81 rfl rfl
theorem wd931 : (Jvm.Cond.instanceMethod ({ cls := "OneStepMore$State", name := "writeDown", desc := "(I)V" } : Jvm.MethodName)) ∈ WS := WS_t4 82 rfl rfl
theorem wd932 : (Jvm.Cond.selects "OneStepMore$State" ({ cls := "OneStepMore$State", name := "writeDown", desc := "(I)V" } : Jvm.MethodName) ({ cls := "OneStepMore$State", name := "writeDown", desc := "(I)V" } : Jvm.MethodName)) ∈ WS := WS_t4 83 rfl rfl
theorem wd933 : (Jvm.Cond.code ({ cls := "OneStepMore$State", name := "writeDown", desc := "(I)V" } : Jvm.MethodName) prog_7_method_20_code (3 : Nat) (Option.none : Option Jvm.ClassFile.FieldType)) ∈ WS := WS_t4 84 rfl rfl
theorem wd934 : (Jvm.Cond.methodLink "OneStepMore$Walk" (166 : Nat) ({ cls := "OneStepMore$Laws", name := "face", desc := "(LOneStepMore$House;I)V" } : Jvm.MethodName)) ∈ WS := WS_t4 85 rfl rfl
theorem wd935 : (Jvm.Cond.instanceMethod ({ cls := "OneStepMore$Laws", name := "face", desc := "(LOneStepMore$House;I)V" } : Jvm.MethodName)) ∈ WS := WS_t4 86 rfl rfl
theorem wd936 : (Jvm.Cond.selects "OneStepMore$Laws" ({ cls := "OneStepMore$Laws", name := "face", desc := "(LOneStepMore$House;I)V" } : Jvm.MethodName) ({ cls := "OneStepMore$Laws", name := "face", desc := "(LOneStepMore$House;I)V" } : Jvm.MethodName)) ∈ WS := WS_t4 87 rfl rfl
theorem wd937 : (Jvm.Cond.code ({ cls := "OneStepMore$Laws", name := "face", desc := "(LOneStepMore$House;I)V" } : Jvm.MethodName) prog_3_method_3_code (3 : Nat) (Option.none : Option Jvm.ClassFile.FieldType)) ∈ WS := WS_t4 88 rfl rfl
theorem wd938 : (Jvm.Cond.methodLink "OneStepMore$Laws" (53 : Nat) ({ cls := "OneStepMore$House", name := "highOf", desc := "(I)I" } : Jvm.MethodName)) ∈ WS := WS_t4 89 rfl rfl
theorem wd939 : (Jvm.Cond.instanceMethod ({ cls := "OneStepMore$House", name := "highOf", desc := "(I)I" } : Jvm.MethodName)) ∈ WS := WS_t4 90 rfl rfl
theorem wd940 : (Jvm.Cond.selects "OneStepMore$House" ({ cls := "OneStepMore$House", name := "highOf", desc := "(I)I" } : Jvm.MethodName) ({ cls := "OneStepMore$House", name := "highOf", desc := "(I)I" } : Jvm.MethodName)) ∈ WS := WS_t4 91 rfl rfl
theorem wd941 : (Jvm.Cond.code ({ cls := "OneStepMore$House", name := "highOf", desc := "(I)I" } : Jvm.MethodName) prog_2_method_5_code (2 : Nat) (Option.some Jvm.ClassFile.FieldType.int)) ∈ WS := WS_t4 92 rfl rfl
theorem wd943 : (Jvm.Cond.methodLink "OneStepMore$Walk" (170 : Nat) ({ cls := "OneStepMore$Laws", name := "tripsNow", desc := "()Z" } : Jvm.MethodName)) ∈ WS := WS_t4 94 rfl rfl
theorem wd944 : (Jvm.Cond.instanceMethod ({ cls := "OneStepMore$Laws", name := "tripsNow", desc := "()Z" } : Jvm.MethodName)) ∈ WS := WS_t4 95 rfl rfl
theorem wd945 : (Jvm.Cond.selects "OneStepMore$Laws" ({ cls := "OneStepMore$Laws", name := "tripsNow", desc := "()Z" } : Jvm.MethodName) ({ cls := "OneStepMore$Laws", name := "tripsNow", desc := "()Z" } : Jvm.MethodName)) ∈ WS := WS_t4 96 rfl rfl
theorem wd946 : (Jvm.Cond.code ({ cls := "OneStepMore$Laws", name := "tripsNow", desc := "()Z" } : Jvm.MethodName) prog_3_method_7_code (1 : Nat) (Option.some Jvm.ClassFile.FieldType.boolean)) ∈ WS := WS_t4 97 rfl rfl
theorem wd947 : (Jvm.Cond.methodLink "OneStepMore$Laws" (71 : Nat) ({ cls := "java/lang/Math", name := "abs", desc := "(I)I" } : Jvm.MethodName)) ∈ WS := WS_t4 98 rfl rfl
theorem wd948 : (Jvm.Cond.static ({ cls := "java/lang/Math", name := "abs", desc := "(I)I" } : Jvm.MethodName)) ∈ WS := WS_t4 99 rfl rfl
theorem wd949 : (Jvm.Cond.code ({ cls := "java/lang/Math", name := "abs", desc := "(I)I" } : Jvm.MethodName) prog_15_method_59_code (1 : Nat) (Option.some Jvm.ClassFile.FieldType.int)) ∈ WS := WS_t4 100 rfl rfl
theorem wd950 : (Jvm.Cond.methodLink "OneStepMore$Walk" (57 : Nat) ({ cls := "OneStepMore$Laws", name := "fallNow", desc := "()I" } : Jvm.MethodName)) ∈ WS := WS_t4 101 rfl rfl
theorem wd951 : (Jvm.Cond.instanceMethod ({ cls := "OneStepMore$Laws", name := "fallNow", desc := "()I" } : Jvm.MethodName)) ∈ WS := WS_t4 102 rfl rfl
theorem wd952 : (Jvm.Cond.selects "OneStepMore$Laws" ({ cls := "OneStepMore$Laws", name := "fallNow", desc := "()I" } : Jvm.MethodName) ({ cls := "OneStepMore$Laws", name := "fallNow", desc := "()I" } : Jvm.MethodName)) ∈ WS := WS_t4 103 rfl rfl
theorem wd953 : (Jvm.Cond.code ({ cls := "OneStepMore$Laws", name := "fallNow", desc := "()I" } : Jvm.MethodName) prog_3_method_9_code (1 : Nat) (Option.some Jvm.ClassFile.FieldType.int)) ∈ WS := WS_t4 104 rfl rfl
theorem wd954 : (Jvm.Cond.methodLink "OneStepMore$Walk" (173 : Nat) ({ cls := "OneStepMore$Laws", name := "noneNow", desc := "()I" } : Jvm.MethodName)) ∈ WS := WS_t4 105 rfl rfl
theorem wd955 : (Jvm.Cond.instanceMethod ({ cls := "OneStepMore$Laws", name := "noneNow", desc := "()I" } : Jvm.MethodName)) ∈ WS := WS_t4 106 rfl rfl
theorem wd956 : (Jvm.Cond.selects "OneStepMore$Laws" ({ cls := "OneStepMore$Laws", name := "noneNow", desc := "()I" } : Jvm.MethodName) ({ cls := "OneStepMore$Laws", name := "noneNow", desc := "()I" } : Jvm.MethodName)) ∈ WS := WS_t4 107 rfl rfl
theorem wd957 : (Jvm.Cond.code ({ cls := "OneStepMore$Laws", name := "noneNow", desc := "()I" } : Jvm.MethodName) prog_3_method_5_code (1 : Nat) (Option.some Jvm.ClassFile.FieldType.int)) ∈ WS := WS_t4 108 rfl rfl
theorem wd958 : (Jvm.Cond.methodLink "OneStepMore$Walk" (176 : Nat) ({ cls := "OneStepMore$Laws", name := "twiceNow", desc := "(I)I" } : Jvm.MethodName)) ∈ WS := WS_t4 109 rfl rfl
theorem wd959 : (Jvm.Cond.instanceMethod ({ cls := "OneStepMore$Laws", name := "twiceNow", desc := "(I)I" } : Jvm.MethodName)) ∈ WS := WS_t4 110 rfl rfl
theorem wd960 : (Jvm.Cond.selects "OneStepMore$Laws" ({ cls := "OneStepMore$Laws", name := "twiceNow", desc := "(I)I" } : Jvm.MethodName) ({ cls := "OneStepMore$Laws", name := "twiceNow", desc := "(I)I" } : Jvm.MethodName)) ∈ WS := WS_t4 111 rfl rfl
theorem wd961 : (Jvm.Cond.code ({ cls := "OneStepMore$Laws", name := "twiceNow", desc := "(I)I" } : Jvm.MethodName) prog_3_method_6_code (2 : Nat) (Option.some Jvm.ClassFile.FieldType.int)) ∈ WS := WS_t4 112 rfl rfl
theorem wd962 : (Jvm.Cond.methodLink "OneStepMore$Walk" (180 : Nat) ({ cls := "OneStepMore$House", name := "hasMark", desc := "(I)Z" } : Jvm.MethodName)) ∈ WS := WS_t4 113 rfl rfl
theorem wd963 : (Jvm.Cond.methodLink "OneStepMoreLaw" (73 : Nat) ({ cls := "OneStepMore", name := "toe", desc := "()I" } : Jvm.MethodName)) ∈ WS := WS_t4 114 rfl rfl
theorem wd964 : (Jvm.Cond.instanceMethod ({ cls := "OneStepMore", name := "toe", desc := "()I" } : Jvm.MethodName)) ∈ WS := WS_t4 115 rfl rfl
theorem wd965 : (Jvm.Cond.selects "OneStepMore" ({ cls := "OneStepMore", name := "toe", desc := "()I" } : Jvm.MethodName) ({ cls := "OneStepMore", name := "toe", desc := "()I" } : Jvm.MethodName)) ∈ WS := WS_t4 116 rfl rfl
theorem wd966 : (Jvm.Cond.code ({ cls := "OneStepMore", name := "toe", desc := "()I" } : Jvm.MethodName) prog_1_method_15_code (1 : Nat) (Option.some Jvm.ClassFile.FieldType.int)) ∈ WS := WS_t4 117 rfl rfl
theorem wd967 : (Jvm.Cond.methodLink "OneStepMore" (141 : Nat) ({ cls := "OneStepMore$Walk", name := "toeAct", desc := "()I" } : Jvm.MethodName)) ∈ WS := WS_t4 118 rfl rfl
theorem wd968 : (Jvm.Cond.instanceMethod ({ cls := "OneStepMore$Walk", name := "toeAct", desc := "()I" } : Jvm.MethodName)) ∈ WS := WS_t4 119 rfl rfl
theorem wd969 : (Jvm.Cond.selects "OneStepMore$Walk" ({ cls := "OneStepMore$Walk", name := "toeAct", desc := "()I" } : Jvm.MethodName) ({ cls := "OneStepMore$Walk", name := "toeAct", desc := "()I" } : Jvm.MethodName)) ∈ WS := WS_t4 120 rfl rfl
theorem wd970 : (Jvm.Cond.code ({ cls := "OneStepMore$Walk", name := "toeAct", desc := "()I" } : Jvm.MethodName) prog_11_method_4_code (1 : Nat) (Option.some Jvm.ClassFile.FieldType.int)) ∈ WS := WS_t4 121 rfl rfl
theorem wd971 : (Jvm.Cond.methodLink "OneStepMoreLaw" (77 : Nat) ({ cls := "OneStepMore", name := "stop", desc := "()I" } : Jvm.MethodName)) ∈ WS := WS_t4 122 rfl rfl
theorem wd972 : (Jvm.Cond.instanceMethod ({ cls := "OneStepMore", name := "stop", desc := "()I" } : Jvm.MethodName)) ∈ WS := WS_t4 123 rfl rfl
theorem wd973 : (Jvm.Cond.selects "OneStepMore" ({ cls := "OneStepMore", name := "stop", desc := "()I" } : Jvm.MethodName) ({ cls := "OneStepMore", name := "stop", desc := "()I" } : Jvm.MethodName)) ∈ WS := WS_t4 124 rfl rfl
theorem wd974 : (Jvm.Cond.code ({ cls := "OneStepMore", name := "stop", desc := "()I" } : Jvm.MethodName) prog_1_method_16_code (1 : Nat) (Option.some Jvm.ClassFile.FieldType.int)) ∈ WS := WS_t4 125 rfl rfl
theorem wd975 : (Jvm.Cond.methodLink "OneStepMore" (144 : Nat) ({ cls := "OneStepMore$Walk", name := "stopAct", desc := "()I" } : Jvm.MethodName)) ∈ WS := WS_t4 126 rfl rfl
theorem wd976 : (Jvm.Cond.instanceMethod ({ cls := "OneStepMore$Walk", name := "stopAct", desc := "()I" } : Jvm.MethodName)) ∈ WS := WS_t4 127 rfl rfl
theorem wd977 : (Jvm.Cond.selects "OneStepMore$Walk" ({ cls := "OneStepMore$Walk", name := "stopAct", desc := "()I" } : Jvm.MethodName) ({ cls := "OneStepMore$Walk", name := "stopAct", desc := "()I" } : Jvm.MethodName)) ∈ WS := WS_t4 128 rfl rfl
theorem wd978 : (Jvm.Cond.code ({ cls := "OneStepMore$Walk", name := "stopAct", desc := "()I" } : Jvm.MethodName) prog_11_method_5_code (3 : Nat) (Option.some Jvm.ClassFile.FieldType.int)) ∈ WS := WS_t4 129 rfl rfl
theorem wd979 : (Jvm.Cond.methodLink "OneStepMoreLaw" (81 : Nat) ({ cls := "OneStepMore", name := "night", desc := "(I)I" } : Jvm.MethodName)) ∈ WS := WS_t4 130 rfl rfl
theorem wd980 : (Jvm.Cond.instanceMethod ({ cls := "OneStepMore", name := "night", desc := "(I)I" } : Jvm.MethodName)) ∈ WS := WS_t4 131 rfl rfl
theorem wd981 : (Jvm.Cond.selects "OneStepMore" ({ cls := "OneStepMore", name := "night", desc := "(I)I" } : Jvm.MethodName) ({ cls := "OneStepMore", name := "night", desc := "(I)I" } : Jvm.MethodName)) ∈ WS := WS_t4 132 rfl rfl
theorem wd982 : (Jvm.Cond.code ({ cls := "OneStepMore", name := "night", desc := "(I)I" } : Jvm.MethodName) prog_1_method_17_code (3 : Nat) (Option.some Jvm.ClassFile.FieldType.int)) ∈ WS := WS_t4 133 rfl rfl
theorem wd983 : (Jvm.Cond.methodLink "OneStepMore" (150 : Nat) ({ cls := "OneStepMore$Walk", name := "nightAct", desc := "()I" } : Jvm.MethodName)) ∈ WS := WS_t4 134 rfl rfl
theorem wd984 : (Jvm.Cond.instanceMethod ({ cls := "OneStepMore$Walk", name := "nightAct", desc := "()I" } : Jvm.MethodName)) ∈ WS := WS_t4 135 rfl rfl
theorem wd985 : (Jvm.Cond.selects "OneStepMore$Walk" ({ cls := "OneStepMore$Walk", name := "nightAct", desc := "()I" } : Jvm.MethodName) ({ cls := "OneStepMore$Walk", name := "nightAct", desc := "()I" } : Jvm.MethodName)) ∈ WS := WS_t4 136 rfl rfl
theorem wd986 : (Jvm.Cond.code ({ cls := "OneStepMore$Walk", name := "nightAct", desc := "()I" } : Jvm.MethodName) prog_11_method_6_code (1 : Nat) (Option.some Jvm.ClassFile.FieldType.int)) ∈ WS := WS_t4 137 rfl rfl
theorem wd987 : (Jvm.Cond.methodLink "OneStepMoreLaw" (85 : Nat) ({ cls := "OneStepMore", name := "played", desc := "(I)I" } : Jvm.MethodName)) ∈ WS := WS_t4 138 rfl rfl
theorem wd988 : (Jvm.Cond.instanceMethod ({ cls := "OneStepMore", name := "played", desc := "(I)I" } : Jvm.MethodName)) ∈ WS := WS_t4 139 rfl rfl
theorem wd989 : (Jvm.Cond.selects "OneStepMore" ({ cls := "OneStepMore", name := "played", desc := "(I)I" } : Jvm.MethodName) ({ cls := "OneStepMore", name := "played", desc := "(I)I" } : Jvm.MethodName)) ∈ WS := WS_t4 140 rfl rfl
theorem wd990 : (Jvm.Cond.code ({ cls := "OneStepMore", name := "played", desc := "(I)I" } : Jvm.MethodName) prog_1_method_18_code (3 : Nat) (Option.some Jvm.ClassFile.FieldType.int)) ∈ WS := WS_t4 141 rfl rfl
theorem wd991 : (Jvm.Cond.methodLink "OneStepMore" (153 : Nat) ({ cls := "OneStepMore$Walk", name := "playedBy", desc := "(LOneStepMore$Text;)I" } : Jvm.MethodName)) ∈ WS := WS_t4 142 rfl rfl
theorem wd992 : (Jvm.Cond.instanceMethod ({ cls := "OneStepMore$Walk", name := "playedBy", desc := "(LOneStepMore$Text;)I" } : Jvm.MethodName)) ∈ WS := WS_t4 143 rfl rfl
theorem wd993 : (Jvm.Cond.selects "OneStepMore$Walk" ({ cls := "OneStepMore$Walk", name := "playedBy", desc := "(LOneStepMore$Text;)I" } : Jvm.MethodName) ({ cls := "OneStepMore$Walk", name := "playedBy", desc := "(LOneStepMore$Text;)I" } : Jvm.MethodName)) ∈ WS := WS_t4 144 rfl rfl
theorem wd994 : (Jvm.Cond.code ({ cls := "OneStepMore$Walk", name := "playedBy", desc := "(LOneStepMore$Text;)I" } : Jvm.MethodName) prog_11_method_8_code (6 : Nat) (Option.some Jvm.ClassFile.FieldType.int)) ∈ WS := WS_t4 145 rfl rfl
theorem wd995 : (Jvm.Cond.methodLink "OneStepMore$Walk" (100 : Nat) ({ cls := "OneStepMore$Text", name := "numberOf", desc := "(II)I" } : Jvm.MethodName)) ∈ WS := WS_t4 146 rfl rfl
theorem wd996 : (Jvm.Cond.instanceMethod ({ cls := "OneStepMore$Text", name := "numberOf", desc := "(II)I" } : Jvm.MethodName)) ∈ WS := WS_t4 147 rfl rfl
theorem wd997 : (Jvm.Cond.selects "OneStepMore$Text" ({ cls := "OneStepMore$Text", name := "numberOf", desc := "(II)I" } : Jvm.MethodName) ({ cls := "OneStepMore$Text", name := "numberOf", desc := "(II)I" } : Jvm.MethodName)) ∈ WS := WS_t4 148 rfl rfl
theorem wd998 : (Jvm.Cond.code ({ cls := "OneStepMore$Text", name := "numberOf", desc := "(II)I" } : Jvm.MethodName) prog_10_method_2_code (3 : Nat) (Option.some Jvm.ClassFile.FieldType.int)) ∈ WS := WS_t4 149 rfl rfl
theorem wd1000 : (Jvm.Cond.methodLink "OneStepMore$Walk" (103 : Nat) ({ cls := "OneStepMore$Walk", name := "isDone", desc := "(LOneStepMore$Text;I)Z" } : Jvm.MethodName)) ∈ WS := WS_t4 151 rfl rfl
theorem wd1002 : (Jvm.Cond.instanceMethod ({ cls := "OneStepMore$Walk", name := "isDone", desc := "(LOneStepMore$Text;I)Z" } : Jvm.MethodName)) ∈ WS := WS_t4 153 rfl rfl
theorem wd1003 : (Jvm.Cond.code ({ cls := "OneStepMore$Walk", name := "isDone", desc := "(LOneStepMore$Text;I)Z" } : Jvm.MethodName) prog_11_method_9_code (5 : Nat) (Option.some Jvm.ClassFile.FieldType.boolean)) ∈ WS := WS_t4 154 rfl rfl
theorem wd1004 : (Jvm.Cond.methodLink "OneStepMore$Walk" (107 : Nat) ({ cls := "OneStepMore$State", name := "tellStairs", desc := "(II)Z" } : Jvm.MethodName)) ∈ WS := WS_t4 155 rfl rfl
theorem wd1005 : (Jvm.Cond.methodLink "OneStepMore$Walk" (111 : Nat) ({ cls := "OneStepMore$State", name := "tellHeight", desc := "(III)Z" } : Jvm.MethodName)) ∈ WS := WS_t4 156 rfl rfl
theorem wd1006 : (Jvm.Cond.methodLink "OneStepMore$Walk" (115 : Nat) ({ cls := "OneStepMore$State", name := "turnMark", desc := "(II)Z" } : Jvm.MethodName)) ∈ WS := WS_t4 157 rfl rfl
theorem wd1007 : (Jvm.Cond.instanceMethod ({ cls := "OneStepMore$State", name := "turnMark", desc := "(II)Z" } : Jvm.MethodName)) ∈ WS := WS_t4 158 rfl rfl
theorem wd1008 : (Jvm.Cond.selects "OneStepMore$State" ({ cls := "OneStepMore$State", name := "turnMark", desc := "(II)Z" } : Jvm.MethodName) ({ cls := "OneStepMore$State", name := "turnMark", desc := "(II)Z" } : Jvm.MethodName)) ∈ WS := WS_t4 159 rfl rfl
theorem wd1009 : (Jvm.Cond.code ({ cls := "OneStepMore$State", name := "turnMark", desc := "(II)Z" } : Jvm.MethodName) prog_7_method_11_code (4 : Nat) (Option.some Jvm.ClassFile.FieldType.boolean)) ∈ WS := WS_t4 160 rfl rfl
theorem wd1010 : (Jvm.Cond.methodLink "OneStepMore$State" (92 : Nat) ({ cls := "OneStepMore$State", name := "tellMark", desc := "(IIZ)Z" } : Jvm.MethodName)) ∈ WS := WS_t4 161 rfl rfl
theorem wd1011 : (Jvm.Cond.methodLink "OneStepMore$Walk" (118 : Nat) ({ cls := "OneStepMore$State", name := "tellRail", desc := "(II)Z" } : Jvm.MethodName)) ∈ WS := WS_t4 162 rfl rfl
theorem wd1012 : (Jvm.Cond.methodLink "OneStepMore$Walk" (121 : Nat) ({ cls := "OneStepMore$State", name := "tellPerson", desc := "(III)I" } : Jvm.MethodName)) ∈ WS := WS_t4 163 rfl rfl
theorem wd1013 : (Jvm.Cond.methodLink "OneStepMore$Walk" (125 : Nat) ({ cls := "OneStepMore$Walk", name := "beginAct", desc := "(III)I" } : Jvm.MethodName)) ∈ WS := WS_t4 164 rfl rfl
theorem wd1014 : (Jvm.Cond.methodLink "OneStepMore$Walk" (128 : Nat) ({ cls := "OneStepMore$Walk", name := "stepAct", desc := "()I" } : Jvm.MethodName)) ∈ WS := WS_t4 165 rfl rfl
theorem wd1015 : (Jvm.Cond.methodLink "OneStepMore$Walk" (131 : Nat) ({ cls := "OneStepMore$Walk", name := "toeAct", desc := "()I" } : Jvm.MethodName)) ∈ WS := WS_t4 166 rfl rfl
theorem wd1016 : (Jvm.Cond.methodLink "OneStepMore$Walk" (134 : Nat) ({ cls := "OneStepMore$Walk", name := "stopAct", desc := "()I" } : Jvm.MethodName)) ∈ WS := WS_t4 167 rfl rfl
theorem wd1017 : (Jvm.Cond.methodLink "OneStepMore$Walk" (137 : Nat) ({ cls := "OneStepMore$Walk", name := "nightAct", desc := "()I" } : Jvm.MethodName)) ∈ WS := WS_t4 168 rfl rfl
theorem wd1018 : (Jvm.Cond.methodLink "OneStepMoreLaw" (89 : Nat) ({ cls := "OneStepMore", name := "week", desc := "(II)I" } : Jvm.MethodName)) ∈ WS := WS_t4 169 rfl rfl
theorem wd1019 : (Jvm.Cond.instanceMethod ({ cls := "OneStepMore", name := "week", desc := "(II)I" } : Jvm.MethodName)) ∈ WS := WS_t4 170 rfl rfl
theorem wd1020 : (Jvm.Cond.selects "OneStepMore" ({ cls := "OneStepMore", name := "week", desc := "(II)I" } : Jvm.MethodName) ({ cls := "OneStepMore", name := "week", desc := "(II)I" } : Jvm.MethodName)) ∈ WS := WS_t4 171 rfl rfl
theorem wd1021 : (Jvm.Cond.code ({ cls := "OneStepMore", name := "week", desc := "(II)I" } : Jvm.MethodName) prog_1_method_19_code (3 : Nat) (Option.some Jvm.ClassFile.FieldType.int)) ∈ WS := WS_t4 172 rfl rfl
theorem wd1022 : (Jvm.Cond.methodLink "OneStepMore" (159 : Nat) ({ cls := "OneStepMore$Walk", name := "weekAct", desc := "(II)I" } : Jvm.MethodName)) ∈ WS := WS_t4 173 rfl rfl
theorem wd1023 : (Jvm.Cond.instanceMethod ({ cls := "OneStepMore$Walk", name := "weekAct", desc := "(II)I" } : Jvm.MethodName)) ∈ WS := WS_t4 174 rfl rfl
theorem wd1024 : (Jvm.Cond.selects "OneStepMore$Walk" ({ cls := "OneStepMore$Walk", name := "weekAct", desc := "(II)I" } : Jvm.MethodName) ({ cls := "OneStepMore$Walk", name := "weekAct", desc := "(II)I" } : Jvm.MethodName)) ∈ WS := WS_t4 175 rfl rfl
theorem wd1025 : (Jvm.Cond.code ({ cls := "OneStepMore$Walk", name := "weekAct", desc := "(II)I" } : Jvm.MethodName) prog_11_method_7_code (8 : Nat) (Option.some Jvm.ClassFile.FieldType.int)) ∈ WS := WS_t4 176 rfl rfl
theorem wd1026 : (Jvm.Cond.methodLink "OneStepMore$Walk" (79 : Nat) ({ cls := "OneStepMore$State", name := "lines", desc := "()I" } : Jvm.MethodName)) ∈ WS := WS_t4 177 rfl rfl
theorem wd1027 : (Jvm.Cond.instanceMethod ({ cls := "OneStepMore$State", name := "lines", desc := "()I" } : Jvm.MethodName)) ∈ WS := WS_t4 178 rfl rfl
theorem wd1028 : (Jvm.Cond.selects "OneStepMore$State" ({ cls := "OneStepMore$State", name := "lines", desc := "()I" } : Jvm.MethodName) ({ cls := "OneStepMore$State", name := "lines", desc := "()I" } : Jvm.MethodName)) ∈ WS := WS_t4 179 rfl rfl
theorem wd1029 : (Jvm.Cond.code ({ cls := "OneStepMore$State", name := "lines", desc := "()I" } : Jvm.MethodName) prog_7_method_18_code (1 : Nat) (Option.some Jvm.ClassFile.FieldType.int)) ∈ WS := WS_t4 180 rfl rfl
theorem wd1030 : (Jvm.Cond.methodLink "OneStepMore$Walk" (82 : Nat) ({ cls := "OneStepMore$State", name := "lineOf", desc := "(II)I" } : Jvm.MethodName)) ∈ WS := WS_t4 181 rfl rfl
theorem wd1031 : (Jvm.Cond.instanceMethod ({ cls := "OneStepMore$State", name := "lineOf", desc := "(II)I" } : Jvm.MethodName)) ∈ WS := WS_t4 182 rfl rfl
theorem wd1032 : (Jvm.Cond.selects "OneStepMore$State" ({ cls := "OneStepMore$State", name := "lineOf", desc := "(II)I" } : Jvm.MethodName) ({ cls := "OneStepMore$State", name := "lineOf", desc := "(II)I" } : Jvm.MethodName)) ∈ WS := WS_t4 183 rfl rfl
theorem wd1033 : (Jvm.Cond.code ({ cls := "OneStepMore$State", name := "lineOf", desc := "(II)I" } : Jvm.MethodName) prog_7_method_19_code (3 : Nat) (Option.some Jvm.ClassFile.FieldType.int)) ∈ WS := WS_t4 184 rfl rfl
theorem wd1034 : (Jvm.Cond.methodLink "OneStepMore$State" (127 : Nat) ({ cls := "OneStepMore$State", name := "lines", desc := "()I" } : Jvm.MethodName)) ∈ WS := WS_t4 185 rfl rfl
theorem wd1036 : (Jvm.Cond.methodLink "OneStepMore$Walk" (86 : Nat) ({ cls := "java/lang/Math", name := "min", desc := "(II)I" } : Jvm.MethodName)) ∈ WS := WS_t4 187 rfl rfl
theorem wd1037 : (Jvm.Cond.methodLink "OneStepMoreLaw" (94 : Nat) ({ cls := "OneStepMore", name := "undo", desc := "()I" } : Jvm.MethodName)) ∈ WS := WS_t4 188 rfl rfl
theorem wd1038 : (Jvm.Cond.instanceMethod ({ cls := "OneStepMore", name := "undo", desc := "()I" } : Jvm.MethodName)) ∈ WS := WS_t4 189 rfl rfl
theorem wd1039 : (Jvm.Cond.selects "OneStepMore" ({ cls := "OneStepMore", name := "undo", desc := "()I" } : Jvm.MethodName) ({ cls := "OneStepMore", name := "undo", desc := "()I" } : Jvm.MethodName)) ∈ WS := WS_t4 190 rfl rfl
theorem wd1040 : (Jvm.Cond.code ({ cls := "OneStepMore", name := "undo", desc := "()I" } : Jvm.MethodName) prog_1_method_20_code (1 : Nat) (Option.some Jvm.ClassFile.FieldType.int)) ∈ WS := WS_t4 191 rfl rfl
theorem wd1041 : (Jvm.Cond.methodLink "OneStepMore" (163 : Nat) ({ cls := "OneStepMore$State", name := "takeBack", desc := "()I" } : Jvm.MethodName)) ∈ WS := WS_t4 192 rfl rfl
theorem wd1042 : (Jvm.Cond.instanceMethod ({ cls := "OneStepMore$State", name := "takeBack", desc := "()I" } : Jvm.MethodName)) ∈ WS := WS_t4 193 rfl rfl
theorem wd1043 : (Jvm.Cond.selects "OneStepMore$State" ({ cls := "OneStepMore$State", name := "takeBack", desc := "()I" } : Jvm.MethodName) ({ cls := "OneStepMore$State", name := "takeBack", desc := "()I" } : Jvm.MethodName)) ∈ WS := WS_t4 194 rfl rfl
theorem wd1044 : (Jvm.Cond.code ({ cls := "OneStepMore$State", name := "takeBack", desc := "()I" } : Jvm.MethodName) prog_7_method_17_code (3 : Nat) (Option.some Jvm.ClassFile.FieldType.int)) ∈ WS := WS_t4 195 rfl rfl
theorem wd1045 : (Jvm.Cond.methodLink "OneStepMoreLaw" (98 : Nat) ({ cls := "OneStepMore", name := "way", desc := "(I)I" } : Jvm.MethodName)) ∈ WS := WS_t4 196 rfl rfl
theorem wd1046 : (Jvm.Cond.instanceMethod ({ cls := "OneStepMore", name := "way", desc := "(I)I" } : Jvm.MethodName)) ∈ WS := WS_t4 197 rfl rfl
theorem wd1047 : (Jvm.Cond.selects "OneStepMore" ({ cls := "OneStepMore", name := "way", desc := "(I)I" } : Jvm.MethodName) ({ cls := "OneStepMore", name := "way", desc := "(I)I" } : Jvm.MethodName)) ∈ WS := WS_t4 198 rfl rfl
theorem wd1048 : (Jvm.Cond.code ({ cls := "OneStepMore", name := "way", desc := "(I)I" } : Jvm.MethodName) prog_1_method_21_code (2 : Nat) (Option.some Jvm.ClassFile.FieldType.int)) ∈ WS := WS_t4 199 rfl rfl
theorem wd1049 : (Jvm.Cond.methodLink "OneStepMore" (166 : Nat) ({ cls := "OneStepMore$State", name := "isOnWay", desc := "()Z" } : Jvm.MethodName)) ∈ WS := WS_t4 200 rfl rfl
theorem wd1050 : (Jvm.Cond.methodLink "OneStepMore" (169 : Nat) ({ cls := "OneStepMore$State", name := "wayOf", desc := "(I)I" } : Jvm.MethodName)) ∈ WS := WS_t4 201 rfl rfl
theorem wd1051 : (Jvm.Cond.instanceMethod ({ cls := "OneStepMore$State", name := "wayOf", desc := "(I)I" } : Jvm.MethodName)) ∈ WS := WS_t4 202 rfl rfl
theorem wd1052 : (Jvm.Cond.selects "OneStepMore$State" ({ cls := "OneStepMore$State", name := "wayOf", desc := "(I)I" } : Jvm.MethodName) ({ cls := "OneStepMore$State", name := "wayOf", desc := "(I)I" } : Jvm.MethodName)) ∈ WS := WS_t4 203 rfl rfl
theorem wd1053 : (Jvm.Cond.code ({ cls := "OneStepMore$State", name := "wayOf", desc := "(I)I" } : Jvm.MethodName) prog_7_method_5_code (2 : Nat) (Option.some Jvm.ClassFile.FieldType.int)) ∈ WS := WS_t4 204 rfl rfl
theorem wd1054 : (Jvm.Cond.methodLink "OneStepMoreLaw" (102 : Nat) ({ cls := "OneStepMore", name := "house", desc := "(II)I" } : Jvm.MethodName)) ∈ WS := WS_t4 205 rfl rfl
theorem wd1055 : (Jvm.Cond.instanceMethod ({ cls := "OneStepMore", name := "house", desc := "(II)I" } : Jvm.MethodName)) ∈ WS := WS_t4 206 rfl rfl
theorem wd1056 : (Jvm.Cond.selects "OneStepMore" ({ cls := "OneStepMore", name := "house", desc := "(II)I" } : Jvm.MethodName) ({ cls := "OneStepMore", name := "house", desc := "(II)I" } : Jvm.MethodName)) ∈ WS := WS_t4 207 rfl rfl
theorem wd1057 : (Jvm.Cond.code ({ cls := "OneStepMore", name := "house", desc := "(II)I" } : Jvm.MethodName) prog_1_method_22_code (4 : Nat) (Option.some Jvm.ClassFile.FieldType.int)) ∈ WS := WS_t4 208 rfl rfl
theorem wd1058 : (Jvm.Cond.methodLink "OneStepMore" (172 : Nat) ({ cls := "OneStepMore$State", name := "houseOf", desc := "(I)LOneStepMore$House;" } : Jvm.MethodName)) ∈ WS := WS_t4 209 rfl rfl
theorem wd1059 : (Jvm.Cond.methodLink "OneStepMore" (187 : Nat) ({ cls := "OneStepMore$House", name := "hasStep", desc := "(I)Z" } : Jvm.MethodName)) ∈ WS := WS_t4 210 rfl rfl
theorem wd1060 : (Jvm.Cond.methodLink "OneStepMore" (190 : Nat) ({ cls := "OneStepMore$House", name := "highOf", desc := "(I)I" } : Jvm.MethodName)) ∈ WS := WS_t4 211 rfl rfl
theorem wd1061 : (Jvm.Cond.methodLink "OneStepMoreLaw" (106 : Nat) ({ cls := "OneStepMore", name := "says", desc := "(IIIII)I" } : Jvm.MethodName)) ∈ WS := WS_t4 212 rfl rfl
theorem wd1062 : (Jvm.Cond.instanceMethod ({ cls := "OneStepMore", name := "says", desc := "(IIIII)I" } : Jvm.MethodName)) ∈ WS := WS_t4 213 rfl rfl
theorem wd1063 : (Jvm.Cond.selects "OneStepMore" ({ cls := "OneStepMore", name := "says", desc := "(IIIII)I" } : Jvm.MethodName) ({ cls := "OneStepMore", name := "says", desc := "(IIIII)I" } : Jvm.MethodName)) ∈ WS := WS_t4 214 rfl rfl
theorem wd1064 : (Jvm.Cond.code ({ cls := "OneStepMore", name := "says", desc := "(IIIII)I" } : Jvm.MethodName) prog_1_method_23_code (6 : Nat) (Option.some Jvm.ClassFile.FieldType.int)) ∈ WS := WS_t4 215 rfl rfl
theorem wd1065 : (Jvm.Cond.methodLink "OneStepMore" (193 : Nat) ({ cls := "OneStepMore$Tales", name := "saidOf", desc := "(IIIII)I" } : Jvm.MethodName)) ∈ WS := WS_t4 216 rfl rfl
theorem wd1066 : (Jvm.Cond.instanceMethod ({ cls := "OneStepMore$Tales", name := "saidOf", desc := "(IIIII)I" } : Jvm.MethodName)) ∈ WS := WS_t4 217 rfl rfl
theorem wd1067 : (Jvm.Cond.selects "OneStepMore$Tales" ({ cls := "OneStepMore$Tales", name := "saidOf", desc := "(IIIII)I" } : Jvm.MethodName) ({ cls := "OneStepMore$Tales", name := "saidOf", desc := "(IIIII)I" } : Jvm.MethodName)) ∈ WS := WS_t4 218 rfl rfl
theorem wd1068 : (Jvm.Cond.code ({ cls := "OneStepMore$Tales", name := "saidOf", desc := "(IIIII)I" } : Jvm.MethodName) prog_8_method_2_code (7 : Nat) (Option.some Jvm.ClassFile.FieldType.int)) ∈ WS := WS_t4 219 rfl rfl
theorem wd1069 : (Jvm.Cond.methodLink "OneStepMore$Tales" (23 : Nat) ({ cls := "OneStepMore$State", name := "houseOf", desc := "(I)LOneStepMore$House;" } : Jvm.MethodName)) ∈ WS := WS_t4 220 rfl rfl
theorem wd1070 : (Jvm.Cond.methodLink "OneStepMore$Tales" (29 : Nat) ({ cls := "OneStepMore$House", name := "hasStep", desc := "(I)Z" } : Jvm.MethodName)) ∈ WS := WS_t4 221 rfl rfl
theorem wd1071 : (Jvm.Cond.methodLink "OneStepMore$Tales" (35 : Nat) ({ cls := "OneStepMore$State", name := "isPerson", desc := "(I)Z" } : Jvm.MethodName)) ∈ WS := WS_t4 222 rfl rfl
theorem wd1072 : (Jvm.Cond.methodLink "OneStepMore$Tales" (42 : Nat) ({ cls := "OneStepMore$State", name := "textOf", desc := "(I)LOneStepMore$Text;" } : Jvm.MethodName)) ∈ WS := WS_t4 223 rfl rfl
theorem wd1073 : (Jvm.Cond.methodLink "OneStepMore$Tales" (46 : Nat) ({ cls := "OneStepMore$Laws", name := "turnTo", desc := "(LOneStepMore$State;LOneStepMore$Text;III)V" } : Jvm.MethodName)) ∈ WS := WS_t4 224 rfl rfl
theorem wd1074 : (Jvm.Cond.methodLink "OneStepMore$Tales" (52 : Nat) ({ cls := "OneStepMore$Laws", name := "face", desc := "(LOneStepMore$House;I)V" } : Jvm.MethodName)) ∈ WS := WS_t4 225 rfl rfl
theorem wd1075 : (Jvm.Cond.methodLink "OneStepMore$Tales" (56 : Nat) ({ cls := "OneStepMore$Laws", name := "noneNow", desc := "()I" } : Jvm.MethodName)) ∈ WS := WS_t4 226 rfl rfl
theorem wd1076 : (Jvm.Cond.methodLink "OneStepMore$Tales" (60 : Nat) ({ cls := "OneStepMore$Laws", name := "twiceNow", desc := "(I)I" } : Jvm.MethodName)) ∈ WS := WS_t4 227 rfl rfl
theorem wd1077 : (Jvm.Cond.methodLink "OneStepMore$Tales" (64 : Nat) ({ cls := "OneStepMore$Laws", name := "tripsNow", desc := "()Z" } : Jvm.MethodName)) ∈ WS := WS_t4 228 rfl rfl
theorem wd1078 : (Jvm.Cond.methodLink "OneStepMore$Tales" (68 : Nat) ({ cls := "OneStepMore$Laws", name := "jarNow", desc := "()I" } : Jvm.MethodName)) ∈ WS := WS_t4 229 rfl rfl
theorem wd1079 : (Jvm.Cond.methodLink "OneStepMore$Tales" (71 : Nat) ({ cls := "OneStepMore$Laws", name := "fallNow", desc := "()I" } : Jvm.MethodName)) ∈ WS := WS_t4 230 rfl rfl
theorem wd1080 : (Jvm.Cond.methodLink "OneStepMoreLaw" (110 : Nat) ({ cls := "OneStepMore", name := "book", desc := "(II)I" } : Jvm.MethodName)) ∈ WS := WS_t4 231 rfl rfl
theorem wd1081 : (Jvm.Cond.instanceMethod ({ cls := "OneStepMore", name := "book", desc := "(II)I" } : Jvm.MethodName)) ∈ WS := WS_t4 232 rfl rfl
theorem wd1082 : (Jvm.Cond.selects "OneStepMore" ({ cls := "OneStepMore", name := "book", desc := "(II)I" } : Jvm.MethodName) ({ cls := "OneStepMore", name := "book", desc := "(II)I" } : Jvm.MethodName)) ∈ WS := WS_t4 233 rfl rfl
theorem wd1083 : (Jvm.Cond.code ({ cls := "OneStepMore", name := "book", desc := "(II)I" } : Jvm.MethodName) prog_1_method_24_code (3 : Nat) (Option.some Jvm.ClassFile.FieldType.int)) ∈ WS := WS_t4 234 rfl rfl
theorem wd1084 : (Jvm.Cond.methodLink "OneStepMore" (197 : Nat) ({ cls := "OneStepMore$State", name := "lines", desc := "()I" } : Jvm.MethodName)) ∈ WS := WS_t4 235 rfl rfl
theorem wd1085 : (Jvm.Cond.methodLink "OneStepMore" (200 : Nat) ({ cls := "OneStepMore$State", name := "lineOf", desc := "(II)I" } : Jvm.MethodName)) ∈ WS := WS_t4 236 rfl rfl
theorem wd1086 : (Jvm.Cond.methodLink "OneStepMoreLaw" (114 : Nat) ({ cls := "OneStepMore", name := "where", desc := "(IIIIIZ)J" } : Jvm.MethodName)) ∈ WS := WS_t4 237 rfl rfl
theorem wd1087 : (Jvm.Cond.instanceMethod ({ cls := "OneStepMore", name := "where", desc := "(IIIIIZ)J" } : Jvm.MethodName)) ∈ WS := WS_t4 238 rfl rfl
theorem wd1088 : (Jvm.Cond.selects "OneStepMore" ({ cls := "OneStepMore", name := "where", desc := "(IIIIIZ)J" } : Jvm.MethodName) ({ cls := "OneStepMore", name := "where", desc := "(IIIIIZ)J" } : Jvm.MethodName)) ∈ WS := WS_t4 239 rfl rfl
theorem wd1089 : (Jvm.Cond.code ({ cls := "OneStepMore", name := "where", desc := "(IIIIIZ)J" } : Jvm.MethodName) prog_1_method_25_code (7 : Nat) (Option.some Jvm.ClassFile.FieldType.long)) ∈ WS := WS_t5 0 rfl rfl
theorem wd1090 : (Jvm.Cond.methodLink "OneStepMore" (203 : Nat) ({ cls := "OneStepMore$Mind", name := "look", desc := "(III)Z" } : Jvm.MethodName)) ∈ WS := WS_t5 1 rfl rfl
theorem wd1091 : (Jvm.Cond.instanceMethod ({ cls := "OneStepMore$Mind", name := "look", desc := "(III)Z" } : Jvm.MethodName)) ∈ WS := WS_t5 2 rfl rfl
theorem wd1092 : (Jvm.Cond.selects "OneStepMore$Mind" ({ cls := "OneStepMore$Mind", name := "look", desc := "(III)Z" } : Jvm.MethodName) ({ cls := "OneStepMore$Mind", name := "look", desc := "(III)Z" } : Jvm.MethodName)) ∈ WS := WS_t5 3 rfl rfl
theorem wd1093 : (Jvm.Cond.code ({ cls := "OneStepMore$Mind", name := "look", desc := "(III)Z" } : Jvm.MethodName) prog_5_method_2_code (8 : Nat) (Option.some Jvm.ClassFile.FieldType.boolean)) ∈ WS := WS_t5 4 rfl rfl
theorem wd1094 : (Jvm.Cond.methodLink "OneStepMore$Mind" (36 : Nat) ({ cls := "OneStepMore$State", name := "houseOf", desc := "(I)LOneStepMore$House;" } : Jvm.MethodName)) ∈ WS := WS_t5 5 rfl rfl
theorem wd1095 : (Jvm.Cond.methodLink "OneStepMore$Mind" (42 : Nat) ({ cls := "OneStepMore$State", name := "isPerson", desc := "(I)Z" } : Jvm.MethodName)) ∈ WS := WS_t5 6 rfl rfl
theorem wd1097 : (Jvm.Cond.methodLink "OneStepMore$Mind" (73 : Nat) ({ cls := "OneStepMore$State", name := "textOf", desc := "(I)LOneStepMore$Text;" } : Jvm.MethodName)) ∈ WS := WS_t5 8 rfl rfl
theorem wd1098 : (Jvm.Cond.methodLink "OneStepMore$Mind" (77 : Nat) ({ cls := "OneStepMore$Laws", name := "turnTo", desc := "(LOneStepMore$State;LOneStepMore$Text;III)V" } : Jvm.MethodName)) ∈ WS := WS_t5 9 rfl rfl
theorem wd1099 : (Jvm.Cond.methodLink "OneStepMore$Mind" (83 : Nat) ({ cls := "OneStepMore$Laws", name := "fallNow", desc := "()I" } : Jvm.MethodName)) ∈ WS := WS_t5 10 rfl rfl
theorem wd1100 : (Jvm.Cond.methodLink "OneStepMore$Mind" (87 : Nat) ({ cls := "OneStepMore$Laws", name := "face", desc := "(LOneStepMore$House;I)V" } : Jvm.MethodName)) ∈ WS := WS_t5 11 rfl rfl
theorem wd1101 : (Jvm.Cond.methodLink "OneStepMore$Mind" (91 : Nat) ({ cls := "OneStepMore$Laws", name := "noneNow", desc := "()I" } : Jvm.MethodName)) ∈ WS := WS_t5 12 rfl rfl
theorem wd1103 : (Jvm.Cond.methodLink "OneStepMore$Mind" (98 : Nat) ({ cls := "OneStepMore$Laws", name := "twiceNow", desc := "(I)I" } : Jvm.MethodName)) ∈ WS := WS_t5 14 rfl rfl
theorem wd1104 : (Jvm.Cond.methodLink "OneStepMore$Mind" (102 : Nat) ({ cls := "OneStepMore$Laws", name := "tripsNow", desc := "()Z" } : Jvm.MethodName)) ∈ WS := WS_t5 15 rfl rfl
theorem wd1105 : (Jvm.Cond.methodLink "OneStepMore$Mind" (106 : Nat) ({ cls := "OneStepMore$Laws", name := "jarNow", desc := "()I" } : Jvm.MethodName)) ∈ WS := WS_t5 16 rfl rfl
theorem wd1106 : (Jvm.Cond.methodLink "OneStepMore" (206 : Nat) ({ cls := "OneStepMore$Mind", name := "oddsAt", desc := "(IIZ)J" } : Jvm.MethodName)) ∈ WS := WS_t5 17 rfl rfl
theorem wd1107 : (Jvm.Cond.instanceMethod ({ cls := "OneStepMore$Mind", name := "oddsAt", desc := "(IIZ)J" } : Jvm.MethodName)) ∈ WS := WS_t5 18 rfl rfl
theorem wd1108 : (Jvm.Cond.selects "OneStepMore$Mind" ({ cls := "OneStepMore$Mind", name := "oddsAt", desc := "(IIZ)J" } : Jvm.MethodName) ({ cls := "OneStepMore$Mind", name := "oddsAt", desc := "(IIZ)J" } : Jvm.MethodName)) ∈ WS := WS_t5 19 rfl rfl
theorem wd1109 : (Jvm.Cond.code ({ cls := "OneStepMore$Mind", name := "oddsAt", desc := "(IIZ)J" } : Jvm.MethodName) prog_5_method_11_code (7 : Nat) (Option.some Jvm.ClassFile.FieldType.long)) ∈ WS := WS_t5 20 rfl rfl
theorem wd1110 : (Jvm.Cond.constantLong "OneStepMore$Mind" (143 : Nat) (-1 : Int64)) ∈ WS := WS_t5 21 rfl rfl
theorem wd1111 : (Jvm.Cond.methodLink "OneStepMore$Mind" (145 : Nat) ({ cls := "OneStepMore$Mind", name := "spread", desc := "()V" } : Jvm.MethodName)) ∈ WS := WS_t5 22 rfl rfl
theorem wd1112 : (Jvm.Cond.instanceMethod ({ cls := "OneStepMore$Mind", name := "spread", desc := "()V" } : Jvm.MethodName)) ∈ WS := WS_t5 23 rfl rfl
theorem wd1113 : (Jvm.Cond.selects "OneStepMore$Mind" ({ cls := "OneStepMore$Mind", name := "spread", desc := "()V" } : Jvm.MethodName) ({ cls := "OneStepMore$Mind", name := "spread", desc := "()V" } : Jvm.MethodName)) ∈ WS := WS_t5 24 rfl rfl
theorem wd1114 : (Jvm.Cond.code ({ cls := "OneStepMore$Mind", name := "spread", desc := "()V" } : Jvm.MethodName) prog_5_method_3_code (1 : Nat) (Option.none : Option Jvm.ClassFile.FieldType)) ∈ WS := WS_t5 25 rfl rfl
theorem wd1115 : (Jvm.Cond.methodLink "OneStepMore$Mind" (109 : Nat) ({ cls := "OneStepMore$Mind", name := "spreadFrom", desc := "(III)V" } : Jvm.MethodName)) ∈ WS := WS_t5 26 rfl rfl
theorem wd1117 : (Jvm.Cond.instanceMethod ({ cls := "OneStepMore$Mind", name := "spreadFrom", desc := "(III)V" } : Jvm.MethodName)) ∈ WS := WS_t5 28 rfl rfl
theorem wd1118 : (Jvm.Cond.code ({ cls := "OneStepMore$Mind", name := "spreadFrom", desc := "(III)V" } : Jvm.MethodName) prog_5_method_4_code (5 : Nat) (Option.none : Option Jvm.ClassFile.FieldType)) ∈ WS := WS_t5 29 rfl rfl
theorem wd1119 : (Jvm.Cond.methodLink "OneStepMore$Mind" (113 : Nat) ({ cls := "java/util/Arrays", name := "fill", desc := "([JJ)V" } : Jvm.MethodName)) ∈ WS := WS_t5 30 rfl rfl
theorem wd1120 : (Jvm.Cond.static ({ cls := "java/util/Arrays", name := "fill", desc := "([JJ)V" } : Jvm.MethodName)) ∈ WS := WS_t5 31 rfl rfl
theorem wd1121 : (Jvm.Cond.code ({ cls := "java/util/Arrays", name := "fill", desc := "([JJ)V" } : Jvm.MethodName) prog_20_method_101_code (5 : Nat) (Option.none : Option Jvm.ClassFile.FieldType)) ∈ WS := WS_t5 32 rfl rfl
theorem wd1122 : (Jvm.Cond.methodLink "OneStepMore$Mind" (119 : Nat) ({ cls := "OneStepMore$Mind", name := "add", desc := "(IIJ)V" } : Jvm.MethodName)) ∈ WS := WS_t5 33 rfl rfl
theorem wd1124 : (Jvm.Cond.instanceMethod ({ cls := "OneStepMore$Mind", name := "add", desc := "(IIJ)V" } : Jvm.MethodName)) ∈ WS := WS_t5 35 rfl rfl
theorem wd1125 : (Jvm.Cond.code ({ cls := "OneStepMore$Mind", name := "add", desc := "(IIJ)V" } : Jvm.MethodName) prog_5_method_8_code (6 : Nat) (Option.none : Option Jvm.ClassFile.FieldType)) ∈ WS := WS_t5 36 rfl rfl
theorem wd1126 : (Jvm.Cond.methodLink "OneStepMore$Mind" (123 : Nat) ({ cls := "OneStepMore$Mind", name := "gather", desc := "(I)V" } : Jvm.MethodName)) ∈ WS := WS_t5 37 rfl rfl
theorem wd1128 : (Jvm.Cond.instanceMethod ({ cls := "OneStepMore$Mind", name := "gather", desc := "(I)V" } : Jvm.MethodName)) ∈ WS := WS_t5 39 rfl rfl
theorem wd1129 : (Jvm.Cond.code ({ cls := "OneStepMore$Mind", name := "gather", desc := "(I)V" } : Jvm.MethodName) prog_5_method_5_code (5 : Nat) (Option.none : Option Jvm.ClassFile.FieldType)) ∈ WS := WS_t5 40 rfl rfl
theorem wd1130 : (Jvm.Cond.methodLink "OneStepMore$Mind" (130 : Nat) ({ cls := "OneStepMore$Mind", name := "chance", desc := "(II)J" } : Jvm.MethodName)) ∈ WS := WS_t5 41 rfl rfl
theorem wd1132 : (Jvm.Cond.instanceMethod ({ cls := "OneStepMore$Mind", name := "chance", desc := "(II)J" } : Jvm.MethodName)) ∈ WS := WS_t5 43 rfl rfl
theorem wd1133 : (Jvm.Cond.code ({ cls := "OneStepMore$Mind", name := "chance", desc := "(II)J" } : Jvm.MethodName) prog_5_method_7_code (4 : Nat) (Option.some Jvm.ClassFile.FieldType.long)) ∈ WS := WS_t5 44 rfl rfl
theorem wd1134 : (Jvm.Cond.constantLong "OneStepMore$Mind" (134 : Nat) (10 : Int64)) ∈ WS := WS_t5 45 rfl rfl
theorem wd1135 : (Jvm.Cond.methodLink "OneStepMore$Mind" (127 : Nat) ({ cls := "OneStepMore$Mind", name := "carry", desc := "(I)V" } : Jvm.MethodName)) ∈ WS := WS_t5 46 rfl rfl
theorem wd1137 : (Jvm.Cond.instanceMethod ({ cls := "OneStepMore$Mind", name := "carry", desc := "(I)V" } : Jvm.MethodName)) ∈ WS := WS_t5 48 rfl rfl
theorem wd1138 : (Jvm.Cond.code ({ cls := "OneStepMore$Mind", name := "carry", desc := "(I)V" } : Jvm.MethodName) prog_5_method_6_code (7 : Nat) (Option.none : Option Jvm.ClassFile.FieldType)) ∈ WS := WS_t5 49 rfl rfl
theorem wd1139 : (Jvm.Cond.methodLink "OneStepMore$Mind" (148 : Nat) ({ cls := "OneStepMore$Mind", name := "evenChance", desc := "(II)J" } : Jvm.MethodName)) ∈ WS := WS_t5 50 rfl rfl
theorem wd1141 : (Jvm.Cond.instanceMethod ({ cls := "OneStepMore$Mind", name := "evenChance", desc := "(II)J" } : Jvm.MethodName)) ∈ WS := WS_t5 52 rfl rfl
theorem wd1142 : (Jvm.Cond.code ({ cls := "OneStepMore$Mind", name := "evenChance", desc := "(II)J" } : Jvm.MethodName) prog_5_method_9_code (3 : Nat) (Option.some Jvm.ClassFile.FieldType.long)) ∈ WS := WS_t5 53 rfl rfl
theorem wd1143 : (Jvm.Cond.methodLink "OneStepMore$Mind" (136 : Nat) ({ cls := "OneStepMore$Mind", name := "power", desc := "(I)J" } : Jvm.MethodName)) ∈ WS := WS_t5 54 rfl rfl
theorem wd1144 : (Jvm.Cond.static ({ cls := "OneStepMore$Mind", name := "power", desc := "(I)J" } : Jvm.MethodName)) ∈ WS := WS_t5 55 rfl rfl
theorem wd1145 : (Jvm.Cond.code ({ cls := "OneStepMore$Mind", name := "power", desc := "(I)J" } : Jvm.MethodName) prog_5_method_10_code (1 : Nat) (Option.some Jvm.ClassFile.FieldType.long)) ∈ WS := WS_t5 56 rfl rfl
theorem wd1149 : (Jvm.Cond.static ({ cls := "OneStepMore", name := "part", desc := "(JJZ)J" } : Jvm.MethodName)) ∈ WS := WS_t5 60 rfl rfl
theorem wd1150 : (Jvm.Cond.code ({ cls := "OneStepMore", name := "part", desc := "(JJZ)J" } : Jvm.MethodName) prog_1_method_46_code (12 : Nat) (Option.some Jvm.ClassFile.FieldType.long)) ∈ WS := WS_t5 61 rfl rfl
theorem wd1151 : (Jvm.Cond.constantLong "OneStepMore" (210 : Nat) (-1 : Int64)) ∈ WS := WS_t5 62 rfl rfl
theorem wd1152 : (Jvm.Cond.methodLink "OneStepMoreLaw" (119 : Nat) ({ cls := "OneStepMore", name := "cost", desc := "(IIIIZ)J" } : Jvm.MethodName)) ∈ WS := WS_t5 63 rfl rfl
theorem wd1153 : (Jvm.Cond.instanceMethod ({ cls := "OneStepMore", name := "cost", desc := "(IIIIZ)J" } : Jvm.MethodName)) ∈ WS := WS_t5 64 rfl rfl
theorem wd1154 : (Jvm.Cond.selects "OneStepMore" ({ cls := "OneStepMore", name := "cost", desc := "(IIIIZ)J" } : Jvm.MethodName) ({ cls := "OneStepMore", name := "cost", desc := "(IIIIZ)J" } : Jvm.MethodName)) ∈ WS := WS_t5 65 rfl rfl
theorem wd1155 : (Jvm.Cond.code ({ cls := "OneStepMore", name := "cost", desc := "(IIIIZ)J" } : Jvm.MethodName) prog_1_method_26_code (6 : Nat) (Option.some Jvm.ClassFile.FieldType.long)) ∈ WS := WS_t5 66 rfl rfl
theorem wd1156 : (Jvm.Cond.methodLink "OneStepMore" (212 : Nat) ({ cls := "OneStepMore$Mind", name := "spread", desc := "()V" } : Jvm.MethodName)) ∈ WS := WS_t5 67 rfl rfl
theorem wd1157 : (Jvm.Cond.methodLink "OneStepMore" (215 : Nat) ({ cls := "OneStepMore$Mind", name := "costFrom", desc := "(IZ)J" } : Jvm.MethodName)) ∈ WS := WS_t5 68 rfl rfl
theorem wd1158 : (Jvm.Cond.instanceMethod ({ cls := "OneStepMore$Mind", name := "costFrom", desc := "(IZ)J" } : Jvm.MethodName)) ∈ WS := WS_t5 69 rfl rfl
theorem wd1159 : (Jvm.Cond.selects "OneStepMore$Mind" ({ cls := "OneStepMore$Mind", name := "costFrom", desc := "(IZ)J" } : Jvm.MethodName) ({ cls := "OneStepMore$Mind", name := "costFrom", desc := "(IZ)J" } : Jvm.MethodName)) ∈ WS := WS_t5 70 rfl rfl
theorem wd1160 : (Jvm.Cond.code ({ cls := "OneStepMore$Mind", name := "costFrom", desc := "(IZ)J" } : Jvm.MethodName) prog_5_method_14_code (6 : Nat) (Option.some Jvm.ClassFile.FieldType.long)) ∈ WS := WS_t5 71 rfl rfl
theorem wd1161 : (Jvm.Cond.methodLink "OneStepMore$Mind" (155 : Nat) ({ cls := "OneStepMore$Mind", name := "costOfToes", desc := "()J" } : Jvm.MethodName)) ∈ WS := WS_t5 72 rfl rfl
theorem wd1163 : (Jvm.Cond.instanceMethod ({ cls := "OneStepMore$Mind", name := "costOfToes", desc := "()J" } : Jvm.MethodName)) ∈ WS := WS_t5 74 rfl rfl
theorem wd1164 : (Jvm.Cond.code ({ cls := "OneStepMore$Mind", name := "costOfToes", desc := "()J" } : Jvm.MethodName) prog_5_method_12_code (1 : Nat) (Option.some Jvm.ClassFile.FieldType.long)) ∈ WS := WS_t5 75 rfl rfl
theorem wd1165 : (Jvm.Cond.methodLink "OneStepMore$Mind" (159 : Nat) ({ cls := "OneStepMore$Mind", name := "boldlyMore", desc := "(I)J" } : Jvm.MethodName)) ∈ WS := WS_t5 76 rfl rfl
theorem wd1167 : (Jvm.Cond.instanceMethod ({ cls := "OneStepMore$Mind", name := "boldlyMore", desc := "(I)J" } : Jvm.MethodName)) ∈ WS := WS_t5 78 rfl rfl
theorem wd1168 : (Jvm.Cond.code ({ cls := "OneStepMore$Mind", name := "boldlyMore", desc := "(I)J" } : Jvm.MethodName) prog_5_method_13_code (5 : Nat) (Option.some Jvm.ClassFile.FieldType.long)) ∈ WS := WS_t5 79 rfl rfl
theorem wd1169 : (Jvm.Cond.methodLink "OneStepMoreLaw" (124 : Nat) ({ cls := "OneStepMore", name := "from", desc := "(III)I" } : Jvm.MethodName)) ∈ WS := WS_t5 80 rfl rfl
theorem wd1170 : (Jvm.Cond.instanceMethod ({ cls := "OneStepMore", name := "from", desc := "(III)I" } : Jvm.MethodName)) ∈ WS := WS_t5 81 rfl rfl
theorem wd1171 : (Jvm.Cond.selects "OneStepMore" ({ cls := "OneStepMore", name := "from", desc := "(III)I" } : Jvm.MethodName) ({ cls := "OneStepMore", name := "from", desc := "(III)I" } : Jvm.MethodName)) ∈ WS := WS_t5 82 rfl rfl
theorem wd1172 : (Jvm.Cond.code ({ cls := "OneStepMore", name := "from", desc := "(III)I" } : Jvm.MethodName) prog_1_method_27_code (4 : Nat) (Option.some Jvm.ClassFile.FieldType.int)) ∈ WS := WS_t5 83 rfl rfl
theorem wd1173 : (Jvm.Cond.methodLink "OneStepMore" (219 : Nat) ({ cls := "OneStepMore$Mind", name := "chooseFrom", desc := "()V" } : Jvm.MethodName)) ∈ WS := WS_t5 84 rfl rfl
theorem wd1174 : (Jvm.Cond.instanceMethod ({ cls := "OneStepMore$Mind", name := "chooseFrom", desc := "()V" } : Jvm.MethodName)) ∈ WS := WS_t5 85 rfl rfl
theorem wd1175 : (Jvm.Cond.selects "OneStepMore$Mind" ({ cls := "OneStepMore$Mind", name := "chooseFrom", desc := "()V" } : Jvm.MethodName) ({ cls := "OneStepMore$Mind", name := "chooseFrom", desc := "()V" } : Jvm.MethodName)) ∈ WS := WS_t5 86 rfl rfl
theorem wd1176 : (Jvm.Cond.code ({ cls := "OneStepMore$Mind", name := "chooseFrom", desc := "()V" } : Jvm.MethodName) prog_5_method_15_code (4 : Nat) (Option.none : Option Jvm.ClassFile.FieldType)) ∈ WS := WS_t5 87 rfl rfl
theorem wd1177 : (Jvm.Cond.methodLink "OneStepMoreLaw" (128 : Nat) ({ cls := "OneStepMore", name := "worth", desc := "(III)I" } : Jvm.MethodName)) ∈ WS := WS_t5 88 rfl rfl
theorem wd1178 : (Jvm.Cond.instanceMethod ({ cls := "OneStepMore", name := "worth", desc := "(III)I" } : Jvm.MethodName)) ∈ WS := WS_t5 89 rfl rfl
theorem wd1179 : (Jvm.Cond.selects "OneStepMore" ({ cls := "OneStepMore", name := "worth", desc := "(III)I" } : Jvm.MethodName) ({ cls := "OneStepMore", name := "worth", desc := "(III)I" } : Jvm.MethodName)) ∈ WS := WS_t5 90 rfl rfl
theorem wd1180 : (Jvm.Cond.code ({ cls := "OneStepMore", name := "worth", desc := "(III)I" } : Jvm.MethodName) prog_1_method_28_code (4 : Nat) (Option.some Jvm.ClassFile.FieldType.int)) ∈ WS := WS_t5 91 rfl rfl
theorem wd1181 : (Jvm.Cond.methodLink "OneStepMore" (225 : Nat) ({ cls := "OneStepMore$Mind", name := "bestMark", desc := "()I" } : Jvm.MethodName)) ∈ WS := WS_t5 92 rfl rfl
theorem wd1182 : (Jvm.Cond.instanceMethod ({ cls := "OneStepMore$Mind", name := "bestMark", desc := "()I" } : Jvm.MethodName)) ∈ WS := WS_t5 93 rfl rfl
theorem wd1183 : (Jvm.Cond.selects "OneStepMore$Mind" ({ cls := "OneStepMore$Mind", name := "bestMark", desc := "()I" } : Jvm.MethodName) ({ cls := "OneStepMore$Mind", name := "bestMark", desc := "()I" } : Jvm.MethodName)) ∈ WS := WS_t5 94 rfl rfl
theorem wd1184 : (Jvm.Cond.code ({ cls := "OneStepMore$Mind", name := "bestMark", desc := "()I" } : Jvm.MethodName) prog_5_method_16_code (5 : Nat) (Option.some Jvm.ClassFile.FieldType.int)) ∈ WS := WS_t5 95 rfl rfl
theorem wd1185 : (Jvm.Cond.methodLink "OneStepMore$Mind" (169 : Nat) ({ cls := "OneStepMore$Mind", name := "chooseFrom", desc := "()V" } : Jvm.MethodName)) ∈ WS := WS_t5 96 rfl rfl
theorem wd1186 : (Jvm.Cond.methodLink "OneStepMoreLaw" (132 : Nat) ({ cls := "OneStepMore", name := "goes", desc := "(II)I" } : Jvm.MethodName)) ∈ WS := WS_t5 97 rfl rfl
theorem wd1187 : (Jvm.Cond.instanceMethod ({ cls := "OneStepMore", name := "goes", desc := "(II)I" } : Jvm.MethodName)) ∈ WS := WS_t5 98 rfl rfl
theorem wd1188 : (Jvm.Cond.selects "OneStepMore" ({ cls := "OneStepMore", name := "goes", desc := "(II)I" } : Jvm.MethodName) ({ cls := "OneStepMore", name := "goes", desc := "(II)I" } : Jvm.MethodName)) ∈ WS := WS_t5 99 rfl rfl
theorem wd1189 : (Jvm.Cond.code ({ cls := "OneStepMore", name := "goes", desc := "(II)I" } : Jvm.MethodName) prog_1_method_29_code (3 : Nat) (Option.some Jvm.ClassFile.FieldType.int)) ∈ WS := WS_t5 100 rfl rfl
theorem wd1190 : (Jvm.Cond.methodLink "OneStepMore" (228 : Nat) ({ cls := "OneStepMore$Mind", name := "goesWithLoad", desc := "(II)I" } : Jvm.MethodName)) ∈ WS := WS_t5 101 rfl rfl
theorem wd1191 : (Jvm.Cond.instanceMethod ({ cls := "OneStepMore$Mind", name := "goesWithLoad", desc := "(II)I" } : Jvm.MethodName)) ∈ WS := WS_t5 102 rfl rfl
theorem wd1192 : (Jvm.Cond.selects "OneStepMore$Mind" ({ cls := "OneStepMore$Mind", name := "goesWithLoad", desc := "(II)I" } : Jvm.MethodName) ({ cls := "OneStepMore$Mind", name := "goesWithLoad", desc := "(II)I" } : Jvm.MethodName)) ∈ WS := WS_t5 103 rfl rfl
theorem wd1193 : (Jvm.Cond.code ({ cls := "OneStepMore$Mind", name := "goesWithLoad", desc := "(II)I" } : Jvm.MethodName) prog_5_method_17_code (5 : Nat) (Option.some Jvm.ClassFile.FieldType.int)) ∈ WS := WS_t5 104 rfl rfl
theorem wd1194 : (Jvm.Cond.methodLink "OneStepMore$Mind" (172 : Nat) ({ cls := "OneStepMore$Mind", name := "look", desc := "(III)Z" } : Jvm.MethodName)) ∈ WS := WS_t5 105 rfl rfl
theorem wd1195 : (Jvm.Cond.constantLong "OneStepMore$Mind" (176 : Nat) (2 : Int64)) ∈ WS := WS_t5 106 rfl rfl
theorem wd1196 : (Jvm.Cond.methodLink "OneStepMoreLaw" (136 : Nat) ({ cls := "OneStepMore", name := "lamp", desc := "(IIII)I" } : Jvm.MethodName)) ∈ WS := WS_t5 107 rfl rfl
theorem wd1197 : (Jvm.Cond.instanceMethod ({ cls := "OneStepMore", name := "lamp", desc := "(IIII)I" } : Jvm.MethodName)) ∈ WS := WS_t5 108 rfl rfl
theorem wd1198 : (Jvm.Cond.selects "OneStepMore" ({ cls := "OneStepMore", name := "lamp", desc := "(IIII)I" } : Jvm.MethodName) ({ cls := "OneStepMore", name := "lamp", desc := "(IIII)I" } : Jvm.MethodName)) ∈ WS := WS_t5 109 rfl rfl
theorem wd1199 : (Jvm.Cond.code ({ cls := "OneStepMore", name := "lamp", desc := "(IIII)I" } : Jvm.MethodName) prog_1_method_30_code (5 : Nat) (Option.some Jvm.ClassFile.FieldType.int)) ∈ WS := WS_t5 110 rfl rfl
theorem wd1200 : (Jvm.Cond.methodLink "OneStepMore" (231 : Nat) ({ cls := "OneStepMore$Mind", name := "lampNights", desc := "(II)I" } : Jvm.MethodName)) ∈ WS := WS_t5 111 rfl rfl
theorem wd1201 : (Jvm.Cond.instanceMethod ({ cls := "OneStepMore$Mind", name := "lampNights", desc := "(II)I" } : Jvm.MethodName)) ∈ WS := WS_t5 112 rfl rfl
theorem wd1202 : (Jvm.Cond.selects "OneStepMore$Mind" ({ cls := "OneStepMore$Mind", name := "lampNights", desc := "(II)I" } : Jvm.MethodName) ({ cls := "OneStepMore$Mind", name := "lampNights", desc := "(II)I" } : Jvm.MethodName)) ∈ WS := WS_t5 113 rfl rfl
theorem wd1203 : (Jvm.Cond.code ({ cls := "OneStepMore$Mind", name := "lampNights", desc := "(II)I" } : Jvm.MethodName) prog_5_method_18_code (7 : Nat) (Option.some Jvm.ClassFile.FieldType.int)) ∈ WS := WS_t5 114 rfl rfl
theorem wd1204 : (Jvm.Cond.methodLink "OneStepMore$Mind" (178 : Nat) ({ cls := "OneStepMore$Mind", name := "ceiling", desc := "(JJ)J" } : Jvm.MethodName)) ∈ WS := WS_t5 115 rfl rfl
theorem wd1205 : (Jvm.Cond.static ({ cls := "OneStepMore$Mind", name := "ceiling", desc := "(JJ)J" } : Jvm.MethodName)) ∈ WS := WS_t5 116 rfl rfl
theorem wd1206 : (Jvm.Cond.code ({ cls := "OneStepMore$Mind", name := "ceiling", desc := "(JJ)J" } : Jvm.MethodName) prog_5_method_19_code (4 : Nat) (Option.some Jvm.ClassFile.FieldType.long)) ∈ WS := WS_t5 117 rfl rfl
theorem wd1207 : (Jvm.Cond.constantLong "OneStepMore$Mind" (182 : Nat) (9999 : Int64)) ∈ WS := WS_t5 118 rfl rfl
theorem wd1208 : (Jvm.Cond.methodLink "OneStepMoreLaw" (141 : Nat) ({ cls := "OneStepMore", name := "which", desc := "(IIIZ)J" } : Jvm.MethodName)) ∈ WS := WS_t5 119 rfl rfl
theorem wd1209 : (Jvm.Cond.instanceMethod ({ cls := "OneStepMore", name := "which", desc := "(IIIZ)J" } : Jvm.MethodName)) ∈ WS := WS_t5 120 rfl rfl
theorem wd1210 : (Jvm.Cond.selects "OneStepMore" ({ cls := "OneStepMore", name := "which", desc := "(IIIZ)J" } : Jvm.MethodName) ({ cls := "OneStepMore", name := "which", desc := "(IIIZ)J" } : Jvm.MethodName)) ∈ WS := WS_t5 121 rfl rfl
theorem wd1211 : (Jvm.Cond.code ({ cls := "OneStepMore", name := "which", desc := "(IIIZ)J" } : Jvm.MethodName) prog_1_method_31_code (5 : Nat) (Option.some Jvm.ClassFile.FieldType.long)) ∈ WS := WS_t5 122 rfl rfl
theorem wd1212 : (Jvm.Cond.methodLink "OneStepMore" (234 : Nat) ({ cls := "OneStepMore$Mind", name := "oddsOfHouse", desc := "(IIIZ)J" } : Jvm.MethodName)) ∈ WS := WS_t5 123 rfl rfl
theorem wd1213 : (Jvm.Cond.instanceMethod ({ cls := "OneStepMore$Mind", name := "oddsOfHouse", desc := "(IIIZ)J" } : Jvm.MethodName)) ∈ WS := WS_t5 124 rfl rfl
theorem wd1214 : (Jvm.Cond.selects "OneStepMore$Mind" ({ cls := "OneStepMore$Mind", name := "oddsOfHouse", desc := "(IIIZ)J" } : Jvm.MethodName) ({ cls := "OneStepMore$Mind", name := "oddsOfHouse", desc := "(IIIZ)J" } : Jvm.MethodName)) ∈ WS := WS_t5 125 rfl rfl
theorem wd1215 : (Jvm.Cond.code ({ cls := "OneStepMore$Mind", name := "oddsOfHouse", desc := "(IIIZ)J" } : Jvm.MethodName) prog_5_method_21_code (12 : Nat) (Option.some Jvm.ClassFile.FieldType.long)) ∈ WS := WS_t5 126 rfl rfl
theorem wd1216 : (Jvm.Cond.methodLink "OneStepMore$Mind" (187 : Nat) ({ cls := "OneStepMore$Mind", name := "chanceOfJar", desc := "(I)J" } : Jvm.MethodName)) ∈ WS := WS_t5 127 rfl rfl
theorem wd1218 : (Jvm.Cond.instanceMethod ({ cls := "OneStepMore$Mind", name := "chanceOfJar", desc := "(I)J" } : Jvm.MethodName)) ∈ WS := WS_t5 129 rfl rfl
theorem wd1219 : (Jvm.Cond.code ({ cls := "OneStepMore$Mind", name := "chanceOfJar", desc := "(I)J" } : Jvm.MethodName) prog_5_method_20_code (2 : Nat) (Option.some Jvm.ClassFile.FieldType.long)) ∈ WS := WS_t5 130 rfl rfl
theorem wd1220 : (Jvm.Cond.methodLink "OneStepMoreLaw" (146 : Nat) ({ cls := "OneStepMore", name := "whether", desc := "(IIIZ)J" } : Jvm.MethodName)) ∈ WS := WS_t5 131 rfl rfl
theorem wd1221 : (Jvm.Cond.instanceMethod ({ cls := "OneStepMore", name := "whether", desc := "(IIIZ)J" } : Jvm.MethodName)) ∈ WS := WS_t5 132 rfl rfl
theorem wd1222 : (Jvm.Cond.selects "OneStepMore" ({ cls := "OneStepMore", name := "whether", desc := "(IIIZ)J" } : Jvm.MethodName) ({ cls := "OneStepMore", name := "whether", desc := "(IIIZ)J" } : Jvm.MethodName)) ∈ WS := WS_t5 133 rfl rfl
theorem wd1223 : (Jvm.Cond.code ({ cls := "OneStepMore", name := "whether", desc := "(IIIZ)J" } : Jvm.MethodName) prog_1_method_32_code (5 : Nat) (Option.some Jvm.ClassFile.FieldType.long)) ∈ WS := WS_t5 134 rfl rfl
theorem wd1224 : (Jvm.Cond.methodLink "OneStepMore" (238 : Nat) ({ cls := "OneStepMore$Mind", name := "oddsOfLanding", desc := "(IZ)J" } : Jvm.MethodName)) ∈ WS := WS_t5 135 rfl rfl
theorem wd1225 : (Jvm.Cond.instanceMethod ({ cls := "OneStepMore$Mind", name := "oddsOfLanding", desc := "(IZ)J" } : Jvm.MethodName)) ∈ WS := WS_t5 136 rfl rfl
theorem wd1226 : (Jvm.Cond.selects "OneStepMore$Mind" ({ cls := "OneStepMore$Mind", name := "oddsOfLanding", desc := "(IZ)J" } : Jvm.MethodName) ({ cls := "OneStepMore$Mind", name := "oddsOfLanding", desc := "(IZ)J" } : Jvm.MethodName)) ∈ WS := WS_t5 137 rfl rfl
theorem wd1227 : (Jvm.Cond.code ({ cls := "OneStepMore$Mind", name := "oddsOfLanding", desc := "(IZ)J" } : Jvm.MethodName) prog_5_method_22_code (5 : Nat) (Option.some Jvm.ClassFile.FieldType.long)) ∈ WS := WS_t5 138 rfl rfl
theorem wd1228 : (Jvm.Cond.methodLink "OneStepMoreLaw" (150 : Nat) ({ cls := "OneStepMore", name := "sure", desc := "(IIIZ)J" } : Jvm.MethodName)) ∈ WS := WS_t5 139 rfl rfl
theorem wd1229 : (Jvm.Cond.instanceMethod ({ cls := "OneStepMore", name := "sure", desc := "(IIIZ)J" } : Jvm.MethodName)) ∈ WS := WS_t5 140 rfl rfl
theorem wd1230 : (Jvm.Cond.selects "OneStepMore" ({ cls := "OneStepMore", name := "sure", desc := "(IIIZ)J" } : Jvm.MethodName) ({ cls := "OneStepMore", name := "sure", desc := "(IIIZ)J" } : Jvm.MethodName)) ∈ WS := WS_t5 141 rfl rfl
theorem wd1231 : (Jvm.Cond.code ({ cls := "OneStepMore", name := "sure", desc := "(IIIZ)J" } : Jvm.MethodName) prog_1_method_33_code (5 : Nat) (Option.some Jvm.ClassFile.FieldType.long)) ∈ WS := WS_t5 142 rfl rfl
theorem wd1232 : (Jvm.Cond.fieldLink "OneStepMore" (241 : Nat) "OneStepMore" "POWERS" "[J") ∈ WS := WS_t5 143 rfl rfl
theorem wd1233 : (Jvm.Cond.methodLink "OneStepMore" (245 : Nat) ({ cls := "OneStepMore$Mind", name := "oddsOfSure", desc := "(IIIZ)J" } : Jvm.MethodName)) ∈ WS := WS_t5 144 rfl rfl
theorem wd1234 : (Jvm.Cond.instanceMethod ({ cls := "OneStepMore$Mind", name := "oddsOfSure", desc := "(IIIZ)J" } : Jvm.MethodName)) ∈ WS := WS_t5 145 rfl rfl
theorem wd1235 : (Jvm.Cond.selects "OneStepMore$Mind" ({ cls := "OneStepMore$Mind", name := "oddsOfSure", desc := "(IIIZ)J" } : Jvm.MethodName) ({ cls := "OneStepMore$Mind", name := "oddsOfSure", desc := "(IIIZ)J" } : Jvm.MethodName)) ∈ WS := WS_t5 146 rfl rfl
theorem wd1236 : (Jvm.Cond.code ({ cls := "OneStepMore$Mind", name := "oddsOfSure", desc := "(IIIZ)J" } : Jvm.MethodName) prog_5_method_23_code (9 : Nat) (Option.some Jvm.ClassFile.FieldType.long)) ∈ WS := WS_t5 147 rfl rfl
theorem wd1237 : (Jvm.Cond.methodLink "OneStepMore$Mind" (190 : Nat) ({ cls := "java/lang/Math", name := "min", desc := "(II)I" } : Jvm.MethodName)) ∈ WS := WS_t5 148 rfl rfl
theorem wd1238 : (Jvm.Cond.methodLink "OneStepMoreLaw" (154 : Nat) ({ cls := "OneStepMore", name := "average", desc := "(IIZ)I" } : Jvm.MethodName)) ∈ WS := WS_t5 149 rfl rfl
theorem wd1239 : (Jvm.Cond.instanceMethod ({ cls := "OneStepMore", name := "average", desc := "(IIZ)I" } : Jvm.MethodName)) ∈ WS := WS_t5 150 rfl rfl
theorem wd1240 : (Jvm.Cond.selects "OneStepMore" ({ cls := "OneStepMore", name := "average", desc := "(IIZ)I" } : Jvm.MethodName) ({ cls := "OneStepMore", name := "average", desc := "(IIZ)I" } : Jvm.MethodName)) ∈ WS := WS_t5 151 rfl rfl
theorem wd1241 : (Jvm.Cond.code ({ cls := "OneStepMore", name := "average", desc := "(IIZ)I" } : Jvm.MethodName) prog_1_method_34_code (4 : Nat) (Option.some Jvm.ClassFile.FieldType.int)) ∈ WS := WS_t5 152 rfl rfl
theorem wd1242 : (Jvm.Cond.methodLink "OneStepMore" (248 : Nat) ({ cls := "OneStepMore", name := "part", desc := "(JJZ)J" } : Jvm.MethodName)) ∈ WS := WS_t5 153 rfl rfl
theorem wd1243 : (Jvm.Cond.methodLink "OneStepMoreLaw" (159 : Nat) ({ cls := "OneStepMore", name := "tally", desc := "(II)I" } : Jvm.MethodName)) ∈ WS := WS_t5 154 rfl rfl
theorem wd1244 : (Jvm.Cond.instanceMethod ({ cls := "OneStepMore", name := "tally", desc := "(II)I" } : Jvm.MethodName)) ∈ WS := WS_t5 155 rfl rfl
theorem wd1245 : (Jvm.Cond.selects "OneStepMore" ({ cls := "OneStepMore", name := "tally", desc := "(II)I" } : Jvm.MethodName) ({ cls := "OneStepMore", name := "tally", desc := "(II)I" } : Jvm.MethodName)) ∈ WS := WS_t5 156 rfl rfl
theorem wd1246 : (Jvm.Cond.code ({ cls := "OneStepMore", name := "tally", desc := "(II)I" } : Jvm.MethodName) prog_1_method_35_code (3 : Nat) (Option.some Jvm.ClassFile.FieldType.int)) ∈ WS := WS_t5 157 rfl rfl
theorem wd1247 : (Jvm.Cond.methodLink "OneStepMore" (252 : Nat) ({ cls := "OneStepMore$Tales", name := "tallied", desc := "(II)I" } : Jvm.MethodName)) ∈ WS := WS_t5 158 rfl rfl
theorem wd1248 : (Jvm.Cond.instanceMethod ({ cls := "OneStepMore$Tales", name := "tallied", desc := "(II)I" } : Jvm.MethodName)) ∈ WS := WS_t5 159 rfl rfl
theorem wd1249 : (Jvm.Cond.selects "OneStepMore$Tales" ({ cls := "OneStepMore$Tales", name := "tallied", desc := "(II)I" } : Jvm.MethodName) ({ cls := "OneStepMore$Tales", name := "tallied", desc := "(II)I" } : Jvm.MethodName)) ∈ WS := WS_t5 160 rfl rfl
theorem wd1250 : (Jvm.Cond.code ({ cls := "OneStepMore$Tales", name := "tallied", desc := "(II)I" } : Jvm.MethodName) prog_8_method_3_code (5 : Nat) (Option.some Jvm.ClassFile.FieldType.int)) ∈ WS := WS_t5 161 rfl rfl
theorem wd1251 : (Jvm.Cond.methodLink "OneStepMore$Tales" (74 : Nat) ({ cls := "OneStepMore$State", name := "lines", desc := "()I" } : Jvm.MethodName)) ∈ WS := WS_t5 162 rfl rfl
theorem wd1252 : (Jvm.Cond.methodLink "OneStepMore$Tales" (77 : Nat) ({ cls := "OneStepMore$State", name := "lineOf", desc := "(II)I" } : Jvm.MethodName)) ∈ WS := WS_t5 163 rfl rfl
theorem wd1253 : (Jvm.Cond.methodLink "OneStepMore$Tales" (81 : Nat) ({ cls := "OneStepMore$Tales", name := "counted", desc := "(II)I" } : Jvm.MethodName)) ∈ WS := WS_t5 164 rfl rfl
theorem wd1255 : (Jvm.Cond.instanceMethod ({ cls := "OneStepMore$Tales", name := "counted", desc := "(II)I" } : Jvm.MethodName)) ∈ WS := WS_t5 166 rfl rfl
theorem wd1256 : (Jvm.Cond.code ({ cls := "OneStepMore$Tales", name := "counted", desc := "(II)I" } : Jvm.MethodName) prog_8_method_4_code (3 : Nat) (Option.some Jvm.ClassFile.FieldType.int)) ∈ WS := WS_t5 167 rfl rfl
theorem wd1257 : (Jvm.Cond.methodLink "OneStepMoreLaw" (163 : Nat) ({ cls := "OneStepMore", name := "legs", desc := "(II)I" } : Jvm.MethodName)) ∈ WS := WS_t5 168 rfl rfl
theorem wd1258 : (Jvm.Cond.instanceMethod ({ cls := "OneStepMore", name := "legs", desc := "(II)I" } : Jvm.MethodName)) ∈ WS := WS_t5 169 rfl rfl
theorem wd1259 : (Jvm.Cond.selects "OneStepMore" ({ cls := "OneStepMore", name := "legs", desc := "(II)I" } : Jvm.MethodName) ({ cls := "OneStepMore", name := "legs", desc := "(II)I" } : Jvm.MethodName)) ∈ WS := WS_t5 170 rfl rfl
theorem wd1260 : (Jvm.Cond.code ({ cls := "OneStepMore", name := "legs", desc := "(II)I" } : Jvm.MethodName) prog_1_method_36_code (3 : Nat) (Option.some Jvm.ClassFile.FieldType.int)) ∈ WS := WS_t5 171 rfl rfl
theorem wd1261 : (Jvm.Cond.methodLink "OneStepMore" (255 : Nat) ({ cls := "OneStepMore$Tales", name := "legsOf", desc := "(II)I" } : Jvm.MethodName)) ∈ WS := WS_t5 172 rfl rfl
theorem wd1262 : (Jvm.Cond.instanceMethod ({ cls := "OneStepMore$Tales", name := "legsOf", desc := "(II)I" } : Jvm.MethodName)) ∈ WS := WS_t5 173 rfl rfl
theorem wd1263 : (Jvm.Cond.selects "OneStepMore$Tales" ({ cls := "OneStepMore$Tales", name := "legsOf", desc := "(II)I" } : Jvm.MethodName) ({ cls := "OneStepMore$Tales", name := "legsOf", desc := "(II)I" } : Jvm.MethodName)) ∈ WS := WS_t5 174 rfl rfl
theorem wd1264 : (Jvm.Cond.code ({ cls := "OneStepMore$Tales", name := "legsOf", desc := "(II)I" } : Jvm.MethodName) prog_8_method_5_code (5 : Nat) (Option.some Jvm.ClassFile.FieldType.int)) ∈ WS := WS_t5 175 rfl rfl
theorem wd1265 : (Jvm.Cond.methodLink "OneStepMore$Tales" (84 : Nat) ({ cls := "OneStepMore$Tales", name := "mostOften", desc := "(I)I" } : Jvm.MethodName)) ∈ WS := WS_t5 176 rfl rfl
theorem wd1267 : (Jvm.Cond.instanceMethod ({ cls := "OneStepMore$Tales", name := "mostOften", desc := "(I)I" } : Jvm.MethodName)) ∈ WS := WS_t5 178 rfl rfl
theorem wd1268 : (Jvm.Cond.code ({ cls := "OneStepMore$Tales", name := "mostOften", desc := "(I)I" } : Jvm.MethodName) prog_8_method_6_code (5 : Nat) (Option.some Jvm.ClassFile.FieldType.int)) ∈ WS := WS_t5 179 rfl rfl
theorem wd1269 : (Jvm.Cond.methodLink "OneStepMore$Tales" (90 : Nat) ({ cls := "java/util/Arrays", name := "fill", desc := "([II)V" } : Jvm.MethodName)) ∈ WS := WS_t5 180 rfl rfl
theorem wd1272 : (Jvm.Cond.methodLink "OneStepMoreLaw" (167 : Nat) ({ cls := "OneStepMore", name := "trippers", desc := "(III)I" } : Jvm.MethodName)) ∈ WS := WS_t5 183 rfl rfl
theorem wd1273 : (Jvm.Cond.instanceMethod ({ cls := "OneStepMore", name := "trippers", desc := "(III)I" } : Jvm.MethodName)) ∈ WS := WS_t5 184 rfl rfl
theorem wd1274 : (Jvm.Cond.selects "OneStepMore" ({ cls := "OneStepMore", name := "trippers", desc := "(III)I" } : Jvm.MethodName) ({ cls := "OneStepMore", name := "trippers", desc := "(III)I" } : Jvm.MethodName)) ∈ WS := WS_t5 185 rfl rfl
theorem wd1275 : (Jvm.Cond.code ({ cls := "OneStepMore", name := "trippers", desc := "(III)I" } : Jvm.MethodName) prog_1_method_37_code (4 : Nat) (Option.some Jvm.ClassFile.FieldType.int)) ∈ WS := WS_t5 186 rfl rfl
theorem wd1276 : (Jvm.Cond.methodLink "OneStepMore" (258 : Nat) ({ cls := "OneStepMore$Tales", name := "trippersAt", desc := "(III)I" } : Jvm.MethodName)) ∈ WS := WS_t5 187 rfl rfl
theorem wd1277 : (Jvm.Cond.instanceMethod ({ cls := "OneStepMore$Tales", name := "trippersAt", desc := "(III)I" } : Jvm.MethodName)) ∈ WS := WS_t5 188 rfl rfl
theorem wd1278 : (Jvm.Cond.selects "OneStepMore$Tales" ({ cls := "OneStepMore$Tales", name := "trippersAt", desc := "(III)I" } : Jvm.MethodName) ({ cls := "OneStepMore$Tales", name := "trippersAt", desc := "(III)I" } : Jvm.MethodName)) ∈ WS := WS_t5 189 rfl rfl
theorem wd1279 : (Jvm.Cond.code ({ cls := "OneStepMore$Tales", name := "trippersAt", desc := "(III)I" } : Jvm.MethodName) prog_8_method_7_code (7 : Nat) (Option.some Jvm.ClassFile.FieldType.int)) ∈ WS := WS_t5 190 rfl rfl
theorem wd1280 : (Jvm.Cond.methodLink "OneStepMoreLaw" (171 : Nat) ({ cls := "OneStepMore", name := "seen", desc := "(IIIZ)I" } : Jvm.MethodName)) ∈ WS := WS_t5 191 rfl rfl
theorem wd1281 : (Jvm.Cond.instanceMethod ({ cls := "OneStepMore", name := "seen", desc := "(IIIZ)I" } : Jvm.MethodName)) ∈ WS := WS_t5 192 rfl rfl
theorem wd1282 : (Jvm.Cond.selects "OneStepMore" ({ cls := "OneStepMore", name := "seen", desc := "(IIIZ)I" } : Jvm.MethodName) ({ cls := "OneStepMore", name := "seen", desc := "(IIIZ)I" } : Jvm.MethodName)) ∈ WS := WS_t5 193 rfl rfl
theorem wd1283 : (Jvm.Cond.code ({ cls := "OneStepMore", name := "seen", desc := "(IIIZ)I" } : Jvm.MethodName) prog_1_method_38_code (5 : Nat) (Option.some Jvm.ClassFile.FieldType.int)) ∈ WS := WS_t5 194 rfl rfl
theorem wd1284 : (Jvm.Cond.methodLink "OneStepMore" (261 : Nat) ({ cls := "OneStepMore$Tales", name := "see", desc := "(IIIZ)I" } : Jvm.MethodName)) ∈ WS := WS_t5 195 rfl rfl
theorem wd1285 : (Jvm.Cond.instanceMethod ({ cls := "OneStepMore$Tales", name := "see", desc := "(IIIZ)I" } : Jvm.MethodName)) ∈ WS := WS_t5 196 rfl rfl
theorem wd1286 : (Jvm.Cond.selects "OneStepMore$Tales" ({ cls := "OneStepMore$Tales", name := "see", desc := "(IIIZ)I" } : Jvm.MethodName) ({ cls := "OneStepMore$Tales", name := "see", desc := "(IIIZ)I" } : Jvm.MethodName)) ∈ WS := WS_t5 197 rfl rfl
theorem wd1287 : (Jvm.Cond.code ({ cls := "OneStepMore$Tales", name := "see", desc := "(IIIZ)I" } : Jvm.MethodName) prog_8_method_8_code (7 : Nat) (Option.some Jvm.ClassFile.FieldType.int)) ∈ WS := WS_t5 198 rfl rfl
theorem wd1288 : (Jvm.Cond.methodLink "OneStepMoreLaw" (176 : Nat) ({ cls := "OneStepMore", name := "laws", desc := "()I" } : Jvm.MethodName)) ∈ WS := WS_t5 199 rfl rfl
theorem wd1289 : (Jvm.Cond.instanceMethod ({ cls := "OneStepMore", name := "laws", desc := "()I" } : Jvm.MethodName)) ∈ WS := WS_t5 200 rfl rfl
theorem wd1290 : (Jvm.Cond.selects "OneStepMore" ({ cls := "OneStepMore", name := "laws", desc := "()I" } : Jvm.MethodName) ({ cls := "OneStepMore", name := "laws", desc := "()I" } : Jvm.MethodName)) ∈ WS := WS_t5 201 rfl rfl
theorem wd1291 : (Jvm.Cond.code ({ cls := "OneStepMore", name := "laws", desc := "()I" } : Jvm.MethodName) prog_1_method_39_code (1 : Nat) (Option.some Jvm.ClassFile.FieldType.int)) ∈ WS := WS_t5 202 rfl rfl
theorem wd1292 : (Jvm.Cond.methodLink "OneStepMore" (265 : Nat) ({ cls := "OneStepMore$Tales", name := "lawsOfSeen", desc := "()I" } : Jvm.MethodName)) ∈ WS := WS_t5 203 rfl rfl
theorem wd1293 : (Jvm.Cond.instanceMethod ({ cls := "OneStepMore$Tales", name := "lawsOfSeen", desc := "()I" } : Jvm.MethodName)) ∈ WS := WS_t5 204 rfl rfl
theorem wd1294 : (Jvm.Cond.selects "OneStepMore$Tales" ({ cls := "OneStepMore$Tales", name := "lawsOfSeen", desc := "()I" } : Jvm.MethodName) ({ cls := "OneStepMore$Tales", name := "lawsOfSeen", desc := "()I" } : Jvm.MethodName)) ∈ WS := WS_t5 205 rfl rfl
theorem wd1295 : (Jvm.Cond.code ({ cls := "OneStepMore$Tales", name := "lawsOfSeen", desc := "()I" } : Jvm.MethodName) prog_8_method_9_code (3 : Nat) (Option.some Jvm.ClassFile.FieldType.int)) ∈ WS := WS_t5 206 rfl rfl
theorem wd1296 : (Jvm.Cond.methodLink "OneStepMore$Tales" (116 : Nat) ({ cls := "OneStepMore$Tales", name := "allSeenBy", desc := "(LOneStepMore$Text;)Z" } : Jvm.MethodName)) ∈ WS := WS_t5 207 rfl rfl
theorem wd1298 : (Jvm.Cond.instanceMethod ({ cls := "OneStepMore$Tales", name := "allSeenBy", desc := "(LOneStepMore$Text;)Z" } : Jvm.MethodName)) ∈ WS := WS_t5 209 rfl rfl
theorem wd1299 : (Jvm.Cond.code ({ cls := "OneStepMore$Tales", name := "allSeenBy", desc := "(LOneStepMore$Text;)Z" } : Jvm.MethodName) prog_8_method_10_code (7 : Nat) (Option.some Jvm.ClassFile.FieldType.boolean)) ∈ WS := WS_t5 210 rfl rfl
theorem wd1300 : (Jvm.Cond.methodLink "OneStepMoreLaw" (180 : Nat) ({ cls := "OneStepMore", name := "alike", desc := "(IIZ)I" } : Jvm.MethodName)) ∈ WS := WS_t5 211 rfl rfl
theorem wd1301 : (Jvm.Cond.instanceMethod ({ cls := "OneStepMore", name := "alike", desc := "(IIZ)I" } : Jvm.MethodName)) ∈ WS := WS_t5 212 rfl rfl
theorem wd1302 : (Jvm.Cond.selects "OneStepMore" ({ cls := "OneStepMore", name := "alike", desc := "(IIZ)I" } : Jvm.MethodName) ({ cls := "OneStepMore", name := "alike", desc := "(IIZ)I" } : Jvm.MethodName)) ∈ WS := WS_t5 213 rfl rfl
theorem wd1303 : (Jvm.Cond.code ({ cls := "OneStepMore", name := "alike", desc := "(IIZ)I" } : Jvm.MethodName) prog_1_method_40_code (4 : Nat) (Option.some Jvm.ClassFile.FieldType.int)) ∈ WS := WS_t5 214 rfl rfl
theorem wd1304 : (Jvm.Cond.methodLink "OneStepMore" (268 : Nat) ({ cls := "OneStepMore$Leveller", name := "levelled", desc := "(IIZ)I" } : Jvm.MethodName)) ∈ WS := WS_t5 215 rfl rfl
theorem wd1305 : (Jvm.Cond.instanceMethod ({ cls := "OneStepMore$Leveller", name := "levelled", desc := "(IIZ)I" } : Jvm.MethodName)) ∈ WS := WS_t5 216 rfl rfl
theorem wd1306 : (Jvm.Cond.selects "OneStepMore$Leveller" ({ cls := "OneStepMore$Leveller", name := "levelled", desc := "(IIZ)I" } : Jvm.MethodName) ({ cls := "OneStepMore$Leveller", name := "levelled", desc := "(IIZ)I" } : Jvm.MethodName)) ∈ WS := WS_t5 217 rfl rfl
theorem wd1307 : (Jvm.Cond.code ({ cls := "OneStepMore$Leveller", name := "levelled", desc := "(IIZ)I" } : Jvm.MethodName) prog_4_method_2_code (8 : Nat) (Option.some Jvm.ClassFile.FieldType.int)) ∈ WS := WS_t5 218 rfl rfl
theorem wd1308 : (Jvm.Cond.methodLink "OneStepMore$Leveller" (29 : Nat) ({ cls := "OneStepMore$State", name := "houseOf", desc := "(I)LOneStepMore$House;" } : Jvm.MethodName)) ∈ WS := WS_t5 219 rfl rfl
theorem wd1309 : (Jvm.Cond.methodLink "OneStepMore$Leveller" (35 : Nat) ({ cls := "OneStepMore$House", name := "hasStep", desc := "(I)Z" } : Jvm.MethodName)) ∈ WS := WS_t5 220 rfl rfl
theorem wd1310 : (Jvm.Cond.methodLink "OneStepMore$Leveller" (41 : Nat) ({ cls := "OneStepMore$Leveller", name := "plan", desc := "(LOneStepMore$House;IZ)V" } : Jvm.MethodName)) ∈ WS := WS_t5 221 rfl rfl
theorem wd1312 : (Jvm.Cond.instanceMethod ({ cls := "OneStepMore$Leveller", name := "plan", desc := "(LOneStepMore$House;IZ)V" } : Jvm.MethodName)) ∈ WS := WS_t5 223 rfl rfl
theorem wd1313 : (Jvm.Cond.code ({ cls := "OneStepMore$Leveller", name := "plan", desc := "(LOneStepMore$House;IZ)V" } : Jvm.MethodName) prog_4_method_3_code (6 : Nat) (Option.none : Option Jvm.ClassFile.FieldType)) ∈ WS := WS_t5 224 rfl rfl
theorem wd1314 : (Jvm.Cond.methodLink "OneStepMore$Leveller" (50 : Nat) ({ cls := "java/util/Arrays", name := "fill", desc := "([II)V" } : Jvm.MethodName)) ∈ WS := WS_t5 225 rfl rfl
theorem wd1315 : (Jvm.Cond.methodLink "OneStepMore$Leveller" (60 : Nat) ({ cls := "OneStepMore$Leveller", name := "weigh", desc := "(LOneStepMore$House;IZ)V" } : Jvm.MethodName)) ∈ WS := WS_t5 226 rfl rfl
theorem wd1317 : (Jvm.Cond.instanceMethod ({ cls := "OneStepMore$Leveller", name := "weigh", desc := "(LOneStepMore$House;IZ)V" } : Jvm.MethodName)) ∈ WS := WS_t5 228 rfl rfl
theorem wd1318 : (Jvm.Cond.code ({ cls := "OneStepMore$Leveller", name := "weigh", desc := "(LOneStepMore$House;IZ)V" } : Jvm.MethodName) prog_4_method_4_code (7 : Nat) (Option.none : Option Jvm.ClassFile.FieldType)) ∈ WS := WS_t5 229 rfl rfl
theorem wd1319 : (Jvm.Cond.methodLink "OneStepMore$Leveller" (67 : Nat) ({ cls := "OneStepMore$House", name := "highOf", desc := "(I)I" } : Jvm.MethodName)) ∈ WS := WS_t5 230 rfl rfl
theorem wd1320 : (Jvm.Cond.methodLink "OneStepMore$Leveller" (71 : Nat) ({ cls := "java/lang/Math", name := "abs", desc := "(I)I" } : Jvm.MethodName)) ∈ WS := WS_t5 231 rfl rfl
theorem wd1321 : (Jvm.Cond.methodLink "OneStepMore$Leveller" (76 : Nat) ({ cls := "java/lang/Math", name := "min", desc := "(II)I" } : Jvm.MethodName)) ∈ WS := WS_t5 232 rfl rfl
theorem wd1322 : (Jvm.Cond.constant "OneStepMore$Leveller" (49 : Nat) (1000000 : Int32)) ∈ WS := WS_t5 233 rfl rfl
theorem wd1325 : (Jvm.Cond.methodLink "OneStepMore$Leveller" (63 : Nat) ({ cls := "OneStepMore$Leveller", name := "choose", desc := "(LOneStepMore$House;III)V" } : Jvm.MethodName)) ∈ WS := WS_t5 236 rfl rfl
theorem wd1327 : (Jvm.Cond.instanceMethod ({ cls := "OneStepMore$Leveller", name := "choose", desc := "(LOneStepMore$House;III)V" } : Jvm.MethodName)) ∈ WS := WS_t5 238 rfl rfl
theorem wd1328 : (Jvm.Cond.code ({ cls := "OneStepMore$Leveller", name := "choose", desc := "(LOneStepMore$House;III)V" } : Jvm.MethodName) prog_4_method_5_code (8 : Nat) (Option.none : Option Jvm.ClassFile.FieldType)) ∈ WS := WS_t5 239 rfl rfl
theorem wd1329 : (Jvm.Cond.methodLink "OneStepMore$Leveller" (84 : Nat) ({ cls := "OneStepMore$Leveller", name := "cheapest", desc := "()I" } : Jvm.MethodName)) ∈ WS := WS_t6 0 rfl rfl
theorem wd1331 : (Jvm.Cond.instanceMethod ({ cls := "OneStepMore$Leveller", name := "cheapest", desc := "()I" } : Jvm.MethodName)) ∈ WS := WS_t6 2 rfl rfl
theorem wd1332 : (Jvm.Cond.code ({ cls := "OneStepMore$Leveller", name := "cheapest", desc := "()I" } : Jvm.MethodName) prog_4_method_6_code (3 : Nat) (Option.some Jvm.ClassFile.FieldType.int)) ∈ WS := WS_t6 3 rfl rfl
theorem wd1333 : (Jvm.Cond.methodLink "OneStepMore$Leveller" (88 : Nat) ({ cls := "OneStepMore$Leveller", name := "anyoneTrips", desc := "(LOneStepMore$House;IIII)Z" } : Jvm.MethodName)) ∈ WS := WS_t6 4 rfl rfl
theorem wd1335 : (Jvm.Cond.instanceMethod ({ cls := "OneStepMore$Leveller", name := "anyoneTrips", desc := "(LOneStepMore$House;IIII)Z" } : Jvm.MethodName)) ∈ WS := WS_t6 6 rfl rfl
theorem wd1336 : (Jvm.Cond.code ({ cls := "OneStepMore$Leveller", name := "anyoneTrips", desc := "(LOneStepMore$House;IIII)Z" } : Jvm.MethodName) prog_4_method_7_code (7 : Nat) (Option.some Jvm.ClassFile.FieldType.boolean)) ∈ WS := WS_t6 7 rfl rfl
theorem wd1337 : (Jvm.Cond.methodLink "OneStepMore$Leveller" (98 : Nat) ({ cls := "OneStepMore$State", name := "textOf", desc := "(I)LOneStepMore$Text;" } : Jvm.MethodName)) ∈ WS := WS_t6 8 rfl rfl
theorem wd1338 : (Jvm.Cond.methodLink "OneStepMore$Leveller" (102 : Nat) ({ cls := "OneStepMore$Laws", name := "turnTo", desc := "(LOneStepMore$State;LOneStepMore$Text;III)V" } : Jvm.MethodName)) ∈ WS := WS_t6 9 rfl rfl
theorem wd1339 : (Jvm.Cond.methodLink "OneStepMore$Leveller" (108 : Nat) ({ cls := "OneStepMore$Laws", name := "face", desc := "(LOneStepMore$House;I)V" } : Jvm.MethodName)) ∈ WS := WS_t6 10 rfl rfl
theorem wd1340 : (Jvm.Cond.methodLink "OneStepMore$Leveller" (112 : Nat) ({ cls := "OneStepMore$Laws", name := "suppose", desc := "(II)V" } : Jvm.MethodName)) ∈ WS := WS_t6 11 rfl rfl
theorem wd1341 : (Jvm.Cond.instanceMethod ({ cls := "OneStepMore$Laws", name := "suppose", desc := "(II)V" } : Jvm.MethodName)) ∈ WS := WS_t6 12 rfl rfl
theorem wd1342 : (Jvm.Cond.selects "OneStepMore$Laws" ({ cls := "OneStepMore$Laws", name := "suppose", desc := "(II)V" } : Jvm.MethodName) ({ cls := "OneStepMore$Laws", name := "suppose", desc := "(II)V" } : Jvm.MethodName)) ∈ WS := WS_t6 13 rfl rfl
theorem wd1343 : (Jvm.Cond.code ({ cls := "OneStepMore$Laws", name := "suppose", desc := "(II)V" } : Jvm.MethodName) prog_3_method_4_code (3 : Nat) (Option.none : Option Jvm.ClassFile.FieldType)) ∈ WS := WS_t6 14 rfl rfl
theorem wd1344 : (Jvm.Cond.methodLink "OneStepMore$Leveller" (116 : Nat) ({ cls := "OneStepMore$Laws", name := "tripsNow", desc := "()Z" } : Jvm.MethodName)) ∈ WS := WS_t6 15 rfl rfl
theorem wd1345 : (Jvm.Cond.methodLink "OneStepMoreLaw" (184 : Nat) ({ cls := "OneStepMore", name := "image", desc := "()I" } : Jvm.MethodName)) ∈ WS := WS_t6 16 rfl rfl
theorem wd1346 : (Jvm.Cond.instanceMethod ({ cls := "OneStepMore", name := "image", desc := "()I" } : Jvm.MethodName)) ∈ WS := WS_t6 17 rfl rfl
theorem wd1347 : (Jvm.Cond.selects "OneStepMore" ({ cls := "OneStepMore", name := "image", desc := "()I" } : Jvm.MethodName) ({ cls := "OneStepMore", name := "image", desc := "()I" } : Jvm.MethodName)) ∈ WS := WS_t6 18 rfl rfl
theorem wd1348 : (Jvm.Cond.code ({ cls := "OneStepMore", name := "image", desc := "()I" } : Jvm.MethodName) prog_1_method_41_code (1 : Nat) (Option.some Jvm.ClassFile.FieldType.int)) ∈ WS := WS_t6 19 rfl rfl
theorem wd1349 : (Jvm.Cond.methodLink "OneStepMore" (272 : Nat) ({ cls := "OneStepMore$State", name := "become", desc := "(LOneStepMore$State;)V" } : Jvm.MethodName)) ∈ WS := WS_t6 20 rfl rfl
theorem wd1350 : (Jvm.Cond.instanceMethod ({ cls := "OneStepMore$State", name := "become", desc := "(LOneStepMore$State;)V" } : Jvm.MethodName)) ∈ WS := WS_t6 21 rfl rfl
theorem wd1351 : (Jvm.Cond.selects "OneStepMore$State" ({ cls := "OneStepMore$State", name := "become", desc := "(LOneStepMore$State;)V" } : Jvm.MethodName) ({ cls := "OneStepMore$State", name := "become", desc := "(LOneStepMore$State;)V" } : Jvm.MethodName)) ∈ WS := WS_t6 22 rfl rfl
theorem wd1352 : (Jvm.Cond.code ({ cls := "OneStepMore$State", name := "become", desc := "(LOneStepMore$State;)V" } : Jvm.MethodName) prog_7_method_21_code (5 : Nat) (Option.none : Option Jvm.ClassFile.FieldType)) ∈ WS := WS_t6 23 rfl rfl
theorem wd1353 : (Jvm.Cond.methodLink "OneStepMore$State" (131 : Nat) ({ cls := "OneStepMore$House", name := "become", desc := "(LOneStepMore$House;)V" } : Jvm.MethodName)) ∈ WS := WS_t6 24 rfl rfl
theorem wd1354 : (Jvm.Cond.instanceMethod ({ cls := "OneStepMore$House", name := "become", desc := "(LOneStepMore$House;)V" } : Jvm.MethodName)) ∈ WS := WS_t6 25 rfl rfl
theorem wd1355 : (Jvm.Cond.selects "OneStepMore$House" ({ cls := "OneStepMore$House", name := "become", desc := "(LOneStepMore$House;)V" } : Jvm.MethodName) ({ cls := "OneStepMore$House", name := "become", desc := "(LOneStepMore$House;)V" } : Jvm.MethodName)) ∈ WS := WS_t6 26 rfl rfl
theorem wd1356 : (Jvm.Cond.code ({ cls := "OneStepMore$House", name := "become", desc := "(LOneStepMore$House;)V" } : Jvm.MethodName) prog_2_method_6_code (2 : Nat) (Option.none : Option Jvm.ClassFile.FieldType)) ∈ WS := WS_t6 27 rfl rfl
theorem wd1358 : (Jvm.Cond.static ({ cls := "OneStepMore", name := "copy", desc := "([I[I)V" } : Jvm.MethodName)) ∈ WS := WS_t6 29 rfl rfl
theorem wd1359 : (Jvm.Cond.code ({ cls := "OneStepMore", name := "copy", desc := "([I[I)V" } : Jvm.MethodName) prog_1_method_47_code (2 : Nat) (Option.none : Option Jvm.ClassFile.FieldType)) ∈ WS := WS_t6 30 rfl rfl
theorem wd1360 : (Jvm.Cond.methodLink "OneStepMore" (293 : Nat) ({ cls := "java/lang/System", name := "arraycopy", desc := "(Ljava/lang/Object;ILjava/lang/Object;II)V" } : Jvm.MethodName)) ∈ WS := WS_t6 31 rfl rfl
theorem wd1362 : (Jvm.Cond.methodLink "OneStepMoreLaw" (188 : Nat) ({ cls := "OneStepMore", name := "back", desc := "()I" } : Jvm.MethodName)) ∈ WS := WS_t6 33 rfl rfl
theorem wd1363 : (Jvm.Cond.instanceMethod ({ cls := "OneStepMore", name := "back", desc := "()I" } : Jvm.MethodName)) ∈ WS := WS_t6 34 rfl rfl
theorem wd1364 : (Jvm.Cond.selects "OneStepMore" ({ cls := "OneStepMore", name := "back", desc := "()I" } : Jvm.MethodName) ({ cls := "OneStepMore", name := "back", desc := "()I" } : Jvm.MethodName)) ∈ WS := WS_t6 35 rfl rfl
theorem wd1365 : (Jvm.Cond.code ({ cls := "OneStepMore", name := "back", desc := "()I" } : Jvm.MethodName) prog_1_method_42_code (1 : Nat) (Option.some Jvm.ClassFile.FieldType.int)) ∈ WS := WS_t6 36 rfl rfl
theorem wd1366 : (Jvm.Cond.methodLink "OneStepMoreLaw" (192 : Nat) ({ cls := "OneStepMore", name := "about", desc := "(I)I" } : Jvm.MethodName)) ∈ WS := WS_t6 37 rfl rfl
theorem wd1367 : (Jvm.Cond.instanceMethod ({ cls := "OneStepMore", name := "about", desc := "(I)I" } : Jvm.MethodName)) ∈ WS := WS_t6 38 rfl rfl
theorem wd1368 : (Jvm.Cond.selects "OneStepMore" ({ cls := "OneStepMore", name := "about", desc := "(I)I" } : Jvm.MethodName) ({ cls := "OneStepMore", name := "about", desc := "(I)I" } : Jvm.MethodName)) ∈ WS := WS_t6 39 rfl rfl
theorem wd1369 : (Jvm.Cond.code ({ cls := "OneStepMore", name := "about", desc := "(I)I" } : Jvm.MethodName) prog_1_method_43_code (2 : Nat) (Option.some Jvm.ClassFile.FieldType.int)) ∈ WS := WS_t6 40 rfl rfl
theorem wd1370 : (Jvm.Cond.methodLink "OneStepMore" (282 : Nat) ({ cls := "OneStepMore$State", name := "toldHouses", desc := "()I" } : Jvm.MethodName)) ∈ WS := WS_t6 41 rfl rfl
theorem wd1371 : (Jvm.Cond.instanceMethod ({ cls := "OneStepMore$State", name := "toldHouses", desc := "()I" } : Jvm.MethodName)) ∈ WS := WS_t6 42 rfl rfl
theorem wd1372 : (Jvm.Cond.selects "OneStepMore$State" ({ cls := "OneStepMore$State", name := "toldHouses", desc := "()I" } : Jvm.MethodName) ({ cls := "OneStepMore$State", name := "toldHouses", desc := "()I" } : Jvm.MethodName)) ∈ WS := WS_t6 43 rfl rfl
theorem wd1373 : (Jvm.Cond.code ({ cls := "OneStepMore$State", name := "toldHouses", desc := "()I" } : Jvm.MethodName) prog_7_method_14_code (4 : Nat) (Option.some Jvm.ClassFile.FieldType.int)) ∈ WS := WS_t6 44 rfl rfl
theorem wd1374 : (Jvm.Cond.methodLink "OneStepMore" (285 : Nat) ({ cls := "OneStepMore$State", name := "aboutPerson", desc := "(I)I" } : Jvm.MethodName)) ∈ WS := WS_t6 45 rfl rfl
theorem wd1375 : (Jvm.Cond.instanceMethod ({ cls := "OneStepMore$State", name := "aboutPerson", desc := "(I)I" } : Jvm.MethodName)) ∈ WS := WS_t6 46 rfl rfl
theorem wd1376 : (Jvm.Cond.selects "OneStepMore$State" ({ cls := "OneStepMore$State", name := "aboutPerson", desc := "(I)I" } : Jvm.MethodName) ({ cls := "OneStepMore$State", name := "aboutPerson", desc := "(I)I" } : Jvm.MethodName)) ∈ WS := WS_t6 47 rfl rfl
theorem wd1377 : (Jvm.Cond.code ({ cls := "OneStepMore$State", name := "aboutPerson", desc := "(I)I" } : Jvm.MethodName) prog_7_method_15_code (4 : Nat) (Option.some Jvm.ClassFile.FieldType.int)) ∈ WS := WS_t6 48 rfl rfl
theorem wd1378 : (Jvm.Cond.methodLink "OneStepMore$State" (99 : Nat) ({ cls := "OneStepMore$State", name := "isPerson", desc := "(I)Z" } : Jvm.MethodName)) ∈ WS := WS_t6 49 rfl rfl
theorem wd1379 : (Jvm.Cond.classLink "OneStepMoreLaw" (10 : Nat) "OneStepMoreModel") ∈ WS := WS_t6 50 rfl rfl
theorem wd1380 : (Jvm.Cond.instantiable "OneStepMoreModel" (32 : Nat)) ∈ WS := WS_t6 51 rfl rfl
theorem wd1381 : (Jvm.Cond.methodLink "OneStepMoreLaw" (12 : Nat) ({ cls := "OneStepMoreModel", name := "<init>", desc := "()V" } : Jvm.MethodName)) ∈ WS := WS_t6 52 rfl rfl
theorem wd1382 : (Jvm.Cond.instanceMethod ({ cls := "OneStepMoreModel", name := "<init>", desc := "()V" } : Jvm.MethodName)) ∈ WS := WS_t6 53 rfl rfl
theorem wd1383 : (Jvm.Cond.code ({ cls := "OneStepMoreModel", name := "<init>", desc := "()V" } : Jvm.MethodName) prog_13_method_1_code (2 : Nat) (Option.none : Option Jvm.ClassFile.FieldType)) ∈ WS := WS_t6 54 rfl rfl
theorem wd1384 : (Jvm.Cond.methodLink "OneStepMoreModel" (1 : Nat) ({ cls := "java/lang/Object", name := "<init>", desc := "()V" } : Jvm.MethodName)) ∈ WS := WS_t6 55 rfl rfl
theorem wd1385 : (Jvm.Cond.methodLink "OneStepMoreModel" (52 : Nat) ({ cls := "OneStepMoreModel", name := "build", desc := "(II)V" } : Jvm.MethodName)) ∈ WS := WS_t6 56 rfl rfl
theorem wd1387 : (Jvm.Cond.instanceMethod ({ cls := "OneStepMoreModel", name := "build", desc := "(II)V" } : Jvm.MethodName)) ∈ WS := WS_t6 58 rfl rfl
theorem wd1388 : (Jvm.Cond.code ({ cls := "OneStepMoreModel", name := "build", desc := "(II)V" } : Jvm.MethodName) prog_13_method_14_code (5 : Nat) (Option.none : Option Jvm.ClassFile.FieldType)) ∈ WS := WS_t6 59 rfl rfl
theorem wd1389 : (Jvm.Cond.methodLink "OneStepMoreModel" (56 : Nat) ({ cls := "OneStepMoreModel", name := "copy", desc := "([I[I)V" } : Jvm.MethodName)) ∈ WS := WS_t6 60 rfl rfl
theorem wd1390 : (Jvm.Cond.static ({ cls := "OneStepMoreModel", name := "copy", desc := "([I[I)V" } : Jvm.MethodName)) ∈ WS := WS_t6 61 rfl rfl
theorem wd1391 : (Jvm.Cond.code ({ cls := "OneStepMoreModel", name := "copy", desc := "([I[I)V" } : Jvm.MethodName) prog_13_method_2_code (3 : Nat) (Option.none : Option Jvm.ClassFile.FieldType)) ∈ WS := WS_t6 62 rfl rfl
theorem wd1489 : (Jvm.Cond.arrayClass Jvm.ClassFile.FieldType.boolean) ∈ WS := WS_t6 160 rfl rfl
theorem wd1490 : (Jvm.Cond.methodLink "OneStepMoreLaw" (17 : Nat) ({ cls := "OneStepMoreModel", name := "stair", desc := "(II)Z" } : Jvm.MethodName)) ∈ WS := WS_t6 161 rfl rfl
theorem wd1491 : (Jvm.Cond.instanceMethod ({ cls := "OneStepMoreModel", name := "stair", desc := "(II)Z" } : Jvm.MethodName)) ∈ WS := WS_t6 162 rfl rfl
theorem wd1492 : (Jvm.Cond.selects "OneStepMoreModel" ({ cls := "OneStepMoreModel", name := "stair", desc := "(II)Z" } : Jvm.MethodName) ({ cls := "OneStepMoreModel", name := "stair", desc := "(II)Z" } : Jvm.MethodName)) ∈ WS := WS_t6 163 rfl rfl
theorem wd1493 : (Jvm.Cond.code ({ cls := "OneStepMoreModel", name := "stair", desc := "(II)Z" } : Jvm.MethodName) prog_13_method_17_code (3 : Nat) (Option.some Jvm.ClassFile.FieldType.boolean)) ∈ WS := WS_t6 164 rfl rfl
theorem wd1494 : (Jvm.Cond.methodLink "OneStepMoreModel" (70 : Nat) ({ cls := "OneStepMoreModel", name := "isHouse", desc := "(I)Z" } : Jvm.MethodName)) ∈ WS := WS_t6 165 rfl rfl
theorem wd1495 : (Jvm.Cond.static ({ cls := "OneStepMoreModel", name := "isHouse", desc := "(I)Z" } : Jvm.MethodName)) ∈ WS := WS_t6 166 rfl rfl
theorem wd1496 : (Jvm.Cond.code ({ cls := "OneStepMoreModel", name := "isHouse", desc := "(I)Z" } : Jvm.MethodName) prog_13_method_8_code (1 : Nat) (Option.some Jvm.ClassFile.FieldType.boolean)) ∈ WS := WS_t6 167 rfl rfl
theorem wd1497 : (Jvm.Cond.methodLink "OneStepMoreModel" (66 : Nat) ({ cls := "OneStepMoreModel", name := "isIn", desc := "(III)Z" } : Jvm.MethodName)) ∈ WS := WS_t6 168 rfl rfl
theorem wd1498 : (Jvm.Cond.static ({ cls := "OneStepMoreModel", name := "isIn", desc := "(III)Z" } : Jvm.MethodName)) ∈ WS := WS_t6 169 rfl rfl
theorem wd1499 : (Jvm.Cond.code ({ cls := "OneStepMoreModel", name := "isIn", desc := "(III)Z" } : Jvm.MethodName) prog_13_method_3_code (3 : Nat) (Option.some Jvm.ClassFile.FieldType.boolean)) ∈ WS := WS_t6 170 rfl rfl
theorem wd1500 : (Jvm.Cond.methodLink "OneStepMoreModel" (78 : Nat) ({ cls := "OneStepMoreModel", name := "told", desc := "(I)Z" } : Jvm.MethodName)) ∈ WS := WS_t6 171 rfl rfl
theorem wd1502 : (Jvm.Cond.instanceMethod ({ cls := "OneStepMoreModel", name := "told", desc := "(I)Z" } : Jvm.MethodName)) ∈ WS := WS_t6 173 rfl rfl
theorem wd1503 : (Jvm.Cond.code ({ cls := "OneStepMoreModel", name := "told", desc := "(I)Z" } : Jvm.MethodName) prog_13_method_16_code (2 : Nat) (Option.some Jvm.ClassFile.FieldType.boolean)) ∈ WS := WS_t6 174 rfl rfl
theorem wd1504 : (Jvm.Cond.methodLink "OneStepMoreLaw" (22 : Nat) ({ cls := "OneStepMoreModel", name := "height", desc := "(III)Z" } : Jvm.MethodName)) ∈ WS := WS_t6 175 rfl rfl
theorem wd1505 : (Jvm.Cond.instanceMethod ({ cls := "OneStepMoreModel", name := "height", desc := "(III)Z" } : Jvm.MethodName)) ∈ WS := WS_t6 176 rfl rfl
theorem wd1506 : (Jvm.Cond.selects "OneStepMoreModel" ({ cls := "OneStepMoreModel", name := "height", desc := "(III)Z" } : Jvm.MethodName) ({ cls := "OneStepMoreModel", name := "height", desc := "(III)Z" } : Jvm.MethodName)) ∈ WS := WS_t6 177 rfl rfl
theorem wd1507 : (Jvm.Cond.code ({ cls := "OneStepMoreModel", name := "height", desc := "(III)Z" } : Jvm.MethodName) prog_13_method_18_code (4 : Nat) (Option.some Jvm.ClassFile.FieldType.boolean)) ∈ WS := WS_t6 178 rfl rfl
theorem wd1508 : (Jvm.Cond.methodLink "OneStepMoreModel" (81 : Nat) ({ cls := "OneStepMoreModel", name := "isStep", desc := "(II)Z" } : Jvm.MethodName)) ∈ WS := WS_t6 179 rfl rfl
theorem wd1510 : (Jvm.Cond.instanceMethod ({ cls := "OneStepMoreModel", name := "isStep", desc := "(II)Z" } : Jvm.MethodName)) ∈ WS := WS_t6 181 rfl rfl
theorem wd1511 : (Jvm.Cond.code ({ cls := "OneStepMoreModel", name := "isStep", desc := "(II)Z" } : Jvm.MethodName) prog_13_method_15_code (3 : Nat) (Option.some Jvm.ClassFile.FieldType.boolean)) ∈ WS := WS_t6 182 rfl rfl
theorem wd1512 : (Jvm.Cond.methodLink "OneStepMoreModel" (74 : Nat) ({ cls := "OneStepMoreModel", name := "stepsOf", desc := "(I)I" } : Jvm.MethodName)) ∈ WS := WS_t6 183 rfl rfl
theorem wd1514 : (Jvm.Cond.instanceMethod ({ cls := "OneStepMoreModel", name := "stepsOf", desc := "(I)I" } : Jvm.MethodName)) ∈ WS := WS_t6 185 rfl rfl
theorem wd1515 : (Jvm.Cond.code ({ cls := "OneStepMoreModel", name := "stepsOf", desc := "(I)I" } : Jvm.MethodName) prog_13_method_10_code (2 : Nat) (Option.some Jvm.ClassFile.FieldType.int)) ∈ WS := WS_t6 186 rfl rfl
theorem wd1516 : (Jvm.Cond.methodLink "OneStepMoreLaw" (27 : Nat) ({ cls := "OneStepMoreModel", name := "mark", desc := "(IIZ)Z" } : Jvm.MethodName)) ∈ WS := WS_t6 187 rfl rfl
theorem wd1517 : (Jvm.Cond.instanceMethod ({ cls := "OneStepMoreModel", name := "mark", desc := "(IIZ)Z" } : Jvm.MethodName)) ∈ WS := WS_t6 188 rfl rfl
theorem wd1518 : (Jvm.Cond.selects "OneStepMoreModel" ({ cls := "OneStepMoreModel", name := "mark", desc := "(IIZ)Z" } : Jvm.MethodName) ({ cls := "OneStepMoreModel", name := "mark", desc := "(IIZ)Z" } : Jvm.MethodName)) ∈ WS := WS_t6 189 rfl rfl
theorem wd1519 : (Jvm.Cond.code ({ cls := "OneStepMoreModel", name := "mark", desc := "(IIZ)Z" } : Jvm.MethodName) prog_13_method_19_code (4 : Nat) (Option.some Jvm.ClassFile.FieldType.boolean)) ∈ WS := WS_t6 190 rfl rfl
theorem wd1520 : (Jvm.Cond.methodLink "OneStepMoreModel" (85 : Nat) ({ cls := "OneStepMoreModel", name := "marksOf", desc := "(I)I" } : Jvm.MethodName)) ∈ WS := WS_t6 191 rfl rfl
theorem wd1522 : (Jvm.Cond.instanceMethod ({ cls := "OneStepMoreModel", name := "marksOf", desc := "(I)I" } : Jvm.MethodName)) ∈ WS := WS_t6 193 rfl rfl
theorem wd1523 : (Jvm.Cond.code ({ cls := "OneStepMoreModel", name := "marksOf", desc := "(I)I" } : Jvm.MethodName) prog_13_method_11_code (2 : Nat) (Option.some Jvm.ClassFile.FieldType.int)) ∈ WS := WS_t6 194 rfl rfl
theorem wd1524 : (Jvm.Cond.methodLink "OneStepMoreModel" (88 : Nat) ({ cls := "OneStepMoreModel", name := "has", desc := "(II)Z" } : Jvm.MethodName)) ∈ WS := WS_t6 195 rfl rfl
theorem wd1525 : (Jvm.Cond.static ({ cls := "OneStepMoreModel", name := "has", desc := "(II)Z" } : Jvm.MethodName)) ∈ WS := WS_t6 196 rfl rfl
theorem wd1526 : (Jvm.Cond.code ({ cls := "OneStepMoreModel", name := "has", desc := "(II)Z" } : Jvm.MethodName) prog_13_method_4_code (2 : Nat) (Option.some Jvm.ClassFile.FieldType.boolean)) ∈ WS := WS_t6 197 rfl rfl
theorem wd1527 : (Jvm.Cond.methodLink "OneStepMoreLaw" (31 : Nat) ({ cls := "OneStepMoreModel", name := "rail", desc := "(II)Z" } : Jvm.MethodName)) ∈ WS := WS_t6 198 rfl rfl
theorem wd1528 : (Jvm.Cond.instanceMethod ({ cls := "OneStepMoreModel", name := "rail", desc := "(II)Z" } : Jvm.MethodName)) ∈ WS := WS_t6 199 rfl rfl
theorem wd1529 : (Jvm.Cond.selects "OneStepMoreModel" ({ cls := "OneStepMoreModel", name := "rail", desc := "(II)Z" } : Jvm.MethodName) ({ cls := "OneStepMoreModel", name := "rail", desc := "(II)Z" } : Jvm.MethodName)) ∈ WS := WS_t6 200 rfl rfl
theorem wd1530 : (Jvm.Cond.code ({ cls := "OneStepMoreModel", name := "rail", desc := "(II)Z" } : Jvm.MethodName) prog_13_method_20_code (3 : Nat) (Option.some Jvm.ClassFile.FieldType.boolean)) ∈ WS := WS_t6 201 rfl rfl
theorem wd1531 : (Jvm.Cond.methodLink "OneStepMoreLaw" (36 : Nat) ({ cls := "OneStepMoreModel", name := "person", desc := "(III)I" } : Jvm.MethodName)) ∈ WS := WS_t6 202 rfl rfl
theorem wd1532 : (Jvm.Cond.instanceMethod ({ cls := "OneStepMoreModel", name := "person", desc := "(III)I" } : Jvm.MethodName)) ∈ WS := WS_t6 203 rfl rfl
theorem wd1533 : (Jvm.Cond.selects "OneStepMoreModel" ({ cls := "OneStepMoreModel", name := "person", desc := "(III)I" } : Jvm.MethodName) ({ cls := "OneStepMoreModel", name := "person", desc := "(III)I" } : Jvm.MethodName)) ∈ WS := WS_t6 204 rfl rfl
theorem wd1534 : (Jvm.Cond.code ({ cls := "OneStepMoreModel", name := "person", desc := "(III)I" } : Jvm.MethodName) prog_13_method_21_code (5 : Nat) (Option.some Jvm.ClassFile.FieldType.int)) ∈ WS := WS_t6 205 rfl rfl
theorem wd1535 : (Jvm.Cond.methodLink "OneStepMoreLaw" (41 : Nat) ({ cls := "OneStepMoreModel", name := "seed", desc := "(I)Z" } : Jvm.MethodName)) ∈ WS := WS_t6 206 rfl rfl
theorem wd1536 : (Jvm.Cond.instanceMethod ({ cls := "OneStepMoreModel", name := "seed", desc := "(I)Z" } : Jvm.MethodName)) ∈ WS := WS_t6 207 rfl rfl
theorem wd1537 : (Jvm.Cond.selects "OneStepMoreModel" ({ cls := "OneStepMoreModel", name := "seed", desc := "(I)Z" } : Jvm.MethodName) ({ cls := "OneStepMoreModel", name := "seed", desc := "(I)Z" } : Jvm.MethodName)) ∈ WS := WS_t6 208 rfl rfl
theorem wd1538 : (Jvm.Cond.code ({ cls := "OneStepMoreModel", name := "seed", desc := "(I)Z" } : Jvm.MethodName) prog_13_method_22_code (2 : Nat) (Option.some Jvm.ClassFile.FieldType.boolean)) ∈ WS := WS_t6 209 rfl rfl
theorem wd1539 : (Jvm.Cond.methodLink "OneStepMoreLaw" (46 : Nat) ({ cls := "OneStepMoreModel", name := "feed", desc := "(IIIII)I" } : Jvm.MethodName)) ∈ WS := WS_t6 210 rfl rfl
theorem wd1540 : (Jvm.Cond.instanceMethod ({ cls := "OneStepMoreModel", name := "feed", desc := "(IIIII)I" } : Jvm.MethodName)) ∈ WS := WS_t6 211 rfl rfl
theorem wd1541 : (Jvm.Cond.selects "OneStepMoreModel" ({ cls := "OneStepMoreModel", name := "feed", desc := "(IIIII)I" } : Jvm.MethodName) ({ cls := "OneStepMoreModel", name := "feed", desc := "(IIIII)I" } : Jvm.MethodName)) ∈ WS := WS_t6 212 rfl rfl
theorem wd1542 : (Jvm.Cond.code ({ cls := "OneStepMoreModel", name := "feed", desc := "(IIIII)I" } : Jvm.MethodName) prog_13_method_24_code (6 : Nat) (Option.some Jvm.ClassFile.FieldType.int)) ∈ WS := WS_t6 213 rfl rfl
theorem wd1543 : (Jvm.Cond.methodLink "OneStepMoreModel" (94 : Nat) ({ cls := "OneStepMoreModel", name := "four", desc := "(I)V" } : Jvm.MethodName)) ∈ WS := WS_t6 214 rfl rfl
theorem wd1545 : (Jvm.Cond.instanceMethod ({ cls := "OneStepMoreModel", name := "four", desc := "(I)V" } : Jvm.MethodName)) ∈ WS := WS_t6 216 rfl rfl
theorem wd1546 : (Jvm.Cond.code ({ cls := "OneStepMoreModel", name := "four", desc := "(I)V" } : Jvm.MethodName) prog_13_method_23_code (3 : Nat) (Option.none : Option Jvm.ClassFile.FieldType)) ∈ WS := WS_t6 217 rfl rfl
theorem wd1547 : (Jvm.Cond.methodLink "OneStepMoreLaw" (51 : Nat) ({ cls := "OneStepMoreModel", name := "end", desc := "(I)I" } : Jvm.MethodName)) ∈ WS := WS_t6 218 rfl rfl
theorem wd1548 : (Jvm.Cond.instanceMethod ({ cls := "OneStepMoreModel", name := "end", desc := "(I)I" } : Jvm.MethodName)) ∈ WS := WS_t6 219 rfl rfl
theorem wd1549 : (Jvm.Cond.selects "OneStepMoreModel" ({ cls := "OneStepMoreModel", name := "end", desc := "(I)I" } : Jvm.MethodName) ({ cls := "OneStepMoreModel", name := "end", desc := "(I)I" } : Jvm.MethodName)) ∈ WS := WS_t6 220 rfl rfl
theorem wd1550 : (Jvm.Cond.code ({ cls := "OneStepMoreModel", name := "end", desc := "(I)I" } : Jvm.MethodName) prog_13_method_25_code (2 : Nat) (Option.some Jvm.ClassFile.FieldType.int)) ∈ WS := WS_t6 221 rfl rfl
theorem wd1551 : (Jvm.Cond.methodLink "OneStepMoreLaw" (56 : Nat) ({ cls := "OneStepMoreModel", name := "text", desc := "()I" } : Jvm.MethodName)) ∈ WS := WS_t6 222 rfl rfl
theorem wd1552 : (Jvm.Cond.instanceMethod ({ cls := "OneStepMoreModel", name := "text", desc := "()I" } : Jvm.MethodName)) ∈ WS := WS_t6 223 rfl rfl
theorem wd1553 : (Jvm.Cond.selects "OneStepMoreModel" ({ cls := "OneStepMoreModel", name := "text", desc := "()I" } : Jvm.MethodName) ({ cls := "OneStepMoreModel", name := "text", desc := "()I" } : Jvm.MethodName)) ∈ WS := WS_t6 224 rfl rfl
theorem wd1554 : (Jvm.Cond.code ({ cls := "OneStepMoreModel", name := "text", desc := "()I" } : Jvm.MethodName) prog_13_method_63_code (1 : Nat) (Option.some Jvm.ClassFile.FieldType.int)) ∈ WS := WS_t6 225 rfl rfl
theorem wd1555 : (Jvm.Cond.methodLink "OneStepMoreModel" (268 : Nat) ({ cls := "OneStepMoreModel", name := "readText", desc := "()I" } : Jvm.MethodName)) ∈ WS := WS_t6 226 rfl rfl
theorem wd1557 : (Jvm.Cond.instanceMethod ({ cls := "OneStepMoreModel", name := "readText", desc := "()I" } : Jvm.MethodName)) ∈ WS := WS_t6 228 rfl rfl
theorem wd1558 : (Jvm.Cond.code ({ cls := "OneStepMoreModel", name := "readText", desc := "()I" } : Jvm.MethodName) prog_13_method_62_code (2 : Nat) (Option.some Jvm.ClassFile.FieldType.int)) ∈ WS := WS_t6 229 rfl rfl
theorem wd1559 : (Jvm.Cond.methodLink "OneStepMoreModel" (179 : Nat) ({ cls := "OneStepMoreModel", name := "nextToken", desc := "()V" } : Jvm.MethodName)) ∈ WS := WS_t6 230 rfl rfl
theorem wd1561 : (Jvm.Cond.instanceMethod ({ cls := "OneStepMoreModel", name := "nextToken", desc := "()V" } : Jvm.MethodName)) ∈ WS := WS_t6 232 rfl rfl
theorem wd1562 : (Jvm.Cond.code ({ cls := "OneStepMoreModel", name := "nextToken", desc := "()V" } : Jvm.MethodName) prog_13_method_29_code (3 : Nat) (Option.none : Option Jvm.ClassFile.FieldType)) ∈ WS := WS_t6 233 rfl rfl
theorem wd1563 : (Jvm.Cond.methodLink "OneStepMoreModel" (101 : Nat) ({ cls := "OneStepMoreModel", name := "byteAt", desc := "(I)I" } : Jvm.MethodName)) ∈ WS := WS_t6 234 rfl rfl
theorem wd1565 : (Jvm.Cond.instanceMethod ({ cls := "OneStepMoreModel", name := "byteAt", desc := "(I)I" } : Jvm.MethodName)) ∈ WS := WS_t6 236 rfl rfl
theorem wd1566 : (Jvm.Cond.code ({ cls := "OneStepMoreModel", name := "byteAt", desc := "(I)I" } : Jvm.MethodName) prog_13_method_26_code (2 : Nat) (Option.some Jvm.ClassFile.FieldType.int)) ∈ WS := WS_t6 237 rfl rfl
theorem wd1567 : (Jvm.Cond.methodLink "OneStepMoreModel" (110 : Nat) ({ cls := "OneStepMoreModel", name := "isDigit", desc := "(I)Z" } : Jvm.MethodName)) ∈ WS := WS_t6 238 rfl rfl
theorem wd1568 : (Jvm.Cond.static ({ cls := "OneStepMoreModel", name := "isDigit", desc := "(I)Z" } : Jvm.MethodName)) ∈ WS := WS_t6 239 rfl rfl
theorem wd1569 : (Jvm.Cond.code ({ cls := "OneStepMoreModel", name := "isDigit", desc := "(I)Z" } : Jvm.MethodName) prog_13_method_28_code (1 : Nat) (Option.some Jvm.ClassFile.FieldType.boolean)) ∈ WS := WS_t7 0 rfl rfl
theorem wd1570 : (Jvm.Cond.constant "OneStepMoreModel" (116 : Nat) (100000 : Int32)) ∈ WS := WS_t7 1 rfl rfl
theorem wd1571 : (Jvm.Cond.methodLink "OneStepMoreModel" (117 : Nat) ({ cls := "OneStepMoreModel", name := "isLetter", desc := "(I)Z" } : Jvm.MethodName)) ∈ WS := WS_t7 2 rfl rfl
theorem wd1572 : (Jvm.Cond.static ({ cls := "OneStepMoreModel", name := "isLetter", desc := "(I)Z" } : Jvm.MethodName)) ∈ WS := WS_t7 3 rfl rfl
theorem wd1573 : (Jvm.Cond.code ({ cls := "OneStepMoreModel", name := "isLetter", desc := "(I)Z" } : Jvm.MethodName) prog_13_method_27_code (1 : Nat) (Option.some Jvm.ClassFile.FieldType.boolean)) ∈ WS := WS_t7 4 rfl rfl
theorem wd1574 : (Jvm.Cond.methodLink "OneStepMoreModel" (265 : Nat) ({ cls := "OneStepMoreModel", name := "clause", desc := "()I" } : Jvm.MethodName)) ∈ WS := WS_t7 5 rfl rfl
theorem wd1576 : (Jvm.Cond.instanceMethod ({ cls := "OneStepMoreModel", name := "clause", desc := "()I" } : Jvm.MethodName)) ∈ WS := WS_t7 7 rfl rfl
theorem wd1577 : (Jvm.Cond.code ({ cls := "OneStepMoreModel", name := "clause", desc := "()I" } : Jvm.MethodName) prog_13_method_61_code (4 : Nat) (Option.some Jvm.ClassFile.FieldType.int)) ∈ WS := WS_t7 8 rfl rfl
theorem wd1578 : (Jvm.Cond.methodLink "OneStepMoreModel" (253 : Nat) ({ cls := "OneStepMoreModel", name := "sortOf", desc := "()I" } : Jvm.MethodName)) ∈ WS := WS_t7 9 rfl rfl
theorem wd1580 : (Jvm.Cond.instanceMethod ({ cls := "OneStepMoreModel", name := "sortOf", desc := "()I" } : Jvm.MethodName)) ∈ WS := WS_t7 11 rfl rfl
theorem wd1581 : (Jvm.Cond.code ({ cls := "OneStepMoreModel", name := "sortOf", desc := "()I" } : Jvm.MethodName) prog_13_method_52_code (1 : Nat) (Option.some Jvm.ClassFile.FieldType.int)) ∈ WS := WS_t7 12 rfl rfl
theorem wd1582 : (Jvm.Cond.methodLink "OneStepMoreModel" (145 : Nat) ({ cls := "OneStepMoreModel", name := "w4", desc := "(IIII)J" } : Jvm.MethodName)) ∈ WS := WS_t7 13 rfl rfl
theorem wd1583 : (Jvm.Cond.static ({ cls := "OneStepMoreModel", name := "w4", desc := "(IIII)J" } : Jvm.MethodName)) ∈ WS := WS_t7 14 rfl rfl
theorem wd1584 : (Jvm.Cond.code ({ cls := "OneStepMoreModel", name := "w4", desc := "(IIII)J" } : Jvm.MethodName) prog_13_method_32_code (4 : Nat) (Option.some Jvm.ClassFile.FieldType.long)) ∈ WS := WS_t7 15 rfl rfl
theorem wd1585 : (Jvm.Cond.methodLink "OneStepMoreModel" (124 : Nat) ({ cls := "OneStepMoreModel", name := "w3", desc := "(III)J" } : Jvm.MethodName)) ∈ WS := WS_t7 16 rfl rfl
theorem wd1586 : (Jvm.Cond.static ({ cls := "OneStepMoreModel", name := "w3", desc := "(III)J" } : Jvm.MethodName)) ∈ WS := WS_t7 17 rfl rfl
theorem wd1587 : (Jvm.Cond.code ({ cls := "OneStepMoreModel", name := "w3", desc := "(III)J" } : Jvm.MethodName) prog_13_method_30_code (3 : Nat) (Option.some Jvm.ClassFile.FieldType.long)) ∈ WS := WS_t7 18 rfl rfl
theorem wd1588 : (Jvm.Cond.methodLink "OneStepMoreModel" (196 : Nat) ({ cls := "OneStepMoreModel", name := "isWord", desc := "(J)Z" } : Jvm.MethodName)) ∈ WS := WS_t7 19 rfl rfl
theorem wd1590 : (Jvm.Cond.instanceMethod ({ cls := "OneStepMoreModel", name := "isWord", desc := "(J)Z" } : Jvm.MethodName)) ∈ WS := WS_t7 21 rfl rfl
theorem wd1591 : (Jvm.Cond.code ({ cls := "OneStepMoreModel", name := "isWord", desc := "(J)Z" } : Jvm.MethodName) prog_13_method_34_code (3 : Nat) (Option.some Jvm.ClassFile.FieldType.boolean)) ∈ WS := WS_t7 22 rfl rfl
theorem wd1592 : (Jvm.Cond.methodLink "OneStepMoreModel" (128 : Nat) ({ cls := "OneStepMoreModel", name := "w5", desc := "(IIIII)J" } : Jvm.MethodName)) ∈ WS := WS_t7 23 rfl rfl
theorem wd1593 : (Jvm.Cond.static ({ cls := "OneStepMoreModel", name := "w5", desc := "(IIIII)J" } : Jvm.MethodName)) ∈ WS := WS_t7 24 rfl rfl
theorem wd1594 : (Jvm.Cond.code ({ cls := "OneStepMoreModel", name := "w5", desc := "(IIIII)J" } : Jvm.MethodName) prog_13_method_31_code (5 : Nat) (Option.some Jvm.ClassFile.FieldType.long)) ∈ WS := WS_t7 25 rfl rfl
theorem wd1595 : (Jvm.Cond.methodLink "OneStepMoreModel" (262 : Nat) ({ cls := "OneStepMoreModel", name := "body", desc := "(II)I" } : Jvm.MethodName)) ∈ WS := WS_t7 26 rfl rfl
theorem wd1597 : (Jvm.Cond.instanceMethod ({ cls := "OneStepMoreModel", name := "body", desc := "(II)I" } : Jvm.MethodName)) ∈ WS := WS_t7 28 rfl rfl
theorem wd1598 : (Jvm.Cond.code ({ cls := "OneStepMoreModel", name := "body", desc := "(II)I" } : Jvm.MethodName) prog_13_method_60_code (3 : Nat) (Option.some Jvm.ClassFile.FieldType.int)) ∈ WS := WS_t7 29 rfl rfl
theorem wd1599 : (Jvm.Cond.methodLink "OneStepMoreModel" (240 : Nat) ({ cls := "OneStepMoreModel", name := "lawClause", desc := "(II)I" } : Jvm.MethodName)) ∈ WS := WS_t7 30 rfl rfl
theorem wd1601 : (Jvm.Cond.instanceMethod ({ cls := "OneStepMoreModel", name := "lawClause", desc := "(II)I" } : Jvm.MethodName)) ∈ WS := WS_t7 32 rfl rfl
theorem wd1602 : (Jvm.Cond.code ({ cls := "OneStepMoreModel", name := "lawClause", desc := "(II)I" } : Jvm.MethodName) prog_13_method_56_code (4 : Nat) (Option.some Jvm.ClassFile.FieldType.int)) ∈ WS := WS_t7 33 rfl rfl
theorem wd1603 : (Jvm.Cond.methodLink "OneStepMoreModel" (232 : Nat) ({ cls := "OneStepMoreModel", name := "parsed", desc := "(Z)I" } : Jvm.MethodName)) ∈ WS := WS_t7 34 rfl rfl
theorem wd1605 : (Jvm.Cond.instanceMethod ({ cls := "OneStepMoreModel", name := "parsed", desc := "(Z)I" } : Jvm.MethodName)) ∈ WS := WS_t7 36 rfl rfl
theorem wd1606 : (Jvm.Cond.code ({ cls := "OneStepMoreModel", name := "parsed", desc := "(Z)I" } : Jvm.MethodName) prog_13_method_51_code (4 : Nat) (Option.some Jvm.ClassFile.FieldType.int)) ∈ WS := WS_t7 37 rfl rfl
theorem wd1607 : (Jvm.Cond.methodLink "OneStepMoreModel" (216 : Nat) ({ cls := "OneStepMoreModel", name := "behindOne", desc := "(Z)Z" } : Jvm.MethodName)) ∈ WS := WS_t7 38 rfl rfl
theorem wd1609 : (Jvm.Cond.instanceMethod ({ cls := "OneStepMoreModel", name := "behindOne", desc := "(Z)Z" } : Jvm.MethodName)) ∈ WS := WS_t7 40 rfl rfl
theorem wd1610 : (Jvm.Cond.code ({ cls := "OneStepMoreModel", name := "behindOne", desc := "(Z)Z" } : Jvm.MethodName) prog_13_method_50_code (5 : Nat) (Option.some Jvm.ClassFile.FieldType.boolean)) ∈ WS := WS_t7 41 rfl rfl
theorem wd1611 : (Jvm.Cond.methodLink "OneStepMoreModel" (213 : Nat) ({ cls := "OneStepMoreModel", name := "betweenOf", desc := "(Z)I" } : Jvm.MethodName)) ∈ WS := WS_t7 42 rfl rfl
theorem wd1613 : (Jvm.Cond.instanceMethod ({ cls := "OneStepMoreModel", name := "betweenOf", desc := "(Z)I" } : Jvm.MethodName)) ∈ WS := WS_t7 44 rfl rfl
theorem wd1614 : (Jvm.Cond.code ({ cls := "OneStepMoreModel", name := "betweenOf", desc := "(Z)I" } : Jvm.MethodName) prog_13_method_49_code (2 : Nat) (Option.some Jvm.ClassFile.FieldType.int)) ∈ WS := WS_t7 45 rfl rfl
theorem wd1615 : (Jvm.Cond.methodLink "OneStepMoreModel" (172 : Nat) ({ cls := "OneStepMoreModel", name := "kindOpen", desc := "(Z)I" } : Jvm.MethodName)) ∈ WS := WS_t7 46 rfl rfl
theorem wd1617 : (Jvm.Cond.instanceMethod ({ cls := "OneStepMoreModel", name := "kindOpen", desc := "(Z)I" } : Jvm.MethodName)) ∈ WS := WS_t7 48 rfl rfl
theorem wd1618 : (Jvm.Cond.code ({ cls := "OneStepMoreModel", name := "kindOpen", desc := "(Z)I" } : Jvm.MethodName) prog_13_method_43_code (3 : Nat) (Option.some Jvm.ClassFile.FieldType.int)) ∈ WS := WS_t7 49 rfl rfl
theorem wd1619 : (Jvm.Cond.methodLink "OneStepMoreModel" (168 : Nat) ({ cls := "OneStepMoreModel", name := "marker", desc := "()I" } : Jvm.MethodName)) ∈ WS := WS_t7 50 rfl rfl
theorem wd1621 : (Jvm.Cond.instanceMethod ({ cls := "OneStepMoreModel", name := "marker", desc := "()I" } : Jvm.MethodName)) ∈ WS := WS_t7 52 rfl rfl
theorem wd1622 : (Jvm.Cond.code ({ cls := "OneStepMoreModel", name := "marker", desc := "()I" } : Jvm.MethodName) prog_13_method_42_code (2 : Nat) (Option.some Jvm.ClassFile.FieldType.int)) ∈ WS := WS_t7 53 rfl rfl
theorem wd1623 : (Jvm.Cond.methodLink "OneStepMoreModel" (204 : Nat) ({ cls := "OneStepMoreModel", name := "isCompared", desc := "()Z" } : Jvm.MethodName)) ∈ WS := WS_t7 54 rfl rfl
theorem wd1625 : (Jvm.Cond.instanceMethod ({ cls := "OneStepMoreModel", name := "isCompared", desc := "()Z" } : Jvm.MethodName)) ∈ WS := WS_t7 56 rfl rfl
theorem wd1626 : (Jvm.Cond.code ({ cls := "OneStepMoreModel", name := "isCompared", desc := "()Z" } : Jvm.MethodName) prog_13_method_44_code (2 : Nat) (Option.some Jvm.ClassFile.FieldType.boolean)) ∈ WS := WS_t7 57 rfl rfl
theorem wd1627 : (Jvm.Cond.methodLink "OneStepMoreModel" (152 : Nat) ({ cls := "OneStepMoreModel", name := "rank", desc := "(I)I" } : Jvm.MethodName)) ∈ WS := WS_t7 58 rfl rfl
theorem wd1628 : (Jvm.Cond.static ({ cls := "OneStepMoreModel", name := "rank", desc := "(I)I" } : Jvm.MethodName)) ∈ WS := WS_t7 59 rfl rfl
theorem wd1629 : (Jvm.Cond.code ({ cls := "OneStepMoreModel", name := "rank", desc := "(I)I" } : Jvm.MethodName) prog_13_method_39_code (1 : Nat) (Option.some Jvm.ClassFile.FieldType.int)) ∈ WS := WS_t7 60 rfl rfl
theorem wd1630 : (Jvm.Cond.methodLink "OneStepMoreModel" (208 : Nat) ({ cls := "OneStepMoreModel", name := "compareOf", desc := "()I" } : Jvm.MethodName)) ∈ WS := WS_t7 61 rfl rfl
theorem wd1632 : (Jvm.Cond.instanceMethod ({ cls := "OneStepMoreModel", name := "compareOf", desc := "()I" } : Jvm.MethodName)) ∈ WS := WS_t7 63 rfl rfl
theorem wd1633 : (Jvm.Cond.code ({ cls := "OneStepMoreModel", name := "compareOf", desc := "()I" } : Jvm.MethodName) prog_13_method_48_code (1 : Nat) (Option.some Jvm.ClassFile.FieldType.int)) ∈ WS := WS_t7 64 rfl rfl
theorem wd1634 : (Jvm.Cond.constantLong "OneStepMoreModel" (211 : Nat) (28530 : Int64)) ∈ WS := WS_t7 65 rfl rfl
theorem wd1635 : (Jvm.Cond.methodLink "OneStepMoreModel" (165 : Nat) ({ cls := "OneStepMoreModel", name := "settle", desc := "(I)V" } : Jvm.MethodName)) ∈ WS := WS_t7 66 rfl rfl
theorem wd1637 : (Jvm.Cond.instanceMethod ({ cls := "OneStepMoreModel", name := "settle", desc := "(I)V" } : Jvm.MethodName)) ∈ WS := WS_t7 68 rfl rfl
theorem wd1638 : (Jvm.Cond.code ({ cls := "OneStepMoreModel", name := "settle", desc := "(I)V" } : Jvm.MethodName) prog_13_method_40_code (2 : Nat) (Option.none : Option Jvm.ClassFile.FieldType)) ∈ WS := WS_t7 69 rfl rfl
theorem wd1639 : (Jvm.Cond.methodLink "OneStepMoreModel" (155 : Nat) ({ cls := "OneStepMoreModel", name := "emit", desc := "(II)V" } : Jvm.MethodName)) ∈ WS := WS_t7 70 rfl rfl
theorem wd1641 : (Jvm.Cond.instanceMethod ({ cls := "OneStepMoreModel", name := "emit", desc := "(II)V" } : Jvm.MethodName)) ∈ WS := WS_t7 72 rfl rfl
theorem wd1642 : (Jvm.Cond.code ({ cls := "OneStepMoreModel", name := "emit", desc := "(II)V" } : Jvm.MethodName) prog_13_method_35_code (3 : Nat) (Option.none : Option Jvm.ClassFile.FieldType)) ∈ WS := WS_t7 73 rfl rfl
theorem wd1643 : (Jvm.Cond.methodLink "OneStepMoreModel" (176 : Nat) ({ cls := "OneStepMoreModel", name := "push", desc := "(I)V" } : Jvm.MethodName)) ∈ WS := WS_t7 74 rfl rfl
theorem wd1645 : (Jvm.Cond.instanceMethod ({ cls := "OneStepMoreModel", name := "push", desc := "(I)V" } : Jvm.MethodName)) ∈ WS := WS_t7 76 rfl rfl
theorem wd1646 : (Jvm.Cond.code ({ cls := "OneStepMoreModel", name := "push", desc := "(I)V" } : Jvm.MethodName) prog_13_method_36_code (2 : Nat) (Option.none : Option Jvm.ClassFile.FieldType)) ∈ WS := WS_t7 77 rfl rfl
theorem wd1647 : (Jvm.Cond.methodLink "OneStepMoreModel" (188 : Nat) ({ cls := "OneStepMoreModel", name := "whole", desc := "()V" } : Jvm.MethodName)) ∈ WS := WS_t7 78 rfl rfl
theorem wd1649 : (Jvm.Cond.instanceMethod ({ cls := "OneStepMoreModel", name := "whole", desc := "()V" } : Jvm.MethodName)) ∈ WS := WS_t7 80 rfl rfl
theorem wd1650 : (Jvm.Cond.code ({ cls := "OneStepMoreModel", name := "whole", desc := "()V" } : Jvm.MethodName) prog_13_method_41_code (1 : Nat) (Option.none : Option Jvm.ClassFile.FieldType)) ∈ WS := WS_t7 81 rfl rfl
theorem wd1651 : (Jvm.Cond.methodLink "OneStepMoreModel" (219 : Nat) ({ cls := "OneStepMoreModel", name := "beginOne", desc := "(Z)I" } : Jvm.MethodName)) ∈ WS := WS_t7 82 rfl rfl
theorem wd1653 : (Jvm.Cond.instanceMethod ({ cls := "OneStepMoreModel", name := "beginOne", desc := "(Z)I" } : Jvm.MethodName)) ∈ WS := WS_t7 84 rfl rfl
theorem wd1654 : (Jvm.Cond.code ({ cls := "OneStepMoreModel", name := "beginOne", desc := "(Z)I" } : Jvm.MethodName) prog_13_method_47_code (3 : Nat) (Option.some Jvm.ClassFile.FieldType.int)) ∈ WS := WS_t7 85 rfl rfl
theorem wd1655 : (Jvm.Cond.methodLink "OneStepMoreModel" (182 : Nat) ({ cls := "OneStepMoreModel", name := "nameOf", desc := "()I" } : Jvm.MethodName)) ∈ WS := WS_t7 86 rfl rfl
theorem wd1657 : (Jvm.Cond.instanceMethod ({ cls := "OneStepMoreModel", name := "nameOf", desc := "()I" } : Jvm.MethodName)) ∈ WS := WS_t7 88 rfl rfl
theorem wd1658 : (Jvm.Cond.code ({ cls := "OneStepMoreModel", name := "nameOf", desc := "()I" } : Jvm.MethodName) prog_13_method_37_code (1 : Nat) (Option.some Jvm.ClassFile.FieldType.int)) ∈ WS := WS_t7 89 rfl rfl
theorem wd1659 : (Jvm.Cond.methodLink "OneStepMoreModel" (141 : Nat) ({ cls := "OneStepMoreModel", name := "w6", desc := "(IIIIII)J" } : Jvm.MethodName)) ∈ WS := WS_t7 90 rfl rfl
theorem wd1660 : (Jvm.Cond.static ({ cls := "OneStepMoreModel", name := "w6", desc := "(IIIIII)J" } : Jvm.MethodName)) ∈ WS := WS_t7 91 rfl rfl
theorem wd1661 : (Jvm.Cond.code ({ cls := "OneStepMoreModel", name := "w6", desc := "(IIIIII)J" } : Jvm.MethodName) prog_13_method_33_code (6 : Nat) (Option.some Jvm.ClassFile.FieldType.long)) ∈ WS := WS_t7 92 rfl rfl
theorem wd1662 : (Jvm.Cond.methodLink "OneStepMoreModel" (185 : Nat) ({ cls := "OneStepMoreModel", name := "isOf", desc := "(I)Z" } : Jvm.MethodName)) ∈ WS := WS_t7 93 rfl rfl
theorem wd1664 : (Jvm.Cond.instanceMethod ({ cls := "OneStepMoreModel", name := "isOf", desc := "(I)Z" } : Jvm.MethodName)) ∈ WS := WS_t7 95 rfl rfl
theorem wd1665 : (Jvm.Cond.code ({ cls := "OneStepMoreModel", name := "isOf", desc := "(I)Z" } : Jvm.MethodName) prog_13_method_38_code (2 : Nat) (Option.some Jvm.ClassFile.FieldType.boolean)) ∈ WS := WS_t7 96 rfl rfl
theorem wd1666 : (Jvm.Cond.methodLink "OneStepMoreModel" (191 : Nat) ({ cls := "OneStepMoreModel", name := "opensBy", desc := "(I)I" } : Jvm.MethodName)) ∈ WS := WS_t7 97 rfl rfl
theorem wd1668 : (Jvm.Cond.instanceMethod ({ cls := "OneStepMoreModel", name := "opensBy", desc := "(I)I" } : Jvm.MethodName)) ∈ WS := WS_t7 99 rfl rfl
theorem wd1669 : (Jvm.Cond.code ({ cls := "OneStepMoreModel", name := "opensBy", desc := "(I)I" } : Jvm.MethodName) prog_13_method_46_code (2 : Nat) (Option.some Jvm.ClassFile.FieldType.int)) ∈ WS := WS_t7 100 rfl rfl
theorem wd1670 : (Jvm.Cond.constantLong "OneStepMoreModel" (194 : Nat) (26982 : Int64)) ∈ WS := WS_t7 101 rfl rfl
theorem wd1671 : (Jvm.Cond.methodLink "OneStepMoreModel" (200 : Nat) ({ cls := "OneStepMoreModel", name := "isAskAhead", desc := "(Z)Z" } : Jvm.MethodName)) ∈ WS := WS_t7 102 rfl rfl
theorem wd1673 : (Jvm.Cond.instanceMethod ({ cls := "OneStepMoreModel", name := "isAskAhead", desc := "(Z)Z" } : Jvm.MethodName)) ∈ WS := WS_t7 104 rfl rfl
theorem wd1674 : (Jvm.Cond.code ({ cls := "OneStepMoreModel", name := "isAskAhead", desc := "(Z)Z" } : Jvm.MethodName) prog_13_method_45_code (2 : Nat) (Option.some Jvm.ClassFile.FieldType.boolean)) ∈ WS := WS_t7 105 rfl rfl
theorem wd1675 : (Jvm.Cond.methodLink "OneStepMoreModel" (244 : Nat) ({ cls := "OneStepMoreModel", name := "highClause", desc := "(I)I" } : Jvm.MethodName)) ∈ WS := WS_t7 106 rfl rfl
theorem wd1677 : (Jvm.Cond.instanceMethod ({ cls := "OneStepMoreModel", name := "highClause", desc := "(I)I" } : Jvm.MethodName)) ∈ WS := WS_t7 108 rfl rfl
theorem wd1678 : (Jvm.Cond.code ({ cls := "OneStepMoreModel", name := "highClause", desc := "(I)I" } : Jvm.MethodName) prog_13_method_57_code (3 : Nat) (Option.some Jvm.ClassFile.FieldType.int)) ∈ WS := WS_t7 109 rfl rfl
theorem wd1679 : (Jvm.Cond.methodLink "OneStepMoreModel" (222 : Nat) ({ cls := "OneStepMoreModel", name := "figure", desc := "(III)I" } : Jvm.MethodName)) ∈ WS := WS_t7 110 rfl rfl
theorem wd1681 : (Jvm.Cond.instanceMethod ({ cls := "OneStepMoreModel", name := "figure", desc := "(III)I" } : Jvm.MethodName)) ∈ WS := WS_t7 112 rfl rfl
theorem wd1682 : (Jvm.Cond.code ({ cls := "OneStepMoreModel", name := "figure", desc := "(III)I" } : Jvm.MethodName) prog_13_method_53_code (4 : Nat) (Option.some Jvm.ClassFile.FieldType.int)) ∈ WS := WS_t7 113 rfl rfl
theorem wd1683 : (Jvm.Cond.constantLong "OneStepMoreModel" (235 : Nat) (24948 : Int64)) ∈ WS := WS_t7 114 rfl rfl
theorem wd1684 : (Jvm.Cond.methodLink "OneStepMoreModel" (228 : Nat) ({ cls := "OneStepMoreModel", name := "worded", desc := "(JIII)I" } : Jvm.MethodName)) ∈ WS := WS_t7 115 rfl rfl
theorem wd1686 : (Jvm.Cond.instanceMethod ({ cls := "OneStepMoreModel", name := "worded", desc := "(JIII)I" } : Jvm.MethodName)) ∈ WS := WS_t7 117 rfl rfl
theorem wd1687 : (Jvm.Cond.code ({ cls := "OneStepMoreModel", name := "worded", desc := "(JIII)I" } : Jvm.MethodName) prog_13_method_54_code (6 : Nat) (Option.some Jvm.ClassFile.FieldType.int)) ∈ WS := WS_t7 118 rfl rfl
theorem wd1688 : (Jvm.Cond.methodLink "OneStepMoreModel" (237 : Nat) ({ cls := "OneStepMoreModel", name := "ofHouse", desc := "(I)I" } : Jvm.MethodName)) ∈ WS := WS_t7 119 rfl rfl
theorem wd1690 : (Jvm.Cond.instanceMethod ({ cls := "OneStepMoreModel", name := "ofHouse", desc := "(I)I" } : Jvm.MethodName)) ∈ WS := WS_t7 121 rfl rfl
theorem wd1691 : (Jvm.Cond.code ({ cls := "OneStepMoreModel", name := "ofHouse", desc := "(I)I" } : Jvm.MethodName) prog_13_method_55_code (2 : Nat) (Option.some Jvm.ClassFile.FieldType.int)) ∈ WS := WS_t7 122 rfl rfl
theorem wd1692 : (Jvm.Cond.constantLong "OneStepMoreModel" (226 : Nat) (28518 : Int64)) ∈ WS := WS_t7 123 rfl rfl
theorem wd1693 : (Jvm.Cond.methodLink "OneStepMoreModel" (247 : Nat) ({ cls := "OneStepMoreModel", name := "oneClause", desc := "(I)I" } : Jvm.MethodName)) ∈ WS := WS_t7 124 rfl rfl
theorem wd1695 : (Jvm.Cond.instanceMethod ({ cls := "OneStepMoreModel", name := "oneClause", desc := "(I)I" } : Jvm.MethodName)) ∈ WS := WS_t7 126 rfl rfl
theorem wd1696 : (Jvm.Cond.code ({ cls := "OneStepMoreModel", name := "oneClause", desc := "(I)I" } : Jvm.MethodName) prog_13_method_58_code (3 : Nat) (Option.some Jvm.ClassFile.FieldType.int)) ∈ WS := WS_t7 127 rfl rfl
theorem wd1697 : (Jvm.Cond.methodLink "OneStepMoreModel" (250 : Nat) ({ cls := "OneStepMoreModel", name := "pair", desc := "(II)I" } : Jvm.MethodName)) ∈ WS := WS_t7 128 rfl rfl
theorem wd1699 : (Jvm.Cond.instanceMethod ({ cls := "OneStepMoreModel", name := "pair", desc := "(II)I" } : Jvm.MethodName)) ∈ WS := WS_t7 130 rfl rfl
theorem wd1700 : (Jvm.Cond.code ({ cls := "OneStepMoreModel", name := "pair", desc := "(II)I" } : Jvm.MethodName) prog_13_method_59_code (4 : Nat) (Option.some Jvm.ClassFile.FieldType.int)) ∈ WS := WS_t7 131 rfl rfl
theorem wd1701 : (Jvm.Cond.methodLink "OneStepMoreLaw" (60 : Nat) ({ cls := "OneStepMoreModel", name := "fault", desc := "(I)I" } : Jvm.MethodName)) ∈ WS := WS_t7 132 rfl rfl
theorem wd1702 : (Jvm.Cond.instanceMethod ({ cls := "OneStepMoreModel", name := "fault", desc := "(I)I" } : Jvm.MethodName)) ∈ WS := WS_t7 133 rfl rfl
theorem wd1703 : (Jvm.Cond.selects "OneStepMoreModel" ({ cls := "OneStepMoreModel", name := "fault", desc := "(I)I" } : Jvm.MethodName) ({ cls := "OneStepMoreModel", name := "fault", desc := "(I)I" } : Jvm.MethodName)) ∈ WS := WS_t7 134 rfl rfl
theorem wd1704 : (Jvm.Cond.code ({ cls := "OneStepMoreModel", name := "fault", desc := "(I)I" } : Jvm.MethodName) prog_13_method_64_code (2 : Nat) (Option.some Jvm.ClassFile.FieldType.int)) ∈ WS := WS_t7 135 rfl rfl
theorem wd1705 : (Jvm.Cond.methodLink "OneStepMoreLaw" (64 : Nat) ({ cls := "OneStepMoreModel", name := "by", desc := "(I)Z" } : Jvm.MethodName)) ∈ WS := WS_t7 136 rfl rfl
theorem wd1706 : (Jvm.Cond.instanceMethod ({ cls := "OneStepMoreModel", name := "by", desc := "(I)Z" } : Jvm.MethodName)) ∈ WS := WS_t7 137 rfl rfl
theorem wd1707 : (Jvm.Cond.selects "OneStepMoreModel" ({ cls := "OneStepMoreModel", name := "by", desc := "(I)Z" } : Jvm.MethodName) ({ cls := "OneStepMoreModel", name := "by", desc := "(I)Z" } : Jvm.MethodName)) ∈ WS := WS_t7 138 rfl rfl
theorem wd1708 : (Jvm.Cond.code ({ cls := "OneStepMoreModel", name := "by", desc := "(I)Z" } : Jvm.MethodName) prog_13_method_65_code (2 : Nat) (Option.some Jvm.ClassFile.FieldType.boolean)) ∈ WS := WS_t7 139 rfl rfl
theorem wd1709 : (Jvm.Cond.methodLink "OneStepMoreLaw" (109 : Nat) ({ cls := "OneStepMoreModel", name := "says", desc := "(IIIII)I" } : Jvm.MethodName)) ∈ WS := WS_t7 140 rfl rfl
theorem wd1710 : (Jvm.Cond.instanceMethod ({ cls := "OneStepMoreModel", name := "says", desc := "(IIIII)I" } : Jvm.MethodName)) ∈ WS := WS_t7 141 rfl rfl
theorem wd1711 : (Jvm.Cond.selects "OneStepMoreModel" ({ cls := "OneStepMoreModel", name := "says", desc := "(IIIII)I" } : Jvm.MethodName) ({ cls := "OneStepMoreModel", name := "says", desc := "(IIIII)I" } : Jvm.MethodName)) ∈ WS := WS_t7 142 rfl rfl
theorem wd1712 : (Jvm.Cond.code ({ cls := "OneStepMoreModel", name := "says", desc := "(IIIII)I" } : Jvm.MethodName) prog_13_method_82_code (6 : Nat) (Option.some Jvm.ClassFile.FieldType.int)) ∈ WS := WS_t7 143 rfl rfl
theorem wd1713 : (Jvm.Cond.methodLink "OneStepMoreModel" (325 : Nat) ({ cls := "OneStepMoreModel", name := "isMind", desc := "(III)Z" } : Jvm.MethodName)) ∈ WS := WS_t7 144 rfl rfl
theorem wd1715 : (Jvm.Cond.instanceMethod ({ cls := "OneStepMoreModel", name := "isMind", desc := "(III)Z" } : Jvm.MethodName)) ∈ WS := WS_t7 146 rfl rfl
theorem wd1716 : (Jvm.Cond.code ({ cls := "OneStepMoreModel", name := "isMind", desc := "(III)Z" } : Jvm.MethodName) prog_13_method_81_code (4 : Nat) (Option.some Jvm.ClassFile.FieldType.boolean)) ∈ WS := WS_t7 147 rfl rfl
theorem wd1717 : (Jvm.Cond.methodLink "OneStepMoreModel" (322 : Nat) ({ cls := "OneStepMoreModel", name := "isPerson", desc := "(I)Z" } : Jvm.MethodName)) ∈ WS := WS_t7 148 rfl rfl
theorem wd1719 : (Jvm.Cond.instanceMethod ({ cls := "OneStepMoreModel", name := "isPerson", desc := "(I)Z" } : Jvm.MethodName)) ∈ WS := WS_t7 150 rfl rfl
theorem wd1720 : (Jvm.Cond.code ({ cls := "OneStepMoreModel", name := "isPerson", desc := "(I)Z" } : Jvm.MethodName) prog_13_method_9_code (2 : Nat) (Option.some Jvm.ClassFile.FieldType.boolean)) ∈ WS := WS_t7 151 rfl rfl
theorem wd1721 : (Jvm.Cond.methodLink "OneStepMoreModel" (314 : Nat) ({ cls := "OneStepMoreModel", name := "noneAt", desc := "(IIII)I" } : Jvm.MethodName)) ∈ WS := WS_t7 152 rfl rfl
theorem wd1723 : (Jvm.Cond.instanceMethod ({ cls := "OneStepMoreModel", name := "noneAt", desc := "(IIII)I" } : Jvm.MethodName)) ∈ WS := WS_t7 154 rfl rfl
theorem wd1724 : (Jvm.Cond.code ({ cls := "OneStepMoreModel", name := "noneAt", desc := "(IIII)I" } : Jvm.MethodName) prog_13_method_75_code (5 : Nat) (Option.some Jvm.ClassFile.FieldType.int)) ∈ WS := WS_t7 155 rfl rfl
theorem wd1725 : (Jvm.Cond.methodLink "OneStepMoreModel" (307 : Nat) ({ cls := "OneStepMoreModel", name := "nameAt", desc := "(IIII)V" } : Jvm.MethodName)) ∈ WS := WS_t7 156 rfl rfl
theorem wd1727 : (Jvm.Cond.instanceMethod ({ cls := "OneStepMoreModel", name := "nameAt", desc := "(IIII)V" } : Jvm.MethodName)) ∈ WS := WS_t7 158 rfl rfl
theorem wd1728 : (Jvm.Cond.code ({ cls := "OneStepMoreModel", name := "nameAt", desc := "(IIII)V" } : Jvm.MethodName) prog_13_method_74_code (5 : Nat) (Option.none : Option Jvm.ClassFile.FieldType)) ∈ WS := WS_t7 159 rfl rfl
theorem wd1729 : (Jvm.Cond.methodLink "OneStepMoreModel" (296 : Nat) ({ cls := "OneStepMoreModel", name := "name", desc := "(III)V" } : Jvm.MethodName)) ∈ WS := WS_t7 160 rfl rfl
theorem wd1731 : (Jvm.Cond.instanceMethod ({ cls := "OneStepMoreModel", name := "name", desc := "(III)V" } : Jvm.MethodName)) ∈ WS := WS_t7 162 rfl rfl
theorem wd1732 : (Jvm.Cond.code ({ cls := "OneStepMoreModel", name := "name", desc := "(III)V" } : Jvm.MethodName) prog_13_method_71_code (4 : Nat) (Option.none : Option Jvm.ClassFile.FieldType)) ∈ WS := WS_t7 163 rfl rfl
theorem wd1733 : (Jvm.Cond.methodLink "OneStepMoreModel" (300 : Nat) ({ cls := "OneStepMoreModel", name := "heightOf", desc := "(II)I" } : Jvm.MethodName)) ∈ WS := WS_t7 164 rfl rfl
theorem wd1735 : (Jvm.Cond.instanceMethod ({ cls := "OneStepMoreModel", name := "heightOf", desc := "(II)I" } : Jvm.MethodName)) ∈ WS := WS_t7 166 rfl rfl
theorem wd1736 : (Jvm.Cond.code ({ cls := "OneStepMoreModel", name := "heightOf", desc := "(II)I" } : Jvm.MethodName) prog_13_method_13_code (3 : Nat) (Option.some Jvm.ClassFile.FieldType.int)) ∈ WS := WS_t7 167 rfl rfl
theorem wd1737 : (Jvm.Cond.methodLink "OneStepMoreModel" (303 : Nat) ({ cls := "OneStepMoreModel", name := "nameStep", desc := "(IIIII)V" } : Jvm.MethodName)) ∈ WS := WS_t7 168 rfl rfl
theorem wd1739 : (Jvm.Cond.instanceMethod ({ cls := "OneStepMoreModel", name := "nameStep", desc := "(IIIII)V" } : Jvm.MethodName)) ∈ WS := WS_t7 170 rfl rfl
theorem wd1740 : (Jvm.Cond.code ({ cls := "OneStepMoreModel", name := "nameStep", desc := "(IIIII)V" } : Jvm.MethodName) prog_13_method_72_code (6 : Nat) (Option.none : Option Jvm.ClassFile.FieldType)) ∈ WS := WS_t7 171 rfl rfl
theorem wd1741 : (Jvm.Cond.methodLink "OneStepMoreModel" (287 : Nat) ({ cls := "OneStepMoreModel", name := "railOf", desc := "(I)I" } : Jvm.MethodName)) ∈ WS := WS_t7 172 rfl rfl
theorem wd1743 : (Jvm.Cond.instanceMethod ({ cls := "OneStepMoreModel", name := "railOf", desc := "(I)I" } : Jvm.MethodName)) ∈ WS := WS_t7 174 rfl rfl
theorem wd1744 : (Jvm.Cond.code ({ cls := "OneStepMoreModel", name := "railOf", desc := "(I)I" } : Jvm.MethodName) prog_13_method_12_code (2 : Nat) (Option.some Jvm.ClassFile.FieldType.int)) ∈ WS := WS_t7 175 rfl rfl
theorem wd1745 : (Jvm.Cond.methodLink "OneStepMoreModel" (311 : Nat) ({ cls := "OneStepMoreModel", name := "sumBy", desc := "(III)I" } : Jvm.MethodName)) ∈ WS := WS_t7 176 rfl rfl
theorem wd1747 : (Jvm.Cond.instanceMethod ({ cls := "OneStepMoreModel", name := "sumBy", desc := "(III)I" } : Jvm.MethodName)) ∈ WS := WS_t7 178 rfl rfl
theorem wd1748 : (Jvm.Cond.code ({ cls := "OneStepMoreModel", name := "sumBy", desc := "(III)I" } : Jvm.MethodName) prog_13_method_73_code (5 : Nat) (Option.some Jvm.ClassFile.FieldType.int)) ∈ WS := WS_t7 179 rfl rfl
theorem wd1749 : (Jvm.Cond.methodLink "OneStepMoreModel" (290 : Nat) ({ cls := "OneStepMoreModel", name := "clauseOf", desc := "(II)I" } : Jvm.MethodName)) ∈ WS := WS_t7 180 rfl rfl
theorem wd1751 : (Jvm.Cond.instanceMethod ({ cls := "OneStepMoreModel", name := "clauseOf", desc := "(II)I" } : Jvm.MethodName)) ∈ WS := WS_t7 182 rfl rfl
theorem wd1752 : (Jvm.Cond.code ({ cls := "OneStepMoreModel", name := "clauseOf", desc := "(II)I" } : Jvm.MethodName) prog_13_method_70_code (4 : Nat) (Option.some Jvm.ClassFile.FieldType.int)) ∈ WS := WS_t7 183 rfl rfl
theorem wd1753 : (Jvm.Cond.methodLink "OneStepMoreModel" (293 : Nat) ({ cls := "OneStepMoreModel", name := "work", desc := "(II)V" } : Jvm.MethodName)) ∈ WS := WS_t7 184 rfl rfl
theorem wd1755 : (Jvm.Cond.instanceMethod ({ cls := "OneStepMoreModel", name := "work", desc := "(II)V" } : Jvm.MethodName)) ∈ WS := WS_t7 186 rfl rfl
theorem wd1756 : (Jvm.Cond.code ({ cls := "OneStepMoreModel", name := "work", desc := "(II)V" } : Jvm.MethodName) prog_13_method_69_code (10 : Nat) (Option.none : Option Jvm.ClassFile.FieldType)) ∈ WS := WS_t7 187 rfl rfl
theorem wd1757 : (Jvm.Cond.methodLink "OneStepMoreModel" (279 : Nat) ({ cls := "OneStepMoreModel", name := "two", desc := "(IJJ)J" } : Jvm.MethodName)) ∈ WS := WS_t7 188 rfl rfl
theorem wd1758 : (Jvm.Cond.static ({ cls := "OneStepMoreModel", name := "two", desc := "(IJJ)J" } : Jvm.MethodName)) ∈ WS := WS_t7 189 rfl rfl
theorem wd1759 : (Jvm.Cond.code ({ cls := "OneStepMoreModel", name := "two", desc := "(IJJ)J" } : Jvm.MethodName) prog_13_method_67_code (5 : Nat) (Option.some Jvm.ClassFile.FieldType.long)) ∈ WS := WS_t7 190 rfl rfl
theorem wd1760 : (Jvm.Cond.methodLink "OneStepMoreModel" (275 : Nat) ({ cls := "OneStepMoreModel", name := "clip", desc := "(J)J" } : Jvm.MethodName)) ∈ WS := WS_t7 191 rfl rfl
theorem wd1761 : (Jvm.Cond.static ({ cls := "OneStepMoreModel", name := "clip", desc := "(J)J" } : Jvm.MethodName)) ∈ WS := WS_t7 192 rfl rfl
theorem wd1762 : (Jvm.Cond.code ({ cls := "OneStepMoreModel", name := "clip", desc := "(J)J" } : Jvm.MethodName) prog_13_method_66_code (2 : Nat) (Option.some Jvm.ClassFile.FieldType.long)) ∈ WS := WS_t7 193 rfl rfl
theorem wd1763 : (Jvm.Cond.constantLong "OneStepMoreModel" (271 : Nat) (1000000 : Int64)) ∈ WS := WS_t7 194 rfl rfl
theorem wd1764 : (Jvm.Cond.constantLong "OneStepMoreModel" (273 : Nat) (-1000000 : Int64)) ∈ WS := WS_t7 195 rfl rfl
theorem wd1765 : (Jvm.Cond.methodLink "OneStepMoreModel" (283 : Nat) ({ cls := "OneStepMoreModel", name := "isAsked", desc := "(IJJ)Z" } : Jvm.MethodName)) ∈ WS := WS_t7 196 rfl rfl
theorem wd1766 : (Jvm.Cond.static ({ cls := "OneStepMoreModel", name := "isAsked", desc := "(IJJ)Z" } : Jvm.MethodName)) ∈ WS := WS_t7 197 rfl rfl
theorem wd1767 : (Jvm.Cond.code ({ cls := "OneStepMoreModel", name := "isAsked", desc := "(IJJ)Z" } : Jvm.MethodName) prog_13_method_68_code (5 : Nat) (Option.some Jvm.ClassFile.FieldType.boolean)) ∈ WS := WS_t7 198 rfl rfl
theorem wd1768 : (Jvm.Cond.methodLink "OneStepMoreModel" (328 : Nat) ({ cls := "OneStepMoreModel", name := "twiceAt", desc := "(IIII)I" } : Jvm.MethodName)) ∈ WS := WS_t7 199 rfl rfl
theorem wd1770 : (Jvm.Cond.instanceMethod ({ cls := "OneStepMoreModel", name := "twiceAt", desc := "(IIII)I" } : Jvm.MethodName)) ∈ WS := WS_t7 201 rfl rfl
theorem wd1771 : (Jvm.Cond.code ({ cls := "OneStepMoreModel", name := "twiceAt", desc := "(IIII)I" } : Jvm.MethodName) prog_13_method_76_code (6 : Nat) (Option.some Jvm.ClassFile.FieldType.int)) ∈ WS := WS_t7 202 rfl rfl
theorem wd1772 : (Jvm.Cond.methodLink "OneStepMoreModel" (331 : Nat) ({ cls := "OneStepMoreModel", name := "tripsAt", desc := "(IIII)Z" } : Jvm.MethodName)) ∈ WS := WS_t7 203 rfl rfl
theorem wd1774 : (Jvm.Cond.instanceMethod ({ cls := "OneStepMoreModel", name := "tripsAt", desc := "(IIII)Z" } : Jvm.MethodName)) ∈ WS := WS_t7 205 rfl rfl
theorem wd1775 : (Jvm.Cond.code ({ cls := "OneStepMoreModel", name := "tripsAt", desc := "(IIII)Z" } : Jvm.MethodName) prog_13_method_78_code (5 : Nat) (Option.some Jvm.ClassFile.FieldType.boolean)) ∈ WS := WS_t7 206 rfl rfl
theorem wd1776 : (Jvm.Cond.methodLink "OneStepMoreModel" (318 : Nat) ({ cls := "OneStepMoreModel", name := "tripsBy", desc := "(IIIIIII)Z" } : Jvm.MethodName)) ∈ WS := WS_t7 207 rfl rfl
theorem wd1778 : (Jvm.Cond.instanceMethod ({ cls := "OneStepMoreModel", name := "tripsBy", desc := "(IIIIIII)Z" } : Jvm.MethodName)) ∈ WS := WS_t7 209 rfl rfl
theorem wd1779 : (Jvm.Cond.code ({ cls := "OneStepMoreModel", name := "tripsBy", desc := "(IIIIIII)Z" } : Jvm.MethodName) prog_13_method_77_code (9 : Nat) (Option.some Jvm.ClassFile.FieldType.boolean)) ∈ WS := WS_t7 210 rfl rfl
theorem wd1780 : (Jvm.Cond.methodLink "OneStepMoreModel" (335 : Nat) ({ cls := "OneStepMoreModel", name := "jarOf", desc := "(III)I" } : Jvm.MethodName)) ∈ WS := WS_t7 211 rfl rfl
theorem wd1782 : (Jvm.Cond.instanceMethod ({ cls := "OneStepMoreModel", name := "jarOf", desc := "(III)I" } : Jvm.MethodName)) ∈ WS := WS_t7 213 rfl rfl
theorem wd1783 : (Jvm.Cond.code ({ cls := "OneStepMoreModel", name := "jarOf", desc := "(III)I" } : Jvm.MethodName) prog_13_method_79_code (4 : Nat) (Option.some Jvm.ClassFile.FieldType.int)) ∈ WS := WS_t7 214 rfl rfl
theorem wd1784 : (Jvm.Cond.methodLink "OneStepMoreModel" (338 : Nat) ({ cls := "OneStepMoreModel", name := "fallOf", desc := "(III)I" } : Jvm.MethodName)) ∈ WS := WS_t7 215 rfl rfl
theorem wd1786 : (Jvm.Cond.instanceMethod ({ cls := "OneStepMoreModel", name := "fallOf", desc := "(III)I" } : Jvm.MethodName)) ∈ WS := WS_t7 217 rfl rfl
theorem wd1787 : (Jvm.Cond.code ({ cls := "OneStepMoreModel", name := "fallOf", desc := "(III)I" } : Jvm.MethodName) prog_13_method_80_code (4 : Nat) (Option.some Jvm.ClassFile.FieldType.int)) ∈ WS := WS_t7 218 rfl rfl
theorem wd1788 : (Jvm.Cond.methodLink "OneStepMoreLaw" (97 : Nat) ({ cls := "OneStepMoreModel", name := "undo", desc := "()I" } : Jvm.MethodName)) ∈ WS := WS_t7 219 rfl rfl
theorem wd1789 : (Jvm.Cond.instanceMethod ({ cls := "OneStepMoreModel", name := "undo", desc := "()I" } : Jvm.MethodName)) ∈ WS := WS_t7 220 rfl rfl
theorem wd1790 : (Jvm.Cond.selects "OneStepMoreModel" ({ cls := "OneStepMoreModel", name := "undo", desc := "()I" } : Jvm.MethodName) ({ cls := "OneStepMoreModel", name := "undo", desc := "()I" } : Jvm.MethodName)) ∈ WS := WS_t7 221 rfl rfl
theorem wd1791 : (Jvm.Cond.code ({ cls := "OneStepMoreModel", name := "undo", desc := "()I" } : Jvm.MethodName) prog_13_method_84_code (3 : Nat) (Option.some Jvm.ClassFile.FieldType.int)) ∈ WS := WS_t7 222 rfl rfl
theorem wd1792 : (Jvm.Cond.methodLink "OneStepMoreLaw" (68 : Nat) ({ cls := "OneStepMoreModel", name := "begin", desc := "(III)I" } : Jvm.MethodName)) ∈ WS := WS_t7 223 rfl rfl
theorem wd1793 : (Jvm.Cond.instanceMethod ({ cls := "OneStepMoreModel", name := "begin", desc := "(III)I" } : Jvm.MethodName)) ∈ WS := WS_t7 224 rfl rfl
theorem wd1794 : (Jvm.Cond.selects "OneStepMoreModel" ({ cls := "OneStepMoreModel", name := "begin", desc := "(III)I" } : Jvm.MethodName) ({ cls := "OneStepMoreModel", name := "begin", desc := "(III)I" } : Jvm.MethodName)) ∈ WS := WS_t7 225 rfl rfl
theorem wd1795 : (Jvm.Cond.code ({ cls := "OneStepMoreModel", name := "begin", desc := "(III)I" } : Jvm.MethodName) prog_13_method_92_code (4 : Nat) (Option.some Jvm.ClassFile.FieldType.int)) ∈ WS := WS_t7 226 rfl rfl
theorem wd1796 : (Jvm.Cond.methodLink "OneStepMoreModel" (353 : Nat) ({ cls := "OneStepMoreModel", name := "keep", desc := "()V" } : Jvm.MethodName)) ∈ WS := WS_t7 227 rfl rfl
theorem wd1798 : (Jvm.Cond.instanceMethod ({ cls := "OneStepMoreModel", name := "keep", desc := "()V" } : Jvm.MethodName)) ∈ WS := WS_t7 229 rfl rfl
theorem wd1799 : (Jvm.Cond.code ({ cls := "OneStepMoreModel", name := "keep", desc := "()V" } : Jvm.MethodName) prog_13_method_83_code (3 : Nat) (Option.none : Option Jvm.ClassFile.FieldType)) ∈ WS := WS_t7 230 rfl rfl
theorem wd1800 : (Jvm.Cond.methodLink "OneStepMoreModel" (356 : Nat) ({ cls := "OneStepMoreModel", name := "beginNow", desc := "(III)V" } : Jvm.MethodName)) ∈ WS := WS_t7 231 rfl rfl
theorem wd1802 : (Jvm.Cond.instanceMethod ({ cls := "OneStepMoreModel", name := "beginNow", desc := "(III)V" } : Jvm.MethodName)) ∈ WS := WS_t7 233 rfl rfl
theorem wd1803 : (Jvm.Cond.code ({ cls := "OneStepMoreModel", name := "beginNow", desc := "(III)V" } : Jvm.MethodName) prog_13_method_87_code (5 : Nat) (Option.none : Option Jvm.ClassFile.FieldType)) ∈ WS := WS_t7 234 rfl rfl
theorem wd1804 : (Jvm.Cond.methodLink "OneStepMoreModel" (344 : Nat) ({ cls := "OneStepMoreModel", name := "drawn", desc := "()I" } : Jvm.MethodName)) ∈ WS := WS_t7 235 rfl rfl
theorem wd1806 : (Jvm.Cond.instanceMethod ({ cls := "OneStepMoreModel", name := "drawn", desc := "()I" } : Jvm.MethodName)) ∈ WS := WS_t7 237 rfl rfl
theorem wd1807 : (Jvm.Cond.code ({ cls := "OneStepMoreModel", name := "drawn", desc := "()I" } : Jvm.MethodName) prog_13_method_86_code (2 : Nat) (Option.some Jvm.ClassFile.FieldType.int)) ∈ WS := WS_t7 238 rfl rfl
theorem wd1808 : (Jvm.Cond.methodLink "OneStepMoreModel" (341 : Nat) ({ cls := "OneStepMoreModel", name := "anew", desc := "()V" } : Jvm.MethodName)) ∈ WS := WS_t7 239 rfl rfl
theorem wd1810 : (Jvm.Cond.instanceMethod ({ cls := "OneStepMoreModel", name := "anew", desc := "()V" } : Jvm.MethodName)) ∈ WS := WS_t8 1 rfl rfl
theorem wd1811 : (Jvm.Cond.code ({ cls := "OneStepMoreModel", name := "anew", desc := "()V" } : Jvm.MethodName) prog_13_method_85_code (1 : Nat) (Option.none : Option Jvm.ClassFile.FieldType)) ∈ WS := WS_t8 2 rfl rfl
theorem wd1812 : (Jvm.Cond.methodLink "OneStepMoreLaw" (72 : Nat) ({ cls := "OneStepMoreModel", name := "step", desc := "()I" } : Jvm.MethodName)) ∈ WS := WS_t8 3 rfl rfl
theorem wd1813 : (Jvm.Cond.instanceMethod ({ cls := "OneStepMoreModel", name := "step", desc := "()I" } : Jvm.MethodName)) ∈ WS := WS_t8 4 rfl rfl
theorem wd1814 : (Jvm.Cond.selects "OneStepMoreModel" ({ cls := "OneStepMoreModel", name := "step", desc := "()I" } : Jvm.MethodName) ({ cls := "OneStepMoreModel", name := "step", desc := "()I" } : Jvm.MethodName)) ∈ WS := WS_t8 5 rfl rfl
theorem wd1815 : (Jvm.Cond.code ({ cls := "OneStepMoreModel", name := "step", desc := "()I" } : Jvm.MethodName) prog_13_method_93_code (1 : Nat) (Option.some Jvm.ClassFile.FieldType.int)) ∈ WS := WS_t8 6 rfl rfl
theorem wd1816 : (Jvm.Cond.methodLink "OneStepMoreModel" (359 : Nat) ({ cls := "OneStepMoreModel", name := "stepNow", desc := "()V" } : Jvm.MethodName)) ∈ WS := WS_t8 7 rfl rfl
theorem wd1818 : (Jvm.Cond.instanceMethod ({ cls := "OneStepMoreModel", name := "stepNow", desc := "()V" } : Jvm.MethodName)) ∈ WS := WS_t8 9 rfl rfl
theorem wd1819 : (Jvm.Cond.code ({ cls := "OneStepMoreModel", name := "stepNow", desc := "()V" } : Jvm.MethodName) prog_13_method_90_code (4 : Nat) (Option.none : Option Jvm.ClassFile.FieldType)) ∈ WS := WS_t8 10 rfl rfl
theorem wd1820 : (Jvm.Cond.methodLink "OneStepMoreModel" (347 : Nat) ({ cls := "OneStepMoreModel", name := "down", desc := "(I)V" } : Jvm.MethodName)) ∈ WS := WS_t8 11 rfl rfl
theorem wd1822 : (Jvm.Cond.instanceMethod ({ cls := "OneStepMoreModel", name := "down", desc := "(I)V" } : Jvm.MethodName)) ∈ WS := WS_t8 13 rfl rfl
theorem wd1823 : (Jvm.Cond.code ({ cls := "OneStepMoreModel", name := "down", desc := "(I)V" } : Jvm.MethodName) prog_13_method_88_code (3 : Nat) (Option.none : Option Jvm.ClassFile.FieldType)) ∈ WS := WS_t8 14 rfl rfl
theorem wd1824 : (Jvm.Cond.methodLink "OneStepMoreModel" (350 : Nat) ({ cls := "OneStepMoreModel", name := "counted", desc := "()V" } : Jvm.MethodName)) ∈ WS := WS_t8 15 rfl rfl
theorem wd1826 : (Jvm.Cond.instanceMethod ({ cls := "OneStepMoreModel", name := "counted", desc := "()V" } : Jvm.MethodName)) ∈ WS := WS_t8 17 rfl rfl
theorem wd1827 : (Jvm.Cond.code ({ cls := "OneStepMoreModel", name := "counted", desc := "()V" } : Jvm.MethodName) prog_13_method_89_code (7 : Nat) (Option.none : Option Jvm.ClassFile.FieldType)) ∈ WS := WS_t8 18 rfl rfl
theorem wd1828 : (Jvm.Cond.methodLink "OneStepMoreLaw" (76 : Nat) ({ cls := "OneStepMoreModel", name := "toe", desc := "()I" } : Jvm.MethodName)) ∈ WS := WS_t8 19 rfl rfl
theorem wd1829 : (Jvm.Cond.instanceMethod ({ cls := "OneStepMoreModel", name := "toe", desc := "()I" } : Jvm.MethodName)) ∈ WS := WS_t8 20 rfl rfl
theorem wd1830 : (Jvm.Cond.selects "OneStepMoreModel" ({ cls := "OneStepMoreModel", name := "toe", desc := "()I" } : Jvm.MethodName) ({ cls := "OneStepMoreModel", name := "toe", desc := "()I" } : Jvm.MethodName)) ∈ WS := WS_t8 21 rfl rfl
theorem wd1831 : (Jvm.Cond.code ({ cls := "OneStepMoreModel", name := "toe", desc := "()I" } : Jvm.MethodName) prog_13_method_94_code (1 : Nat) (Option.some Jvm.ClassFile.FieldType.int)) ∈ WS := WS_t8 22 rfl rfl
theorem wd1832 : (Jvm.Cond.methodLink "OneStepMoreModel" (362 : Nat) ({ cls := "OneStepMoreModel", name := "toeNow", desc := "()V" } : Jvm.MethodName)) ∈ WS := WS_t8 23 rfl rfl
theorem wd1834 : (Jvm.Cond.instanceMethod ({ cls := "OneStepMoreModel", name := "toeNow", desc := "()V" } : Jvm.MethodName)) ∈ WS := WS_t8 25 rfl rfl
theorem wd1835 : (Jvm.Cond.code ({ cls := "OneStepMoreModel", name := "toeNow", desc := "()V" } : Jvm.MethodName) prog_13_method_91_code (1 : Nat) (Option.none : Option Jvm.ClassFile.FieldType)) ∈ WS := WS_t8 26 rfl rfl
theorem wd1836 : (Jvm.Cond.methodLink "OneStepMoreLaw" (80 : Nat) ({ cls := "OneStepMoreModel", name := "stop", desc := "()I" } : Jvm.MethodName)) ∈ WS := WS_t8 27 rfl rfl
theorem wd1837 : (Jvm.Cond.instanceMethod ({ cls := "OneStepMoreModel", name := "stop", desc := "()I" } : Jvm.MethodName)) ∈ WS := WS_t8 28 rfl rfl
theorem wd1838 : (Jvm.Cond.selects "OneStepMoreModel" ({ cls := "OneStepMoreModel", name := "stop", desc := "()I" } : Jvm.MethodName) ({ cls := "OneStepMoreModel", name := "stop", desc := "()I" } : Jvm.MethodName)) ∈ WS := WS_t8 29 rfl rfl
theorem wd1839 : (Jvm.Cond.code ({ cls := "OneStepMoreModel", name := "stop", desc := "()I" } : Jvm.MethodName) prog_13_method_95_code (2 : Nat) (Option.some Jvm.ClassFile.FieldType.int)) ∈ WS := WS_t8 30 rfl rfl
theorem wd1840 : (Jvm.Cond.methodLink "OneStepMoreLaw" (84 : Nat) ({ cls := "OneStepMoreModel", name := "night", desc := "(I)I" } : Jvm.MethodName)) ∈ WS := WS_t8 31 rfl rfl
theorem wd1841 : (Jvm.Cond.instanceMethod ({ cls := "OneStepMoreModel", name := "night", desc := "(I)I" } : Jvm.MethodName)) ∈ WS := WS_t8 32 rfl rfl
theorem wd1842 : (Jvm.Cond.selects "OneStepMoreModel" ({ cls := "OneStepMoreModel", name := "night", desc := "(I)I" } : Jvm.MethodName) ({ cls := "OneStepMoreModel", name := "night", desc := "(I)I" } : Jvm.MethodName)) ∈ WS := WS_t8 33 rfl rfl
theorem wd1843 : (Jvm.Cond.code ({ cls := "OneStepMoreModel", name := "night", desc := "(I)I" } : Jvm.MethodName) prog_13_method_97_code (3 : Nat) (Option.some Jvm.ClassFile.FieldType.int)) ∈ WS := WS_t8 34 rfl rfl
theorem wd1844 : (Jvm.Cond.methodLink "OneStepMoreModel" (365 : Nat) ({ cls := "OneStepMoreModel", name := "nightNow", desc := "()Z" } : Jvm.MethodName)) ∈ WS := WS_t8 35 rfl rfl
theorem wd1846 : (Jvm.Cond.instanceMethod ({ cls := "OneStepMoreModel", name := "nightNow", desc := "()Z" } : Jvm.MethodName)) ∈ WS := WS_t8 37 rfl rfl
theorem wd1847 : (Jvm.Cond.code ({ cls := "OneStepMoreModel", name := "nightNow", desc := "()Z" } : Jvm.MethodName) prog_13_method_96_code (1 : Nat) (Option.some Jvm.ClassFile.FieldType.boolean)) ∈ WS := WS_t8 38 rfl rfl
theorem wd1848 : (Jvm.Cond.methodLink "OneStepMoreLaw" (88 : Nat) ({ cls := "OneStepMoreModel", name := "played", desc := "(I)I" } : Jvm.MethodName)) ∈ WS := WS_t8 39 rfl rfl
theorem wd1849 : (Jvm.Cond.instanceMethod ({ cls := "OneStepMoreModel", name := "played", desc := "(I)I" } : Jvm.MethodName)) ∈ WS := WS_t8 40 rfl rfl
theorem wd1850 : (Jvm.Cond.selects "OneStepMoreModel" ({ cls := "OneStepMoreModel", name := "played", desc := "(I)I" } : Jvm.MethodName) ({ cls := "OneStepMoreModel", name := "played", desc := "(I)I" } : Jvm.MethodName)) ∈ WS := WS_t8 41 rfl rfl
theorem wd1851 : (Jvm.Cond.code ({ cls := "OneStepMoreModel", name := "played", desc := "(I)I" } : Jvm.MethodName) prog_13_method_100_code (3 : Nat) (Option.some Jvm.ClassFile.FieldType.int)) ∈ WS := WS_t8 42 rfl rfl
theorem wd1852 : (Jvm.Cond.methodLink "OneStepMoreModel" (399 : Nat) ({ cls := "OneStepMoreModel", name := "isPlayed", desc := "(I)Z" } : Jvm.MethodName)) ∈ WS := WS_t8 43 rfl rfl
theorem wd1854 : (Jvm.Cond.instanceMethod ({ cls := "OneStepMoreModel", name := "isPlayed", desc := "(I)Z" } : Jvm.MethodName)) ∈ WS := WS_t8 45 rfl rfl
theorem wd1855 : (Jvm.Cond.code ({ cls := "OneStepMoreModel", name := "isPlayed", desc := "(I)Z" } : Jvm.MethodName) prog_13_method_99_code (4 : Nat) (Option.some Jvm.ClassFile.FieldType.boolean)) ∈ WS := WS_t8 46 rfl rfl
theorem wd1856 : (Jvm.Cond.methodLink "OneStepMoreModel" (374 : Nat) ({ cls := "OneStepMoreModel", name := "stair", desc := "(II)Z" } : Jvm.MethodName)) ∈ WS := WS_t8 47 rfl rfl
theorem wd1857 : (Jvm.Cond.methodLink "OneStepMoreModel" (377 : Nat) ({ cls := "OneStepMoreModel", name := "height", desc := "(III)Z" } : Jvm.MethodName)) ∈ WS := WS_t8 48 rfl rfl
theorem wd1858 : (Jvm.Cond.methodLink "OneStepMoreModel" (380 : Nat) ({ cls := "OneStepMoreModel", name := "mark", desc := "(IIZ)Z" } : Jvm.MethodName)) ∈ WS := WS_t8 49 rfl rfl
theorem wd1859 : (Jvm.Cond.methodLink "OneStepMoreModel" (384 : Nat) ({ cls := "OneStepMoreModel", name := "rail", desc := "(II)Z" } : Jvm.MethodName)) ∈ WS := WS_t8 50 rfl rfl
theorem wd1860 : (Jvm.Cond.methodLink "OneStepMoreModel" (387 : Nat) ({ cls := "OneStepMoreModel", name := "person", desc := "(III)I" } : Jvm.MethodName)) ∈ WS := WS_t8 51 rfl rfl
theorem wd1861 : (Jvm.Cond.methodLink "OneStepMoreModel" (390 : Nat) ({ cls := "OneStepMoreModel", name := "begin", desc := "(III)I" } : Jvm.MethodName)) ∈ WS := WS_t8 52 rfl rfl
theorem wd1862 : (Jvm.Cond.methodLink "OneStepMoreModel" (393 : Nat) ({ cls := "OneStepMoreModel", name := "stop", desc := "()I" } : Jvm.MethodName)) ∈ WS := WS_t8 53 rfl rfl
theorem wd1863 : (Jvm.Cond.methodLink "OneStepMoreModel" (396 : Nat) ({ cls := "OneStepMoreModel", name := "areDone", desc := "(II)Z" } : Jvm.MethodName)) ∈ WS := WS_t8 54 rfl rfl
theorem wd1865 : (Jvm.Cond.instanceMethod ({ cls := "OneStepMoreModel", name := "areDone", desc := "(II)Z" } : Jvm.MethodName)) ∈ WS := WS_t8 56 rfl rfl
theorem wd1866 : (Jvm.Cond.code ({ cls := "OneStepMoreModel", name := "areDone", desc := "(II)Z" } : Jvm.MethodName) prog_13_method_98_code (5 : Nat) (Option.some Jvm.ClassFile.FieldType.boolean)) ∈ WS := WS_t8 57 rfl rfl
theorem wd1867 : (Jvm.Cond.methodLink "OneStepMoreModel" (368 : Nat) ({ cls := "OneStepMoreModel", name := "step", desc := "()I" } : Jvm.MethodName)) ∈ WS := WS_t8 58 rfl rfl
theorem wd1868 : (Jvm.Cond.methodLink "OneStepMoreModel" (371 : Nat) ({ cls := "OneStepMoreModel", name := "toe", desc := "()I" } : Jvm.MethodName)) ∈ WS := WS_t8 59 rfl rfl
theorem wd1869 : (Jvm.Cond.methodLink "OneStepMoreLaw" (93 : Nat) ({ cls := "OneStepMoreModel", name := "week", desc := "(II)I" } : Jvm.MethodName)) ∈ WS := WS_t8 60 rfl rfl
theorem wd1870 : (Jvm.Cond.instanceMethod ({ cls := "OneStepMoreModel", name := "week", desc := "(II)I" } : Jvm.MethodName)) ∈ WS := WS_t8 61 rfl rfl
theorem wd1871 : (Jvm.Cond.selects "OneStepMoreModel" ({ cls := "OneStepMoreModel", name := "week", desc := "(II)I" } : Jvm.MethodName) ({ cls := "OneStepMoreModel", name := "week", desc := "(II)I" } : Jvm.MethodName)) ∈ WS := WS_t8 62 rfl rfl
theorem wd1872 : (Jvm.Cond.code ({ cls := "OneStepMoreModel", name := "week", desc := "(II)I" } : Jvm.MethodName) prog_13_method_101_code (7 : Nat) (Option.some Jvm.ClassFile.FieldType.int)) ∈ WS := WS_t8 63 rfl rfl
theorem wd1873 : (Jvm.Cond.methodLink "OneStepMoreLaw" (101 : Nat) ({ cls := "OneStepMoreModel", name := "way", desc := "(I)I" } : Jvm.MethodName)) ∈ WS := WS_t8 64 rfl rfl
theorem wd1874 : (Jvm.Cond.instanceMethod ({ cls := "OneStepMoreModel", name := "way", desc := "(I)I" } : Jvm.MethodName)) ∈ WS := WS_t8 65 rfl rfl
theorem wd1875 : (Jvm.Cond.selects "OneStepMoreModel" ({ cls := "OneStepMoreModel", name := "way", desc := "(I)I" } : Jvm.MethodName) ({ cls := "OneStepMoreModel", name := "way", desc := "(I)I" } : Jvm.MethodName)) ∈ WS := WS_t8 66 rfl rfl
theorem wd1876 : (Jvm.Cond.code ({ cls := "OneStepMoreModel", name := "way", desc := "(I)I" } : Jvm.MethodName) prog_13_method_102_code (2 : Nat) (Option.some Jvm.ClassFile.FieldType.int)) ∈ WS := WS_t8 67 rfl rfl
theorem wd1877 : (Jvm.Cond.methodLink "OneStepMoreLaw" (105 : Nat) ({ cls := "OneStepMoreModel", name := "house", desc := "(II)I" } : Jvm.MethodName)) ∈ WS := WS_t8 68 rfl rfl
theorem wd1878 : (Jvm.Cond.instanceMethod ({ cls := "OneStepMoreModel", name := "house", desc := "(II)I" } : Jvm.MethodName)) ∈ WS := WS_t8 69 rfl rfl
theorem wd1879 : (Jvm.Cond.selects "OneStepMoreModel" ({ cls := "OneStepMoreModel", name := "house", desc := "(II)I" } : Jvm.MethodName) ({ cls := "OneStepMoreModel", name := "house", desc := "(II)I" } : Jvm.MethodName)) ∈ WS := WS_t8 70 rfl rfl
theorem wd1880 : (Jvm.Cond.code ({ cls := "OneStepMoreModel", name := "house", desc := "(II)I" } : Jvm.MethodName) prog_13_method_103_code (3 : Nat) (Option.some Jvm.ClassFile.FieldType.int)) ∈ WS := WS_t8 71 rfl rfl
theorem wd1881 : (Jvm.Cond.methodLink "OneStepMoreLaw" (113 : Nat) ({ cls := "OneStepMoreModel", name := "book", desc := "(II)I" } : Jvm.MethodName)) ∈ WS := WS_t8 72 rfl rfl
theorem wd1882 : (Jvm.Cond.instanceMethod ({ cls := "OneStepMoreModel", name := "book", desc := "(II)I" } : Jvm.MethodName)) ∈ WS := WS_t8 73 rfl rfl
theorem wd1883 : (Jvm.Cond.selects "OneStepMoreModel" ({ cls := "OneStepMoreModel", name := "book", desc := "(II)I" } : Jvm.MethodName) ({ cls := "OneStepMoreModel", name := "book", desc := "(II)I" } : Jvm.MethodName)) ∈ WS := WS_t8 74 rfl rfl
theorem wd1884 : (Jvm.Cond.code ({ cls := "OneStepMoreModel", name := "book", desc := "(II)I" } : Jvm.MethodName) prog_13_method_106_code (3 : Nat) (Option.some Jvm.ClassFile.FieldType.int)) ∈ WS := WS_t8 75 rfl rfl
theorem wd1885 : (Jvm.Cond.methodLink "OneStepMoreModel" (402 : Nat) ({ cls := "OneStepMoreModel", name := "shown", desc := "()I" } : Jvm.MethodName)) ∈ WS := WS_t8 76 rfl rfl
theorem wd1887 : (Jvm.Cond.instanceMethod ({ cls := "OneStepMoreModel", name := "shown", desc := "()I" } : Jvm.MethodName)) ∈ WS := WS_t8 78 rfl rfl
theorem wd1888 : (Jvm.Cond.code ({ cls := "OneStepMoreModel", name := "shown", desc := "()I" } : Jvm.MethodName) prog_13_method_104_code (1 : Nat) (Option.some Jvm.ClassFile.FieldType.int)) ∈ WS := WS_t8 79 rfl rfl
theorem wd1889 : (Jvm.Cond.methodLink "OneStepMoreModel" (405 : Nat) ({ cls := "OneStepMoreModel", name := "bookAt", desc := "(II)I" } : Jvm.MethodName)) ∈ WS := WS_t8 80 rfl rfl
theorem wd1891 : (Jvm.Cond.instanceMethod ({ cls := "OneStepMoreModel", name := "bookAt", desc := "(II)I" } : Jvm.MethodName)) ∈ WS := WS_t8 82 rfl rfl
theorem wd1892 : (Jvm.Cond.code ({ cls := "OneStepMoreModel", name := "bookAt", desc := "(II)I" } : Jvm.MethodName) prog_13_method_105_code (3 : Nat) (Option.some Jvm.ClassFile.FieldType.int)) ∈ WS := WS_t8 83 rfl rfl
theorem wd1893 : (Jvm.Cond.methodLink "OneStepMoreLaw" (118 : Nat) ({ cls := "OneStepMoreModel", name := "where", desc := "(IIIIIZ)J" } : Jvm.MethodName)) ∈ WS := WS_t8 84 rfl rfl
theorem wd1894 : (Jvm.Cond.instanceMethod ({ cls := "OneStepMoreModel", name := "where", desc := "(IIIIIZ)J" } : Jvm.MethodName)) ∈ WS := WS_t8 85 rfl rfl
theorem wd1895 : (Jvm.Cond.selects "OneStepMoreModel" ({ cls := "OneStepMoreModel", name := "where", desc := "(IIIIIZ)J" } : Jvm.MethodName) ({ cls := "OneStepMoreModel", name := "where", desc := "(IIIIIZ)J" } : Jvm.MethodName)) ∈ WS := WS_t8 86 rfl rfl
theorem wd1896 : (Jvm.Cond.code ({ cls := "OneStepMoreModel", name := "where", desc := "(IIIIIZ)J" } : Jvm.MethodName) prog_13_method_112_code (10 : Nat) (Option.some Jvm.ClassFile.FieldType.long)) ∈ WS := WS_t8 87 rfl rfl
theorem wd1897 : (Jvm.Cond.constantLong "OneStepMoreModel" (432 : Nat) (-1 : Int64)) ∈ WS := WS_t8 88 rfl rfl
theorem wd1898 : (Jvm.Cond.methodLink "OneStepMoreModel" (418 : Nat) ({ cls := "OneStepMoreModel", name := "start", desc := "(IZZ)V" } : Jvm.MethodName)) ∈ WS := WS_t8 89 rfl rfl
theorem wd1900 : (Jvm.Cond.instanceMethod ({ cls := "OneStepMoreModel", name := "start", desc := "(IZZ)V" } : Jvm.MethodName)) ∈ WS := WS_t8 91 rfl rfl
theorem wd1901 : (Jvm.Cond.code ({ cls := "OneStepMoreModel", name := "start", desc := "(IZZ)V" } : Jvm.MethodName) prog_13_method_108_code (5 : Nat) (Option.none : Option Jvm.ClassFile.FieldType)) ∈ WS := WS_t8 92 rfl rfl
theorem wd1902 : (Jvm.Cond.methodLink "OneStepMoreModel" (434 : Nat) ({ cls := "OneStepMoreModel", name := "goAll", desc := "(III)V" } : Jvm.MethodName)) ∈ WS := WS_t8 93 rfl rfl
theorem wd1904 : (Jvm.Cond.instanceMethod ({ cls := "OneStepMoreModel", name := "goAll", desc := "(III)V" } : Jvm.MethodName)) ∈ WS := WS_t8 95 rfl rfl
theorem wd1905 : (Jvm.Cond.code ({ cls := "OneStepMoreModel", name := "goAll", desc := "(III)V" } : Jvm.MethodName) prog_13_method_110_code (8 : Nat) (Option.none : Option Jvm.ClassFile.FieldType)) ∈ WS := WS_t8 96 rfl rfl
theorem wd1906 : (Jvm.Cond.methodLink "OneStepMoreModel" (408 : Nat) ({ cls := "OneStepMoreModel", name := "cell", desc := "(II)I" } : Jvm.MethodName)) ∈ WS := WS_t8 97 rfl rfl
theorem wd1907 : (Jvm.Cond.static ({ cls := "OneStepMoreModel", name := "cell", desc := "(II)I" } : Jvm.MethodName)) ∈ WS := WS_t8 98 rfl rfl
theorem wd1908 : (Jvm.Cond.code ({ cls := "OneStepMoreModel", name := "cell", desc := "(II)I" } : Jvm.MethodName) prog_13_method_107_code (2 : Nat) (Option.some Jvm.ClassFile.FieldType.int)) ∈ WS := WS_t8 99 rfl rfl
theorem wd1909 : (Jvm.Cond.methodLink "OneStepMoreModel" (414 : Nat) ({ cls := "OneStepMoreModel", name := "goOn", desc := "(IIIIII)V" } : Jvm.MethodName)) ∈ WS := WS_t8 100 rfl rfl
theorem wd1911 : (Jvm.Cond.instanceMethod ({ cls := "OneStepMoreModel", name := "goOn", desc := "(IIIIII)V" } : Jvm.MethodName)) ∈ WS := WS_t8 102 rfl rfl
theorem wd1912 : (Jvm.Cond.code ({ cls := "OneStepMoreModel", name := "goOn", desc := "(IIIIII)V" } : Jvm.MethodName) prog_13_method_109_code (10 : Nat) (Option.none : Option Jvm.ClassFile.FieldType)) ∈ WS := WS_t8 103 rfl rfl
theorem wd1913 : (Jvm.Cond.methodLink "OneStepMoreModel" (428 : Nat) ({ cls := "OneStepMoreModel", name := "tenTo", desc := "(I)J" } : Jvm.MethodName)) ∈ WS := WS_t8 104 rfl rfl
theorem wd1914 : (Jvm.Cond.static ({ cls := "OneStepMoreModel", name := "tenTo", desc := "(I)J" } : Jvm.MethodName)) ∈ WS := WS_t8 105 rfl rfl
theorem wd1915 : (Jvm.Cond.code ({ cls := "OneStepMoreModel", name := "tenTo", desc := "(I)J" } : Jvm.MethodName) prog_13_method_5_code (4 : Nat) (Option.some Jvm.ClassFile.FieldType.long)) ∈ WS := WS_t8 106 rfl rfl
theorem wd1916 : (Jvm.Cond.constantLong "OneStepMoreModel" (60 : Nat) (10 : Int64)) ∈ WS := WS_t8 107 rfl rfl
theorem wd1917 : (Jvm.Cond.methodLink "OneStepMoreModel" (437 : Nat) ({ cls := "OneStepMoreModel", name := "part", desc := "(JJZ)J" } : Jvm.MethodName)) ∈ WS := WS_t8 108 rfl rfl
theorem wd1918 : (Jvm.Cond.static ({ cls := "OneStepMoreModel", name := "part", desc := "(JJZ)J" } : Jvm.MethodName)) ∈ WS := WS_t8 109 rfl rfl
theorem wd1919 : (Jvm.Cond.code ({ cls := "OneStepMoreModel", name := "part", desc := "(JJZ)J" } : Jvm.MethodName) prog_13_method_7_code (5 : Nat) (Option.some Jvm.ClassFile.FieldType.long)) ∈ WS := WS_t8 110 rfl rfl
theorem wd1920 : (Jvm.Cond.methodLink "OneStepMoreModel" (62 : Nat) ({ cls := "OneStepMoreModel", name := "common", desc := "(JJ)J" } : Jvm.MethodName)) ∈ WS := WS_t8 111 rfl rfl
theorem wd1921 : (Jvm.Cond.static ({ cls := "OneStepMoreModel", name := "common", desc := "(JJ)J" } : Jvm.MethodName)) ∈ WS := WS_t8 112 rfl rfl
theorem wd1922 : (Jvm.Cond.code ({ cls := "OneStepMoreModel", name := "common", desc := "(JJ)J" } : Jvm.MethodName) prog_13_method_6_code (10 : Nat) (Option.some Jvm.ClassFile.FieldType.long)) ∈ WS := WS_t8 113 rfl rfl
theorem wd1923 : (Jvm.Cond.methodLink "OneStepMoreLaw" (123 : Nat) ({ cls := "OneStepMoreModel", name := "cost", desc := "(IIIIZ)J" } : Jvm.MethodName)) ∈ WS := WS_t8 114 rfl rfl
theorem wd1924 : (Jvm.Cond.instanceMethod ({ cls := "OneStepMoreModel", name := "cost", desc := "(IIIIZ)J" } : Jvm.MethodName)) ∈ WS := WS_t8 115 rfl rfl
theorem wd1925 : (Jvm.Cond.selects "OneStepMoreModel" ({ cls := "OneStepMoreModel", name := "cost", desc := "(IIIIZ)J" } : Jvm.MethodName) ({ cls := "OneStepMoreModel", name := "cost", desc := "(IIIIZ)J" } : Jvm.MethodName)) ∈ WS := WS_t8 116 rfl rfl
theorem wd1926 : (Jvm.Cond.code ({ cls := "OneStepMoreModel", name := "cost", desc := "(IIIIZ)J" } : Jvm.MethodName) prog_13_method_113_code (6 : Nat) (Option.some Jvm.ClassFile.FieldType.long)) ∈ WS := WS_t8 117 rfl rfl
theorem wd1927 : (Jvm.Cond.methodLink "OneStepMoreModel" (441 : Nat) ({ cls := "OneStepMoreModel", name := "reckon", desc := "(IIIII)V" } : Jvm.MethodName)) ∈ WS := WS_t8 118 rfl rfl
theorem wd1929 : (Jvm.Cond.instanceMethod ({ cls := "OneStepMoreModel", name := "reckon", desc := "(IIIII)V" } : Jvm.MethodName)) ∈ WS := WS_t8 120 rfl rfl
theorem wd1930 : (Jvm.Cond.code ({ cls := "OneStepMoreModel", name := "reckon", desc := "(IIIII)V" } : Jvm.MethodName) prog_13_method_111_code (18 : Nat) (Option.none : Option Jvm.ClassFile.FieldType)) ∈ WS := WS_t8 121 rfl rfl
theorem wd1931 : (Jvm.Cond.methodLink "OneStepMoreLaw" (127 : Nat) ({ cls := "OneStepMoreModel", name := "from", desc := "(III)I" } : Jvm.MethodName)) ∈ WS := WS_t8 122 rfl rfl
theorem wd1932 : (Jvm.Cond.instanceMethod ({ cls := "OneStepMoreModel", name := "from", desc := "(III)I" } : Jvm.MethodName)) ∈ WS := WS_t8 123 rfl rfl
theorem wd1933 : (Jvm.Cond.selects "OneStepMoreModel" ({ cls := "OneStepMoreModel", name := "from", desc := "(III)I" } : Jvm.MethodName) ({ cls := "OneStepMoreModel", name := "from", desc := "(III)I" } : Jvm.MethodName)) ∈ WS := WS_t8 124 rfl rfl
theorem wd1934 : (Jvm.Cond.code ({ cls := "OneStepMoreModel", name := "from", desc := "(III)I" } : Jvm.MethodName) prog_13_method_115_code (4 : Nat) (Option.some Jvm.ClassFile.FieldType.int)) ∈ WS := WS_t8 125 rfl rfl
theorem wd1935 : (Jvm.Cond.methodLink "OneStepMoreModel" (450 : Nat) ({ cls := "OneStepMoreModel", name := "best", desc := "(IIII)I" } : Jvm.MethodName)) ∈ WS := WS_t8 126 rfl rfl
theorem wd1937 : (Jvm.Cond.instanceMethod ({ cls := "OneStepMoreModel", name := "best", desc := "(IIII)I" } : Jvm.MethodName)) ∈ WS := WS_t8 128 rfl rfl
theorem wd1938 : (Jvm.Cond.code ({ cls := "OneStepMoreModel", name := "best", desc := "(IIII)I" } : Jvm.MethodName) prog_13_method_114_code (7 : Nat) (Option.some Jvm.ClassFile.FieldType.int)) ∈ WS := WS_t8 129 rfl rfl
theorem wd1939 : (Jvm.Cond.methodLink "OneStepMoreLaw" (131 : Nat) ({ cls := "OneStepMoreModel", name := "worth", desc := "(III)I" } : Jvm.MethodName)) ∈ WS := WS_t8 130 rfl rfl
theorem wd1940 : (Jvm.Cond.instanceMethod ({ cls := "OneStepMoreModel", name := "worth", desc := "(III)I" } : Jvm.MethodName)) ∈ WS := WS_t8 131 rfl rfl
theorem wd1941 : (Jvm.Cond.selects "OneStepMoreModel" ({ cls := "OneStepMoreModel", name := "worth", desc := "(III)I" } : Jvm.MethodName) ({ cls := "OneStepMoreModel", name := "worth", desc := "(III)I" } : Jvm.MethodName)) ∈ WS := WS_t8 132 rfl rfl
theorem wd1942 : (Jvm.Cond.code ({ cls := "OneStepMoreModel", name := "worth", desc := "(III)I" } : Jvm.MethodName) prog_13_method_116_code (9 : Nat) (Option.some Jvm.ClassFile.FieldType.int)) ∈ WS := WS_t8 133 rfl rfl
theorem wd1943 : (Jvm.Cond.methodLink "OneStepMoreLaw" (135 : Nat) ({ cls := "OneStepMoreModel", name := "goes", desc := "(II)I" } : Jvm.MethodName)) ∈ WS := WS_t8 134 rfl rfl
theorem wd1944 : (Jvm.Cond.instanceMethod ({ cls := "OneStepMoreModel", name := "goes", desc := "(II)I" } : Jvm.MethodName)) ∈ WS := WS_t8 135 rfl rfl
theorem wd1945 : (Jvm.Cond.selects "OneStepMoreModel" ({ cls := "OneStepMoreModel", name := "goes", desc := "(II)I" } : Jvm.MethodName) ({ cls := "OneStepMoreModel", name := "goes", desc := "(II)I" } : Jvm.MethodName)) ∈ WS := WS_t8 136 rfl rfl
theorem wd1946 : (Jvm.Cond.code ({ cls := "OneStepMoreModel", name := "goes", desc := "(II)I" } : Jvm.MethodName) prog_13_method_117_code (6 : Nat) (Option.some Jvm.ClassFile.FieldType.int)) ∈ WS := WS_t8 137 rfl rfl
theorem wd1947 : (Jvm.Cond.constantLong "OneStepMoreModel" (453 : Nat) (2 : Int64)) ∈ WS := WS_t8 138 rfl rfl
theorem wd1948 : (Jvm.Cond.methodLink "OneStepMoreLaw" (140 : Nat) ({ cls := "OneStepMoreModel", name := "lamp", desc := "(IIII)I" } : Jvm.MethodName)) ∈ WS := WS_t8 139 rfl rfl
theorem wd1949 : (Jvm.Cond.instanceMethod ({ cls := "OneStepMoreModel", name := "lamp", desc := "(IIII)I" } : Jvm.MethodName)) ∈ WS := WS_t8 140 rfl rfl
theorem wd1950 : (Jvm.Cond.selects "OneStepMoreModel" ({ cls := "OneStepMoreModel", name := "lamp", desc := "(IIII)I" } : Jvm.MethodName) ({ cls := "OneStepMoreModel", name := "lamp", desc := "(IIII)I" } : Jvm.MethodName)) ∈ WS := WS_t8 141 rfl rfl
theorem wd1951 : (Jvm.Cond.code ({ cls := "OneStepMoreModel", name := "lamp", desc := "(IIII)I" } : Jvm.MethodName) prog_13_method_119_code (9 : Nat) (Option.some Jvm.ClassFile.FieldType.int)) ∈ WS := WS_t8 142 rfl rfl
theorem wd1952 : (Jvm.Cond.methodLink "OneStepMoreModel" (455 : Nat) ({ cls := "OneStepMoreModel", name := "isNoLess", desc := "(JJJJ)Z" } : Jvm.MethodName)) ∈ WS := WS_t8 143 rfl rfl
theorem wd1953 : (Jvm.Cond.static ({ cls := "OneStepMoreModel", name := "isNoLess", desc := "(JJJJ)Z" } : Jvm.MethodName)) ∈ WS := WS_t8 144 rfl rfl
theorem wd1954 : (Jvm.Cond.code ({ cls := "OneStepMoreModel", name := "isNoLess", desc := "(JJJJ)Z" } : Jvm.MethodName) prog_13_method_118_code (21 : Nat) (Option.some Jvm.ClassFile.FieldType.boolean)) ∈ WS := WS_t8 145 rfl rfl
theorem wd1955 : (Jvm.Cond.methodLink "OneStepMoreLaw" (145 : Nat) ({ cls := "OneStepMoreModel", name := "which", desc := "(IIIZ)J" } : Jvm.MethodName)) ∈ WS := WS_t8 146 rfl rfl
theorem wd1956 : (Jvm.Cond.instanceMethod ({ cls := "OneStepMoreModel", name := "which", desc := "(IIIZ)J" } : Jvm.MethodName)) ∈ WS := WS_t8 147 rfl rfl
theorem wd1957 : (Jvm.Cond.selects "OneStepMoreModel" ({ cls := "OneStepMoreModel", name := "which", desc := "(IIIZ)J" } : Jvm.MethodName) ({ cls := "OneStepMoreModel", name := "which", desc := "(IIIZ)J" } : Jvm.MethodName)) ∈ WS := WS_t8 148 rfl rfl
theorem wd1958 : (Jvm.Cond.code ({ cls := "OneStepMoreModel", name := "which", desc := "(IIIZ)J" } : Jvm.MethodName) prog_13_method_121_code (8 : Nat) (Option.some Jvm.ClassFile.FieldType.long)) ∈ WS := WS_t8 149 rfl rfl
theorem wd1959 : (Jvm.Cond.methodLink "OneStepMoreModel" (459 : Nat) ({ cls := "OneStepMoreModel", name := "jarred", desc := "(IIIZ)J" } : Jvm.MethodName)) ∈ WS := WS_t8 150 rfl rfl
theorem wd1961 : (Jvm.Cond.instanceMethod ({ cls := "OneStepMoreModel", name := "jarred", desc := "(IIIZ)J" } : Jvm.MethodName)) ∈ WS := WS_t8 152 rfl rfl
theorem wd1962 : (Jvm.Cond.code ({ cls := "OneStepMoreModel", name := "jarred", desc := "(IIIZ)J" } : Jvm.MethodName) prog_13_method_120_code (5 : Nat) (Option.some Jvm.ClassFile.FieldType.long)) ∈ WS := WS_t8 153 rfl rfl
theorem wd1963 : (Jvm.Cond.methodLink "OneStepMoreLaw" (149 : Nat) ({ cls := "OneStepMoreModel", name := "whether", desc := "(IIIZ)J" } : Jvm.MethodName)) ∈ WS := WS_t8 154 rfl rfl
theorem wd1964 : (Jvm.Cond.instanceMethod ({ cls := "OneStepMoreModel", name := "whether", desc := "(IIIZ)J" } : Jvm.MethodName)) ∈ WS := WS_t8 155 rfl rfl
theorem wd1965 : (Jvm.Cond.selects "OneStepMoreModel" ({ cls := "OneStepMoreModel", name := "whether", desc := "(IIIZ)J" } : Jvm.MethodName) ({ cls := "OneStepMoreModel", name := "whether", desc := "(IIIZ)J" } : Jvm.MethodName)) ∈ WS := WS_t8 156 rfl rfl
theorem wd1966 : (Jvm.Cond.code ({ cls := "OneStepMoreModel", name := "whether", desc := "(IIIZ)J" } : Jvm.MethodName) prog_13_method_122_code (7 : Nat) (Option.some Jvm.ClassFile.FieldType.long)) ∈ WS := WS_t8 157 rfl rfl
theorem wd1967 : (Jvm.Cond.methodLink "OneStepMoreLaw" (153 : Nat) ({ cls := "OneStepMoreModel", name := "sure", desc := "(IIIZ)J" } : Jvm.MethodName)) ∈ WS := WS_t8 158 rfl rfl
theorem wd1968 : (Jvm.Cond.instanceMethod ({ cls := "OneStepMoreModel", name := "sure", desc := "(IIIZ)J" } : Jvm.MethodName)) ∈ WS := WS_t8 159 rfl rfl
theorem wd1969 : (Jvm.Cond.selects "OneStepMoreModel" ({ cls := "OneStepMoreModel", name := "sure", desc := "(IIIZ)J" } : Jvm.MethodName) ({ cls := "OneStepMoreModel", name := "sure", desc := "(IIIZ)J" } : Jvm.MethodName)) ∈ WS := WS_t8 160 rfl rfl
theorem wd1970 : (Jvm.Cond.code ({ cls := "OneStepMoreModel", name := "sure", desc := "(IIIZ)J" } : Jvm.MethodName) prog_13_method_123_code (8 : Nat) (Option.some Jvm.ClassFile.FieldType.long)) ∈ WS := WS_t8 161 rfl rfl
theorem wd1971 : (Jvm.Cond.methodLink "OneStepMoreLaw" (158 : Nat) ({ cls := "OneStepMoreModel", name := "average", desc := "(IIZ)I" } : Jvm.MethodName)) ∈ WS := WS_t8 162 rfl rfl
theorem wd1972 : (Jvm.Cond.instanceMethod ({ cls := "OneStepMoreModel", name := "average", desc := "(IIZ)I" } : Jvm.MethodName)) ∈ WS := WS_t8 163 rfl rfl
theorem wd1973 : (Jvm.Cond.selects "OneStepMoreModel" ({ cls := "OneStepMoreModel", name := "average", desc := "(IIZ)I" } : Jvm.MethodName) ({ cls := "OneStepMoreModel", name := "average", desc := "(IIZ)I" } : Jvm.MethodName)) ∈ WS := WS_t8 164 rfl rfl
theorem wd1974 : (Jvm.Cond.code ({ cls := "OneStepMoreModel", name := "average", desc := "(IIZ)I" } : Jvm.MethodName) prog_13_method_124_code (4 : Nat) (Option.some Jvm.ClassFile.FieldType.int)) ∈ WS := WS_t8 165 rfl rfl
theorem wd1975 : (Jvm.Cond.methodLink "OneStepMoreLaw" (162 : Nat) ({ cls := "OneStepMoreModel", name := "tally", desc := "(II)I" } : Jvm.MethodName)) ∈ WS := WS_t8 166 rfl rfl
theorem wd1976 : (Jvm.Cond.instanceMethod ({ cls := "OneStepMoreModel", name := "tally", desc := "(II)I" } : Jvm.MethodName)) ∈ WS := WS_t8 167 rfl rfl
theorem wd1977 : (Jvm.Cond.selects "OneStepMoreModel" ({ cls := "OneStepMoreModel", name := "tally", desc := "(II)I" } : Jvm.MethodName) ({ cls := "OneStepMoreModel", name := "tally", desc := "(II)I" } : Jvm.MethodName)) ∈ WS := WS_t8 168 rfl rfl
theorem wd1978 : (Jvm.Cond.code ({ cls := "OneStepMoreModel", name := "tally", desc := "(II)I" } : Jvm.MethodName) prog_13_method_125_code (6 : Nat) (Option.some Jvm.ClassFile.FieldType.int)) ∈ WS := WS_t8 169 rfl rfl
theorem wd1979 : (Jvm.Cond.methodLink "OneStepMoreLaw" (166 : Nat) ({ cls := "OneStepMoreModel", name := "legs", desc := "(II)I" } : Jvm.MethodName)) ∈ WS := WS_t8 170 rfl rfl
theorem wd1980 : (Jvm.Cond.instanceMethod ({ cls := "OneStepMoreModel", name := "legs", desc := "(II)I" } : Jvm.MethodName)) ∈ WS := WS_t8 171 rfl rfl
theorem wd1981 : (Jvm.Cond.selects "OneStepMoreModel" ({ cls := "OneStepMoreModel", name := "legs", desc := "(II)I" } : Jvm.MethodName) ({ cls := "OneStepMoreModel", name := "legs", desc := "(II)I" } : Jvm.MethodName)) ∈ WS := WS_t8 172 rfl rfl
theorem wd1982 : (Jvm.Cond.code ({ cls := "OneStepMoreModel", name := "legs", desc := "(II)I" } : Jvm.MethodName) prog_13_method_127_code (4 : Nat) (Option.some Jvm.ClassFile.FieldType.int)) ∈ WS := WS_t8 173 rfl rfl
theorem wd1983 : (Jvm.Cond.methodLink "OneStepMoreModel" (463 : Nat) ({ cls := "OneStepMoreModel", name := "legsOf", desc := "(I)I" } : Jvm.MethodName)) ∈ WS := WS_t8 174 rfl rfl
theorem wd1985 : (Jvm.Cond.instanceMethod ({ cls := "OneStepMoreModel", name := "legsOf", desc := "(I)I" } : Jvm.MethodName)) ∈ WS := WS_t8 176 rfl rfl
theorem wd1986 : (Jvm.Cond.code ({ cls := "OneStepMoreModel", name := "legsOf", desc := "(I)I" } : Jvm.MethodName) prog_13_method_126_code (9 : Nat) (Option.some Jvm.ClassFile.FieldType.int)) ∈ WS := WS_t8 177 rfl rfl
theorem wd1987 : (Jvm.Cond.methodLink "OneStepMoreLaw" (170 : Nat) ({ cls := "OneStepMoreModel", name := "trippers", desc := "(III)I" } : Jvm.MethodName)) ∈ WS := WS_t8 178 rfl rfl
theorem wd1988 : (Jvm.Cond.instanceMethod ({ cls := "OneStepMoreModel", name := "trippers", desc := "(III)I" } : Jvm.MethodName)) ∈ WS := WS_t8 179 rfl rfl
theorem wd1989 : (Jvm.Cond.selects "OneStepMoreModel" ({ cls := "OneStepMoreModel", name := "trippers", desc := "(III)I" } : Jvm.MethodName) ({ cls := "OneStepMoreModel", name := "trippers", desc := "(III)I" } : Jvm.MethodName)) ∈ WS := WS_t8 180 rfl rfl
theorem wd1990 : (Jvm.Cond.code ({ cls := "OneStepMoreModel", name := "trippers", desc := "(III)I" } : Jvm.MethodName) prog_13_method_128_code (6 : Nat) (Option.some Jvm.ClassFile.FieldType.int)) ∈ WS := WS_t8 181 rfl rfl
theorem wd1991 : (Jvm.Cond.methodLink "OneStepMoreLaw" (175 : Nat) ({ cls := "OneStepMoreModel", name := "seen", desc := "(IIIZ)I" } : Jvm.MethodName)) ∈ WS := WS_t8 182 rfl rfl
theorem wd1992 : (Jvm.Cond.instanceMethod ({ cls := "OneStepMoreModel", name := "seen", desc := "(IIIZ)I" } : Jvm.MethodName)) ∈ WS := WS_t8 183 rfl rfl
theorem wd1993 : (Jvm.Cond.selects "OneStepMoreModel" ({ cls := "OneStepMoreModel", name := "seen", desc := "(IIIZ)I" } : Jvm.MethodName) ({ cls := "OneStepMoreModel", name := "seen", desc := "(IIIZ)I" } : Jvm.MethodName)) ∈ WS := WS_t8 184 rfl rfl
theorem wd1994 : (Jvm.Cond.code ({ cls := "OneStepMoreModel", name := "seen", desc := "(IIIZ)I" } : Jvm.MethodName) prog_13_method_129_code (6 : Nat) (Option.some Jvm.ClassFile.FieldType.int)) ∈ WS := WS_t8 185 rfl rfl
theorem wd1995 : (Jvm.Cond.methodLink "OneStepMoreLaw" (179 : Nat) ({ cls := "OneStepMoreModel", name := "laws", desc := "()I" } : Jvm.MethodName)) ∈ WS := WS_t8 186 rfl rfl
theorem wd1996 : (Jvm.Cond.instanceMethod ({ cls := "OneStepMoreModel", name := "laws", desc := "()I" } : Jvm.MethodName)) ∈ WS := WS_t8 187 rfl rfl
theorem wd1997 : (Jvm.Cond.selects "OneStepMoreModel" ({ cls := "OneStepMoreModel", name := "laws", desc := "()I" } : Jvm.MethodName) ({ cls := "OneStepMoreModel", name := "laws", desc := "()I" } : Jvm.MethodName)) ∈ WS := WS_t8 188 rfl rfl
theorem wd1998 : (Jvm.Cond.code ({ cls := "OneStepMoreModel", name := "laws", desc := "()I" } : Jvm.MethodName) prog_13_method_131_code (3 : Nat) (Option.some Jvm.ClassFile.FieldType.int)) ∈ WS := WS_t8 189 rfl rfl
theorem wd1999 : (Jvm.Cond.methodLink "OneStepMoreModel" (466 : Nat) ({ cls := "OneStepMoreModel", name := "isSeenBy", desc := "(I)Z" } : Jvm.MethodName)) ∈ WS := WS_t8 190 rfl rfl
theorem wd2001 : (Jvm.Cond.instanceMethod ({ cls := "OneStepMoreModel", name := "isSeenBy", desc := "(I)Z" } : Jvm.MethodName)) ∈ WS := WS_t8 192 rfl rfl
theorem wd2002 : (Jvm.Cond.code ({ cls := "OneStepMoreModel", name := "isSeenBy", desc := "(I)Z" } : Jvm.MethodName) prog_13_method_130_code (6 : Nat) (Option.some Jvm.ClassFile.FieldType.boolean)) ∈ WS := WS_t8 193 rfl rfl
theorem wd2003 : (Jvm.Cond.methodLink "OneStepMoreLaw" (183 : Nat) ({ cls := "OneStepMoreModel", name := "alike", desc := "(IIZ)I" } : Jvm.MethodName)) ∈ WS := WS_t8 194 rfl rfl
theorem wd2004 : (Jvm.Cond.instanceMethod ({ cls := "OneStepMoreModel", name := "alike", desc := "(IIZ)I" } : Jvm.MethodName)) ∈ WS := WS_t8 195 rfl rfl
theorem wd2005 : (Jvm.Cond.selects "OneStepMoreModel" ({ cls := "OneStepMoreModel", name := "alike", desc := "(IIZ)I" } : Jvm.MethodName) ({ cls := "OneStepMoreModel", name := "alike", desc := "(IIZ)I" } : Jvm.MethodName)) ∈ WS := WS_t8 196 rfl rfl
theorem wd2006 : (Jvm.Cond.code ({ cls := "OneStepMoreModel", name := "alike", desc := "(IIZ)I" } : Jvm.MethodName) prog_13_method_136_code (7 : Nat) (Option.some Jvm.ClassFile.FieldType.int)) ∈ WS := WS_t8 197 rfl rfl
theorem wd2007 : (Jvm.Cond.methodLink "OneStepMoreModel" (481 : Nat) ({ cls := "OneStepMoreModel", name := "findWork", desc := "(IZ)V" } : Jvm.MethodName)) ∈ WS := WS_t8 198 rfl rfl
theorem wd2009 : (Jvm.Cond.instanceMethod ({ cls := "OneStepMoreModel", name := "findWork", desc := "(IZ)V" } : Jvm.MethodName)) ∈ WS := WS_t8 200 rfl rfl
theorem wd2010 : (Jvm.Cond.code ({ cls := "OneStepMoreModel", name := "findWork", desc := "(IZ)V" } : Jvm.MethodName) prog_13_method_135_code (8 : Nat) (Option.none : Option Jvm.ClassFile.FieldType)) ∈ WS := WS_t8 201 rfl rfl
theorem wd2011 : (Jvm.Cond.constant "OneStepMoreModel" (469 : Nat) (1000000 : Int32)) ∈ WS := WS_t8 202 rfl rfl
theorem wd2012 : (Jvm.Cond.methodLink "OneStepMoreModel" (477 : Nat) ({ cls := "OneStepMoreModel", name := "workBy", desc := "(IIIIZ)I" } : Jvm.MethodName)) ∈ WS := WS_t8 203 rfl rfl
theorem wd2014 : (Jvm.Cond.instanceMethod ({ cls := "OneStepMoreModel", name := "workBy", desc := "(IIIIZ)I" } : Jvm.MethodName)) ∈ WS := WS_t8 205 rfl rfl
theorem wd2015 : (Jvm.Cond.code ({ cls := "OneStepMoreModel", name := "workBy", desc := "(IIIIZ)I" } : Jvm.MethodName) prog_13_method_134_code (7 : Nat) (Option.some Jvm.ClassFile.FieldType.int)) ∈ WS := WS_t8 206 rfl rfl
theorem wd2016 : (Jvm.Cond.methodLink "OneStepMoreModel" (470 : Nat) ({ cls := "OneStepMoreModel", name := "isSmooth", desc := "(IIII)Z" } : Jvm.MethodName)) ∈ WS := WS_t8 207 rfl rfl
theorem wd2018 : (Jvm.Cond.instanceMethod ({ cls := "OneStepMoreModel", name := "isSmooth", desc := "(IIII)Z" } : Jvm.MethodName)) ∈ WS := WS_t8 209 rfl rfl
theorem wd2019 : (Jvm.Cond.code ({ cls := "OneStepMoreModel", name := "isSmooth", desc := "(IIII)Z" } : Jvm.MethodName) prog_13_method_132_code (6 : Nat) (Option.some Jvm.ClassFile.FieldType.boolean)) ∈ WS := WS_t8 210 rfl rfl
theorem wd2020 : (Jvm.Cond.methodLink "OneStepMoreModel" (473 : Nat) ({ cls := "OneStepMoreModel", name := "workOf", desc := "(IIIZ)I" } : Jvm.MethodName)) ∈ WS := WS_t8 211 rfl rfl
theorem wd2022 : (Jvm.Cond.instanceMethod ({ cls := "OneStepMoreModel", name := "workOf", desc := "(IIIZ)I" } : Jvm.MethodName)) ∈ WS := WS_t8 213 rfl rfl
theorem wd2023 : (Jvm.Cond.code ({ cls := "OneStepMoreModel", name := "workOf", desc := "(IIIZ)I" } : Jvm.MethodName) prog_13_method_133_code (6 : Nat) (Option.some Jvm.ClassFile.FieldType.int)) ∈ WS := WS_t8 214 rfl rfl
theorem wd2024 : (Jvm.Cond.methodLink "OneStepMoreLaw" (187 : Nat) ({ cls := "OneStepMoreModel", name := "image", desc := "()I" } : Jvm.MethodName)) ∈ WS := WS_t8 215 rfl rfl
theorem wd2025 : (Jvm.Cond.instanceMethod ({ cls := "OneStepMoreModel", name := "image", desc := "()I" } : Jvm.MethodName)) ∈ WS := WS_t8 216 rfl rfl
theorem wd2026 : (Jvm.Cond.selects "OneStepMoreModel" ({ cls := "OneStepMoreModel", name := "image", desc := "()I" } : Jvm.MethodName) ({ cls := "OneStepMoreModel", name := "image", desc := "()I" } : Jvm.MethodName)) ∈ WS := WS_t8 217 rfl rfl
theorem wd2027 : (Jvm.Cond.code ({ cls := "OneStepMoreModel", name := "image", desc := "()I" } : Jvm.MethodName) prog_13_method_137_code (1 : Nat) (Option.some Jvm.ClassFile.FieldType.int)) ∈ WS := WS_t8 218 rfl rfl
theorem wd2028 : (Jvm.Cond.methodLink "OneStepMoreLaw" (191 : Nat) ({ cls := "OneStepMoreModel", name := "back", desc := "()I" } : Jvm.MethodName)) ∈ WS := WS_t8 219 rfl rfl
theorem wd2029 : (Jvm.Cond.instanceMethod ({ cls := "OneStepMoreModel", name := "back", desc := "()I" } : Jvm.MethodName)) ∈ WS := WS_t8 220 rfl rfl
theorem wd2030 : (Jvm.Cond.selects "OneStepMoreModel" ({ cls := "OneStepMoreModel", name := "back", desc := "()I" } : Jvm.MethodName) ({ cls := "OneStepMoreModel", name := "back", desc := "()I" } : Jvm.MethodName)) ∈ WS := WS_t8 221 rfl rfl
theorem wd2031 : (Jvm.Cond.code ({ cls := "OneStepMoreModel", name := "back", desc := "()I" } : Jvm.MethodName) prog_13_method_138_code (1 : Nat) (Option.some Jvm.ClassFile.FieldType.int)) ∈ WS := WS_t8 222 rfl rfl
theorem wd2032 : (Jvm.Cond.methodLink "OneStepMoreLaw" (195 : Nat) ({ cls := "OneStepMoreModel", name := "about", desc := "(I)I" } : Jvm.MethodName)) ∈ WS := WS_t8 223 rfl rfl
theorem wd2033 : (Jvm.Cond.instanceMethod ({ cls := "OneStepMoreModel", name := "about", desc := "(I)I" } : Jvm.MethodName)) ∈ WS := WS_t8 224 rfl rfl
theorem wd2034 : (Jvm.Cond.selects "OneStepMoreModel" ({ cls := "OneStepMoreModel", name := "about", desc := "(I)I" } : Jvm.MethodName) ({ cls := "OneStepMoreModel", name := "about", desc := "(I)I" } : Jvm.MethodName)) ∈ WS := WS_t8 225 rfl rfl
theorem wd2035 : (Jvm.Cond.code ({ cls := "OneStepMoreModel", name := "about", desc := "(I)I" } : Jvm.MethodName) prog_13_method_139_code (2 : Nat) (Option.some Jvm.ClassFile.FieldType.int)) ∈ WS := WS_t8 226 rfl rfl
theorem wd2036 : (Jvm.Cond.fieldLink "java/lang/String" (9 : Nat) "java/lang/String" "value" "[B") ∈ WS := WS_t8 227 rfl rfl
theorem wd2037 : (Jvm.Cond.fieldLink "java/lang/String" (15 : Nat) "java/lang/String" "coder" "B") ∈ WS := WS_t8 228 rfl rfl
theorem nd782 : (Jvm.Cond.fieldLinkNest "OneStepMore$Reader" (110 : Nat) "OneStepMore" "SHAPES" "[I" "OneStepMore") ∈ NW := NW_t3 173 rfl rfl
theorem nd1146 : (Jvm.Cond.fieldLinkNest "OneStepMore$Mind" (140 : Nat) "OneStepMore" "POWERS" "[J" "OneStepMore") ∈ NW := NW_t5 57 rfl rfl
theorem nd312 : (Jvm.Cond.methodLinkNest "OneStepMore" (24 : Nat) ({ cls := "OneStepMore$Tape", name := "<init>", desc := "()V" } : Jvm.MethodName) "OneStepMore") ∈ NW := NW_t1 183 rfl rfl
theorem nd159 : (Jvm.Cond.methodLinkNest "OneStepMore" (9 : Nat) ({ cls := "OneStepMore$Laws", name := "<init>", desc := "()V" } : Jvm.MethodName) "OneStepMore") ∈ NW := NW_t1 30 rfl rfl
theorem nd942 : (Jvm.Cond.methodLinkNest "OneStepMore$House" (35 : Nat) ({ cls := "OneStepMore", name := "cell", desc := "([II)I" } : Jvm.MethodName) "OneStepMore") ∈ NW := NW_t4 93 rfl rfl
theorem nd1357 : (Jvm.Cond.methodLinkNest "OneStepMore$House" (39 : Nat) ({ cls := "OneStepMore", name := "copy", desc := "([I[I)V" } : Jvm.MethodName) "OneStepMore") ∈ NW := NW_t6 28 rfl rfl
theorem nd900 : (Jvm.Cond.methodLinkNest "OneStepMore$Laws" (31 : Nat) ({ cls := "OneStepMore", name := "cell", desc := "([II)I" } : Jvm.MethodName) "OneStepMore") ∈ NW := NW_t4 51 rfl rfl
theorem nd919 : (Jvm.Cond.methodLinkNest "OneStepMore$Laws" (67 : Nat) ({ cls := "OneStepMore", name := "between", desc := "(III)I" } : Jvm.MethodName) "OneStepMore") ∈ NW := NW_t4 70 rfl rfl
theorem nd913 : (Jvm.Cond.methodLinkNest "OneStepMore$Laws" (87 : Nat) ({ cls := "OneStepMore", name := "put", desc := "([III)V" } : Jvm.MethodName) "OneStepMore") ∈ NW := NW_t4 64 rfl rfl
theorem nd1323 : (Jvm.Cond.methodLinkNest "OneStepMore$Leveller" (45 : Nat) ({ cls := "OneStepMore", name := "cell", desc := "([II)I" } : Jvm.MethodName) "OneStepMore") ∈ NW := NW_t5 234 rfl rfl
theorem nd1324 : (Jvm.Cond.methodLinkNest "OneStepMore$Leveller" (80 : Nat) ({ cls := "OneStepMore", name := "put", desc := "([III)V" } : Jvm.MethodName) "OneStepMore") ∈ NW := NW_t5 235 rfl rfl
theorem nd1148 : (Jvm.Cond.methodLinkNest "OneStepMore$Mind" (151 : Nat) ({ cls := "OneStepMore", name := "part", desc := "(JJZ)J" } : Jvm.MethodName) "OneStepMore") ∈ NW := NW_t5 59 rfl rfl
theorem nd1096 : (Jvm.Cond.methodLinkNest "OneStepMore$Mind" (64 : Nat) ({ cls := "OneStepMore", name := "cell", desc := "([II)I" } : Jvm.MethodName) "OneStepMore") ∈ NW := NW_t5 7 rfl rfl
theorem nd1102 : (Jvm.Cond.methodLinkNest "OneStepMore$Mind" (94 : Nat) ({ cls := "OneStepMore", name := "put", desc := "([III)V" } : Jvm.MethodName) "OneStepMore") ∈ NW := NW_t5 13 rfl rfl
theorem nd716 : (Jvm.Cond.methodLinkNest "OneStepMore$Reader" (80 : Nat) ({ cls := "OneStepMore", name := "cell", desc := "([II)I" } : Jvm.MethodName) "OneStepMore") ∈ NW := NW_t3 107 rfl rfl
theorem nd729 : (Jvm.Cond.methodLinkNest "OneStepMore$Reader" (97 : Nat) ({ cls := "OneStepMore", name := "put", desc := "([III)V" } : Jvm.MethodName) "OneStepMore") ∈ NW := NW_t3 120 rfl rfl
theorem nd1035 : (Jvm.Cond.methodLinkNest "OneStepMore$State" (102 : Nat) ({ cls := "OneStepMore", name := "cell", desc := "([II)I" } : Jvm.MethodName) "OneStepMore") ∈ NW := NW_t4 186 rfl rfl
theorem nd1361 : (Jvm.Cond.methodLinkNest "OneStepMore$State" (135 : Nat) ({ cls := "OneStepMore", name := "copy", desc := "([I[I)V" } : Jvm.MethodName) "OneStepMore") ∈ NW := NW_t6 32 rfl rfl
theorem nd546 : (Jvm.Cond.methodLinkNest "OneStepMore$State" (82 : Nat) ({ cls := "OneStepMore", name := "put", desc := "([III)V" } : Jvm.MethodName) "OneStepMore") ∈ NW := NW_t2 177 rfl rfl
theorem nd1271 : (Jvm.Cond.methodLinkNest "OneStepMore$Tales" (100 : Nat) ({ cls := "OneStepMore", name := "put", desc := "([III)V" } : Jvm.MethodName) "OneStepMore") ∈ NW := NW_t5 182 rfl rfl
theorem nd1270 : (Jvm.Cond.methodLinkNest "OneStepMore$Tales" (96 : Nat) ({ cls := "OneStepMore", name := "cell", desc := "([II)I" } : Jvm.MethodName) "OneStepMore") ∈ NW := NW_t5 181 rfl rfl
theorem nd600 : (Jvm.Cond.methodLinkNest "OneStepMore$Tape" (28 : Nat) ({ cls := "OneStepMore", name := "put", desc := "([III)V" } : Jvm.MethodName) "OneStepMore") ∈ NW := NW_t2 231 rfl rfl
theorem nd626 : (Jvm.Cond.methodLinkNest "OneStepMore$Tape" (42 : Nat) ({ cls := "OneStepMore", name := "cell", desc := "([II)I" } : Jvm.MethodName) "OneStepMore") ∈ NW := NW_t3 17 rfl rfl
theorem nd999 : (Jvm.Cond.methodLinkNest "OneStepMore$Text" (27 : Nat) ({ cls := "OneStepMore", name := "cell", desc := "([II)I" } : Jvm.MethodName) "OneStepMore") ∈ NW := NW_t4 150 rfl rfl
theorem nd876 : (Jvm.Cond.methodLinkNest "OneStepMore$Walk" (96 : Nat) ({ cls := "OneStepMore", name := "cell", desc := "([II)I" } : Jvm.MethodName) "OneStepMore") ∈ NW := NW_t4 27 rfl rfl
theorem gf_X0_15 : gfW RX0 15 0 1 := ⟨_, rfl, by decide, WS_t1 77 rfl rfl⟩
theorem gf_X0_25 : gfW RX0 25 0 2 := ⟨_, rfl, by decide, WS_t1 79 rfl rfl⟩
theorem gf_X0_28 : gfW RX0 28 0 3 := ⟨_, rfl, by decide, WS_t1 83 rfl rfl⟩
theorem gf_X0_43 : gfW RX0 43 0 4 := ⟨_, rfl, by decide, WS_t1 87 rfl rfl⟩
theorem gf_X0_9 : gfW RX0 9 0 0 := ⟨_, rfl, by decide, WS_t1 69 rfl rfl⟩
theorem gf_X10_107 : gfW RX10 107 7 1 := ⟨_, rfl, by decide, WS_t1 189 rfl rfl⟩
theorem gf_X10_110 : gfW RX10 110 5 14 := ⟨_, rfl, by decide, WS_t1 132 rfl rfl⟩
theorem gf_X10_121 : gfW RX10 121 4 0 := ⟨_, rfl, by decide, WS_t1 217 rfl rfl⟩
theorem gf_X10_124 : gfW RX10 124 4 1 := ⟨_, rfl, by decide, WS_t1 219 rfl rfl⟩
theorem gf_X10_13 : gfW RX10 13 10 0 := ⟨_, rfl, by decide, WS_t2 120 rfl rfl⟩
theorem gf_X10_131 : gfW RX10 131 5 15 := ⟨_, rfl, by decide, WS_t1 137 rfl rfl⟩
theorem gf_X10_147 : gfW RX10 147 5 6 := ⟨_, rfl, by decide, WS_t1 120 rfl rfl⟩
theorem gf_X10_156 : gfW RX10 156 5 4 := ⟨_, rfl, by decide, WS_t1 113 rfl rfl⟩
theorem gf_X10_176 : gfW RX10 176 0 0 := ⟨_, rfl, by decide, WS_t1 76 rfl rfl⟩
theorem gf_X10_181 : gfW RX10 181 0 2 := ⟨_, rfl, by decide, WS_t1 82 rfl rfl⟩
theorem gf_X10_184 : gfW RX10 184 0 3 := ⟨_, rfl, by decide, WS_t1 86 rfl rfl⟩
theorem gf_X10_19 : gfW RX10 19 10 1 := ⟨_, rfl, by decide, WS_t2 121 rfl rfl⟩
theorem gf_X10_222 : gfW RX10 222 3 0 := ⟨_, rfl, by decide, WS_t2 41 rfl rfl⟩
theorem gf_X10_25 : gfW RX10 25 10 2 := ⟨_, rfl, by decide, WS_t2 122 rfl rfl⟩
theorem gf_X10_276 : gfW RX10 276 5 11 := ⟨_, rfl, by decide, WS_t1 127 rfl rfl⟩
theorem gf_X10_279 : gfW RX10 279 5 17 := ⟨_, rfl, by decide, WS_t1 143 rfl rfl⟩
theorem gf_X10_34 : gfW RX10 34 10 3 := ⟨_, rfl, by decide, WS_t2 123 rfl rfl⟩
theorem gf_X10_43 : gfW RX10 43 10 4 := ⟨_, rfl, by decide, WS_t2 124 rfl rfl⟩
theorem gf_X10_50 : gfW RX10 50 10 5 := ⟨_, rfl, by decide, WS_t2 125 rfl rfl⟩
theorem gf_X10_57 : gfW RX10 57 10 6 := ⟨_, rfl, by decide, WS_t2 126 rfl rfl⟩
theorem gf_X10_64 : gfW RX10 64 10 7 := ⟨_, rfl, by decide, WS_t2 127 rfl rfl⟩
theorem gf_X10_95 : gfW RX10 95 5 5 := ⟨_, rfl, by decide, WS_t1 116 rfl rfl⟩
theorem gf_X11_104 : gfW RX11 104 11 8 := ⟨_, rfl, by decide, WS_t6 71 rfl rfl⟩
theorem gf_X11_107 : gfW RX11 107 11 9 := ⟨_, rfl, by decide, WS_t6 72 rfl rfl⟩
theorem gf_X11_113 : gfW RX11 113 11 10 := ⟨_, rfl, by decide, WS_t6 73 rfl rfl⟩
theorem gf_X11_120 : gfW RX11 120 11 11 := ⟨_, rfl, by decide, WS_t6 74 rfl rfl⟩
theorem gf_X11_13 : gfW RX11 13 11 1 := ⟨_, rfl, by decide, WS_t6 64 rfl rfl⟩
theorem gf_X11_132 : gfW RX11 132 11 12 := ⟨_, rfl, by decide, WS_t6 75 rfl rfl⟩
theorem gf_X11_135 : gfW RX11 135 11 14 := ⟨_, rfl, by decide, WS_t6 77 rfl rfl⟩
theorem gf_X11_138 : gfW RX11 138 11 17 := ⟨_, rfl, by decide, WS_t6 80 rfl rfl⟩
theorem gf_X11_149 : gfW RX11 149 11 20 := ⟨_, rfl, by decide, WS_t6 83 rfl rfl⟩
theorem gf_X11_158 : gfW RX11 158 11 18 := ⟨_, rfl, by decide, WS_t6 81 rfl rfl⟩
theorem gf_X11_16 : gfW RX11 16 11 2 := ⟨_, rfl, by decide, WS_t6 65 rfl rfl⟩
theorem gf_X11_161 : gfW RX11 161 11 19 := ⟨_, rfl, by decide, WS_t6 82 rfl rfl⟩
theorem gf_X11_19 : gfW RX11 19 11 3 := ⟨_, rfl, by decide, WS_t6 66 rfl rfl⟩
theorem gf_X11_22 : gfW RX11 22 11 5 := ⟨_, rfl, by decide, WS_t6 68 rfl rfl⟩
theorem gf_X11_256 : gfW RX11 256 11 15 := ⟨_, rfl, by decide, WS_t6 78 rfl rfl⟩
theorem gf_X11_259 : gfW RX11 259 11 13 := ⟨_, rfl, by decide, WS_t6 76 rfl rfl⟩
theorem gf_X11_26 : gfW RX11 26 11 6 := ⟨_, rfl, by decide, WS_t6 69 rfl rfl⟩
theorem gf_X11_29 : gfW RX11 29 11 16 := ⟨_, rfl, by decide, WS_t6 79 rfl rfl⟩
theorem gf_X11_32 : gfW RX11 32 11 21 := ⟨_, rfl, by decide, WS_t6 84 rfl rfl⟩
theorem gf_X11_35 : gfW RX11 35 11 22 := ⟨_, rfl, by decide, WS_t6 85 rfl rfl⟩
theorem gf_X11_39 : gfW RX11 39 11 23 := ⟨_, rfl, by decide, WS_t6 86 rfl rfl⟩
theorem gf_X11_411 : gfW RX11 411 11 27 := ⟨_, rfl, by decide, WS_t6 90 rfl rfl⟩
theorem gf_X11_422 : gfW RX11 422 11 25 := ⟨_, rfl, by decide, WS_t6 88 rfl rfl⟩
theorem gf_X11_425 : gfW RX11 425 11 26 := ⟨_, rfl, by decide, WS_t6 89 rfl rfl⟩
theorem gf_X11_43 : gfW RX11 43 11 24 := ⟨_, rfl, by decide, WS_t6 87 rfl rfl⟩
theorem gf_X11_444 : gfW RX11 444 11 28 := ⟨_, rfl, by decide, WS_t6 91 rfl rfl⟩
theorem gf_X11_447 : gfW RX11 447 11 29 := ⟨_, rfl, by decide, WS_t6 92 rfl rfl⟩
theorem gf_X11_46 : gfW RX11 46 11 30 := ⟨_, rfl, by decide, WS_t6 93 rfl rfl⟩
theorem gf_X11_49 : gfW RX11 49 11 31 := ⟨_, rfl, by decide, WS_t6 94 rfl rfl⟩
theorem gf_X11_7 : gfW RX11 7 11 0 := ⟨_, rfl, by decide, WS_t6 63 rfl rfl⟩
theorem gf_X11_91 : gfW RX11 91 11 4 := ⟨_, rfl, by decide, WS_t6 67 rfl rfl⟩
theorem gf_X11_98 : gfW RX11 98 11 7 := ⟨_, rfl, by decide, WS_t6 70 rfl rfl⟩
theorem gf_X1_15 : gfW RX1 15 1 1 := ⟨_, rfl, by decide, WS_t1 35 rfl rfl⟩
theorem gf_X1_24 : gfW RX1 24 1 2 := ⟨_, rfl, by decide, WS_t1 36 rfl rfl⟩
theorem gf_X1_28 : gfW RX1 28 5 1 := ⟨_, rfl, by decide, WS_t1 103 rfl rfl⟩
theorem gf_X1_35 : gfW RX1 35 1 3 := ⟨_, rfl, by decide, WS_t1 37 rfl rfl⟩
theorem gf_X1_39 : gfW RX1 39 5 2 := ⟨_, rfl, by decide, WS_t1 105 rfl rfl⟩
theorem gf_X1_42 : gfW RX1 42 1 4 := ⟨_, rfl, by decide, WS_t1 38 rfl rfl⟩
theorem gf_X1_45 : gfW RX1 45 0 0 := ⟨_, rfl, by decide, WS_t1 71 rfl rfl⟩
theorem gf_X1_50 : gfW RX1 50 5 6 := ⟨_, rfl, by decide, WS_t1 117 rfl rfl⟩
theorem gf_X1_57 : gfW RX1 57 0 3 := ⟨_, rfl, by decide, WS_t1 84 rfl rfl⟩
theorem gf_X1_76 : gfW RX1 76 8 2 := ⟨_, rfl, by decide, WS_t3 204 rfl rfl⟩
theorem gf_X1_81 : gfW RX1 81 8 1 := ⟨_, rfl, by decide, WS_t3 202 rfl rfl⟩
theorem gf_X1_84 : gfW RX1 84 8 0 := ⟨_, rfl, by decide, WS_t3 200 rfl rfl⟩
theorem gf_X1_9 : gfW RX1 9 1 0 := ⟨_, rfl, by decide, WS_t1 34 rfl rfl⟩
theorem gf_X2_11 : gfW RX2 11 2 2 := ⟨_, rfl, by decide, WS_t2 106 rfl rfl⟩
theorem gf_X2_15 : gfW RX2 15 2 3 := ⟨_, rfl, by decide, WS_t2 107 rfl rfl⟩
theorem gf_X2_18 : gfW RX2 18 2 4 := ⟨_, rfl, by decide, WS_t2 108 rfl rfl⟩
theorem gf_X2_21 : gfW RX2 21 2 0 := ⟨_, rfl, by decide, WS_t2 104 rfl rfl⟩
theorem gf_X2_25 : gfW RX2 25 2 1 := ⟨_, rfl, by decide, WS_t2 105 rfl rfl⟩
theorem gf_X2_56 : gfW RX2 56 0 0 := ⟨_, rfl, by decide, WS_t1 72 rfl rfl⟩
theorem gf_X2_92 : gfW RX2 92 5 4 := ⟨_, rfl, by decide, WS_t1 110 rfl rfl⟩
theorem gf_X2_95 : gfW RX2 95 5 15 := ⟨_, rfl, by decide, WS_t1 136 rfl rfl⟩
theorem gf_X3_15 : gfW RX3 15 3 8 := ⟨_, rfl, by decide, WS_t2 49 rfl rfl⟩
theorem gf_X3_162 : gfW RX3 162 3 0 := ⟨_, rfl, by decide, WS_t2 40 rfl rfl⟩
theorem gf_X3_165 : gfW RX3 165 3 12 := ⟨_, rfl, by decide, WS_t2 53 rfl rfl⟩
theorem gf_X3_18 : gfW RX3 18 3 9 := ⟨_, rfl, by decide, WS_t2 50 rfl rfl⟩
theorem gf_X3_184 : gfW RX3 184 0 4 := ⟨_, rfl, by decide, WS_t1 89 rfl rfl⟩
theorem gf_X3_21 : gfW RX3 21 3 10 := ⟨_, rfl, by decide, WS_t2 51 rfl rfl⟩
theorem gf_X3_25 : gfW RX3 25 3 11 := ⟨_, rfl, by decide, WS_t2 52 rfl rfl⟩
theorem gf_X3_28 : gfW RX3 28 3 1 := ⟨_, rfl, by decide, WS_t2 42 rfl rfl⟩
theorem gf_X3_32 : gfW RX3 32 3 2 := ⟨_, rfl, by decide, WS_t2 43 rfl rfl⟩
theorem gf_X3_46 : gfW RX3 46 0 0 := ⟨_, rfl, by decide, WS_t1 70 rfl rfl⟩
theorem gf_X3_52 : gfW RX3 52 3 3 := ⟨_, rfl, by decide, WS_t2 44 rfl rfl⟩
theorem gf_X3_53 : gfW RX3 53 3 4 := ⟨_, rfl, by decide, WS_t2 45 rfl rfl⟩
theorem gf_X3_57 : gfW RX3 57 0 2 := ⟨_, rfl, by decide, WS_t1 80 rfl rfl⟩
theorem gf_X3_60 : gfW RX3 60 3 5 := ⟨_, rfl, by decide, WS_t2 46 rfl rfl⟩
theorem gf_X3_61 : gfW RX3 61 5 3 := ⟨_, rfl, by decide, WS_t1 107 rfl rfl⟩
theorem gf_X3_68 : gfW RX3 68 3 6 := ⟨_, rfl, by decide, WS_t2 47 rfl rfl⟩
theorem gf_X3_70 : gfW RX3 70 5 15 := ⟨_, rfl, by decide, WS_t1 135 rfl rfl⟩
theorem gf_X3_9 : gfW RX3 9 3 7 := ⟨_, rfl, by decide, WS_t2 48 rfl rfl⟩
theorem gf_X4_101 : gfW RX4 101 4 10 := ⟨_, rfl, by decide, WS_t1 228 rfl rfl⟩
theorem gf_X4_117 : gfW RX4 117 4 13 := ⟨_, rfl, by decide, WS_t1 231 rfl rfl⟩
theorem gf_X4_15 : gfW RX4 15 4 1 := ⟨_, rfl, by decide, WS_t1 218 rfl rfl⟩
theorem gf_X4_154 : gfW RX4 154 7 2 := ⟨_, rfl, by decide, WS_t1 191 rfl rfl⟩
theorem gf_X4_157 : gfW RX4 157 7 4 := ⟨_, rfl, by decide, WS_t1 195 rfl rfl⟩
theorem gf_X4_18 : gfW RX4 18 4 3 := ⟨_, rfl, by decide, WS_t1 221 rfl rfl⟩
theorem gf_X4_22 : gfW RX4 22 4 4 := ⟨_, rfl, by decide, WS_t1 222 rfl rfl⟩
theorem gf_X4_25 : gfW RX4 25 4 5 := ⟨_, rfl, by decide, WS_t1 223 rfl rfl⟩
theorem gf_X4_28 : gfW RX4 28 4 6 := ⟨_, rfl, by decide, WS_t1 224 rfl rfl⟩
theorem gf_X4_31 : gfW RX4 31 4 7 := ⟨_, rfl, by decide, WS_t1 225 rfl rfl⟩
theorem gf_X4_34 : gfW RX4 34 4 2 := ⟨_, rfl, by decide, WS_t1 220 rfl rfl⟩
theorem gf_X4_38 : gfW RX4 38 4 8 := ⟨_, rfl, by decide, WS_t1 226 rfl rfl⟩
theorem gf_X4_41 : gfW RX4 41 4 9 := ⟨_, rfl, by decide, WS_t1 227 rfl rfl⟩
theorem gf_X4_55 : gfW RX4 55 4 11 := ⟨_, rfl, by decide, WS_t1 229 rfl rfl⟩
theorem gf_X4_61 : gfW RX4 61 4 12 := ⟨_, rfl, by decide, WS_t1 230 rfl rfl⟩
theorem gf_X4_77 : gfW RX4 77 7 3 := ⟨_, rfl, by decide, WS_t1 193 rfl rfl⟩
theorem gf_X4_9 : gfW RX4 9 4 0 := ⟨_, rfl, by decide, WS_t1 216 rfl rfl⟩
theorem gf_X5_106 : gfW RX5 106 5 12 := ⟨_, rfl, by decide, WS_t1 128 rfl rfl⟩
theorem gf_X5_109 : gfW RX5 109 5 6 := ⟨_, rfl, by decide, WS_t1 119 rfl rfl⟩
theorem gf_X5_11 : gfW RX5 11 5 0 := ⟨_, rfl, by decide, WS_t1 101 rfl rfl⟩
theorem gf_X5_112 : gfW RX5 112 5 9 := ⟨_, rfl, by decide, WS_t1 124 rfl rfl⟩
theorem gf_X5_115 : gfW RX5 115 5 11 := ⟨_, rfl, by decide, WS_t1 126 rfl rfl⟩
theorem gf_X5_124 : gfW RX5 124 0 0 := ⟨_, rfl, by decide, WS_t1 75 rfl rfl⟩
theorem gf_X5_139 : gfW RX5 139 5 17 := ⟨_, rfl, by decide, WS_t1 142 rfl rfl⟩
theorem gf_X5_17 : gfW RX5 17 5 1 := ⟨_, rfl, by decide, WS_t1 102 rfl rfl⟩
theorem gf_X5_21 : gfW RX5 21 5 2 := ⟨_, rfl, by decide, WS_t1 104 rfl rfl⟩
theorem gf_X5_24 : gfW RX5 24 5 3 := ⟨_, rfl, by decide, WS_t1 106 rfl rfl⟩
theorem gf_X5_27 : gfW RX5 27 5 5 := ⟨_, rfl, by decide, WS_t1 114 rfl rfl⟩
theorem gf_X5_31 : gfW RX5 31 5 7 := ⟨_, rfl, by decide, WS_t1 121 rfl rfl⟩
theorem gf_X5_34 : gfW RX5 34 5 8 := ⟨_, rfl, by decide, WS_t1 123 rfl rfl⟩
theorem gf_X5_37 : gfW RX5 37 5 10 := ⟨_, rfl, by decide, WS_t1 125 rfl rfl⟩
theorem gf_X5_42 : gfW RX5 42 5 13 := ⟨_, rfl, by decide, WS_t1 129 rfl rfl⟩
theorem gf_X5_46 : gfW RX5 46 5 15 := ⟨_, rfl, by decide, WS_t1 133 rfl rfl⟩
theorem gf_X5_49 : gfW RX5 49 5 16 := ⟨_, rfl, by decide, WS_t1 139 rfl rfl⟩
theorem gf_X5_53 : gfW RX5 53 5 4 := ⟨_, rfl, by decide, WS_t1 109 rfl rfl⟩
theorem gf_X5_56 : gfW RX5 56 5 14 := ⟨_, rfl, by decide, WS_t1 130 rfl rfl⟩
theorem gf_X5_71 : gfW RX5 71 0 4 := ⟨_, rfl, by decide, WS_t1 88 rfl rfl⟩
theorem gf_X5_79 : gfW RX5 79 0 1 := ⟨_, rfl, by decide, WS_t1 78 rfl rfl⟩
theorem gf_X5_89 : gfW RX5 89 0 2 := ⟨_, rfl, by decide, WS_t1 81 rfl rfl⟩
theorem gf_X5_96 : gfW RX5 96 0 3 := ⟨_, rfl, by decide, WS_t1 85 rfl rfl⟩
theorem gf_X6_104 : gfW RX6 104 5 4 := ⟨_, rfl, by decide, WS_t1 112 rfl rfl⟩
theorem gf_X6_107 : gfW RX6 107 5 17 := ⟨_, rfl, by decide, WS_t1 141 rfl rfl⟩
theorem gf_X6_110 : gfW RX6 110 5 16 := ⟨_, rfl, by decide, WS_t1 140 rfl rfl⟩
theorem gf_X6_113 : gfW RX6 113 5 14 := ⟨_, rfl, by decide, WS_t1 131 rfl rfl⟩
theorem gf_X6_15 : gfW RX6 15 6 0 := ⟨_, rfl, by decide, WS_t2 88 rfl rfl⟩
theorem gf_X6_19 : gfW RX6 19 6 1 := ⟨_, rfl, by decide, WS_t2 89 rfl rfl⟩
theorem gf_X6_38 : gfW RX6 38 5 15 := ⟨_, rfl, by decide, WS_t1 134 rfl rfl⟩
theorem gf_X6_87 : gfW RX6 87 0 0 := ⟨_, rfl, by decide, WS_t1 74 rfl rfl⟩
theorem gf_X6_9 : gfW RX6 9 6 2 := ⟨_, rfl, by decide, WS_t2 90 rfl rfl⟩
theorem gf_X7_15 : gfW RX7 15 7 2 := ⟨_, rfl, by decide, WS_t1 190 rfl rfl⟩
theorem gf_X7_18 : gfW RX7 18 7 3 := ⟨_, rfl, by decide, WS_t1 192 rfl rfl⟩
theorem gf_X7_21 : gfW RX7 21 7 4 := ⟨_, rfl, by decide, WS_t1 194 rfl rfl⟩
theorem gf_X7_24 : gfW RX7 24 7 1 := ⟨_, rfl, by decide, WS_t1 188 rfl rfl⟩
theorem gf_X7_32 : gfW RX7 32 7 5 := ⟨_, rfl, by decide, WS_t1 196 rfl rfl⟩
theorem gf_X7_9 : gfW RX7 9 7 0 := ⟨_, rfl, by decide, WS_t1 187 rfl rfl⟩
theorem gf_X8_15 : gfW RX8 15 8 1 := ⟨_, rfl, by decide, WS_t3 201 rfl rfl⟩
theorem gf_X8_18 : gfW RX8 18 8 2 := ⟨_, rfl, by decide, WS_t3 203 rfl rfl⟩
theorem gf_X8_21 : gfW RX8 21 8 3 := ⟨_, rfl, by decide, WS_t3 205 rfl rfl⟩
theorem gf_X8_24 : gfW RX8 24 8 4 := ⟨_, rfl, by decide, WS_t3 207 rfl rfl⟩
theorem gf_X8_9 : gfW RX8 9 8 0 := ⟨_, rfl, by decide, WS_t3 199 rfl rfl⟩
theorem gf_X9_149 : gfW RX9 149 5 3 := ⟨_, rfl, by decide, WS_t1 108 rfl rfl⟩
theorem gf_X9_15 : gfW RX9 15 9 1 := ⟨_, rfl, by decide, WS_t2 28 rfl rfl⟩
theorem gf_X9_152 : gfW RX9 152 5 15 := ⟨_, rfl, by decide, WS_t1 138 rfl rfl⟩
theorem gf_X9_36 : gfW RX9 36 5 7 := ⟨_, rfl, by decide, WS_t1 122 rfl rfl⟩
theorem gf_X9_51 : gfW RX9 51 0 0 := ⟨_, rfl, by decide, WS_t1 73 rfl rfl⟩
theorem gf_X9_67 : gfW RX9 67 5 6 := ⟨_, rfl, by decide, WS_t1 118 rfl rfl⟩
theorem gf_X9_70 : gfW RX9 70 5 5 := ⟨_, rfl, by decide, WS_t1 115 rfl rfl⟩
theorem gf_X9_73 : gfW RX9 73 5 4 := ⟨_, rfl, by decide, WS_t1 111 rfl rfl⟩
theorem gf_X9_9 : gfW RX9 9 9 0 := ⟨_, rfl, by decide, WS_t2 27 rfl rfl⟩
theorem gf_X9_91 : gfW RX9 91 8 3 := ⟨_, rfl, by decide, WS_t3 206 rfl rfl⟩
theorem cl_L_10 : clW RL 10 11 32 := ⟨_, rfl, rfl, wd1379, wd1380, wd141⟩
theorem cl_L_7 : clW RL 7 10 8 := ⟨_, rfl, rfl, wd149, wd150, wd130⟩
theorem cl_X10_10 : clW RX10 10 5 18 := ⟨_, rfl, rfl, wd180, wd181, wd132⟩
theorem cl_X10_22 : clW RX10 22 7 6 := ⟨_, rfl, rfl, wd310, wd311, wd135⟩
theorem cl_X10_29 : clW RX10 29 4 14 := ⟨_, rfl, rfl, wd339, wd340, wd136⟩
theorem cl_X10_38 : clW RX10 38 9 2 := ⟨_, rfl, rfl, wd390, wd391, wd137⟩
theorem cl_X10_47 : clW RX10 47 3 13 := ⟨_, rfl, rfl, wd403, wd404, wd138⟩
theorem cl_X10_54 : clW RX10 54 6 3 := ⟨_, rfl, rfl, wd451, wd452, wd139⟩
theorem cl_X10_61 : clW RX10 61 2 5 := ⟨_, rfl, rfl, wd467, wd468, wd140⟩
theorem cl_X10_7 : clW RX10 7 1 5 := ⟨_, rfl, rfl, wd157, wd158, wd131⟩
theorem cl_X4_68 : clW RX4 68 8 5 := ⟨_, rfl, rfl, wd788, wd789, wd147⟩
theorem cl_X5_9 : clW RX5 9 0 5 := ⟨_, rfl, rfl, wd186, wd190, wd133⟩
theorem mw_X11_init : mtW mtX11_init 0 := ⟨wd1383, wd141, by decide, by decide, by decide +kernel, by decide⟩
theorem ci_L_12 : ciW RL 12 mtX11_init 0 := ⟨mw_X11_init, wd1381, wd1382, rfl, rfl⟩
theorem mw_X10_init : mtW mtX10_init 0 := ⟨wd153, wd130, by decide, by decide, by decide +kernel, by decide⟩
theorem ci_L_9 : ciW RL 9 mtX10_init 0 := ⟨mw_X10_init, wd151, wd152, rfl, rfl⟩
theorem mw_X5_init : mtW mtX5_init 0 := ⟨wd184, wd132, by decide, by decide, by decide +kernel, by decide⟩
theorem ci_X10_12 : ciW RX10 12 mtX5_init 0 := ⟨mw_X5_init, wd182, wd183, rfl, rfl⟩
theorem mw_X4_init : mtW mtX4_init 1 := ⟨wd343, wd136, by decide, by decide, by decide +kernel, by decide⟩
theorem ci_X10_31 : ciW RX10 31 mtX4_init 1 := ⟨mw_X4_init, wd341, wd342, rfl, rfl⟩
theorem mw_X9_init : mtW mtX9_init 2 := ⟨wd394, wd137, by decide, by decide, by decide +kernel, by decide⟩
theorem ci_X10_40 : ciW RX10 40 mtX9_init 2 := ⟨mw_X9_init, wd392, wd393, rfl, rfl⟩
theorem mw_X3_init : mtW mtX3_init 2 := ⟨wd407, wd138, by decide, by decide, by decide +kernel, by decide⟩
theorem ci_X10_49 : ciW RX10 49 mtX3_init 2 := ⟨mw_X3_init, wd405, wd406, rfl, rfl⟩
theorem mw_X6_init : mtW mtX6_init 2 := ⟨wd455, wd139, by decide, by decide, by decide +kernel, by decide⟩
theorem ci_X10_56 : ciW RX10 56 mtX6_init 2 := ⟨mw_X6_init, wd453, wd454, rfl, rfl⟩
theorem mw_X2_init : mtW mtX2_init 2 := ⟨wd471, wd140, by decide, by decide, by decide +kernel, by decide⟩
theorem ci_X10_63 : ciW RX10 63 mtX2_init 2 := ⟨mw_X2_init, wd469, wd470, rfl, rfl⟩
theorem mw_X8_init : mtW mtX8_init 5 := ⟨wd806, wd147, by decide, by decide, by decide +kernel, by decide⟩
theorem ci_X4_74 : ciW RX4 74 mtX8_init 5 := ⟨mw_X8_init, wd804, wd805, rfl, rfl⟩
theorem mw_X0_init : mtW mtX0_init 0 := ⟨wd193, wd133, by decide, by decide, by decide +kernel, by decide⟩
theorem ci_X5_52 : ciW RX5 52 mtX0_init 0 := ⟨mw_X0_init, wd191, wd192, rfl, rfl⟩
theorem mw_J3_checkIndex_8e157 : mtW mtJ3_checkIndex_8e157 3 := ⟨wd679, wd145, by decide, by decide, by decide +kernel, by decide⟩
theorem cs_J0_1059 : csW RJ0 1059 mtJ3_checkIndex_8e157 3 := ⟨mw_J3_checkIndex_8e157, wd677, wd678⟩
theorem mw_J1_charAt_3b067 : mtW mtJ1_charAt_3b067 2 := ⟨wd671, wd144, by decide, by decide, by decide +kernel, by decide⟩
theorem cs_J0_495 : csW RJ0 495 mtJ1_charAt_3b067 2 := ⟨mw_J1_charAt_3b067, wd669, wd670⟩
theorem mw_J0_checkIndex_df160 : mtW mtJ0_checkIndex_df160 2 := ⟨wd674, wd143, by decide, by decide, by decide +kernel, by decide⟩
theorem cs_J1_9 : csW RJ1 9 mtJ0_checkIndex_df160 2 := ⟨mw_J0_checkIndex_df160, wd672, wd673⟩
theorem mw_J7_fill_53178 : mtW mtJ7_fill_53178 2 := ⟨wd197, wd134, by decide, by decide, by decide +kernel, by decide⟩
theorem cs_X0_19 : csW RX0 19 mtJ7_fill_53178 2 := ⟨mw_J7_fill_53178, wd195, wd196⟩
theorem mw_X10_part : mtW mtX10_part 3 := ⟨wd1150, wd130, by decide, by decide, by decide +kernel, by decide⟩
theorem cs_X10_248 : csW RX10 248 mtX10_part 3 := ⟨mw_X10_part, wd1242, wd1149⟩
theorem mw_X10_isSeed : mtW mtX10_isSeed 1 := ⟨wd584, wd130, by decide, by decide, by decide +kernel, by decide⟩
theorem cs_X10_87 : csW RX10 87 mtX10_isSeed 1 := ⟨mw_X10_isSeed, wd582, wd583⟩
theorem mw_X10_seeded : mtW mtX10_seeded 1 := ⟨wd587, wd130, by decide, by decide, by decide +kernel, by decide⟩
theorem cs_X10_91 : csW RX10 91 mtX10_seeded 1 := ⟨mw_X10_seeded, wd585, wd586⟩
theorem mw_X11_isDigit : mtW mtX11_isDigit 1 := ⟨wd1569, wd141, by decide, by decide, by decide +kernel, by decide⟩
theorem cs_X11_110 : csW RX11 110 mtX11_isDigit 1 := ⟨mw_X11_isDigit, wd1567, wd1568⟩
theorem mw_X11_isLetter : mtW mtX11_isLetter 1 := ⟨wd1573, wd141, by decide, by decide, by decide +kernel, by decide⟩
theorem cs_X11_117 : csW RX11 117 mtX11_isLetter 1 := ⟨mw_X11_isLetter, wd1571, wd1572⟩
theorem mw_X11_w3 : mtW mtX11_w3 3 := ⟨wd1587, wd141, by decide, by decide, by decide +kernel, by decide⟩
theorem cs_X11_124 : csW RX11 124 mtX11_w3 3 := ⟨mw_X11_w3, wd1585, wd1586⟩
theorem mw_X11_w5 : mtW mtX11_w5 5 := ⟨wd1594, wd141, by decide, by decide, by decide +kernel, by decide⟩
theorem cs_X11_128 : csW RX11 128 mtX11_w5 5 := ⟨mw_X11_w5, wd1592, wd1593⟩
theorem mw_X11_w6 : mtW mtX11_w6 6 := ⟨wd1661, wd141, by decide, by decide, by decide +kernel, by decide⟩
theorem cs_X11_141 : csW RX11 141 mtX11_w6 6 := ⟨mw_X11_w6, wd1659, wd1660⟩
theorem mw_X11_w4 : mtW mtX11_w4 4 := ⟨wd1584, wd141, by decide, by decide, by decide +kernel, by decide⟩
theorem cs_X11_145 : csW RX11 145 mtX11_w4 4 := ⟨mw_X11_w4, wd1582, wd1583⟩
theorem mw_X11_rank : mtW mtX11_rank 1 := ⟨wd1629, wd141, by decide, by decide, by decide +kernel, by decide⟩
theorem cs_X11_152 : csW RX11 152 mtX11_rank 1 := ⟨mw_X11_rank, wd1627, wd1628⟩
theorem mw_X11_clip : mtW mtX11_clip 1 := ⟨wd1762, wd141, by decide, by decide, by decide +kernel, by decide⟩
theorem cs_X11_275 : csW RX11 275 mtX11_clip 1 := ⟨mw_X11_clip, wd1760, wd1761⟩
theorem mw_X11_two : mtW mtX11_two 3 := ⟨wd1759, wd141, by decide, by decide, by decide +kernel, by decide⟩
theorem cs_X11_279 : csW RX11 279 mtX11_two 3 := ⟨mw_X11_two, wd1757, wd1758⟩
theorem mw_X11_isAsked : mtW mtX11_isAsked 3 := ⟨wd1767, wd141, by decide, by decide, by decide +kernel, by decide⟩
theorem cs_X11_283 : csW RX11 283 mtX11_isAsked 3 := ⟨mw_X11_isAsked, wd1765, wd1766⟩
theorem mw_X11_cell : mtW mtX11_cell 2 := ⟨wd1908, wd141, by decide, by decide, by decide +kernel, by decide⟩
theorem cs_X11_408 : csW RX11 408 mtX11_cell 2 := ⟨mw_X11_cell, wd1906, wd1907⟩
theorem mw_X11_tenTo : mtW mtX11_tenTo 1 := ⟨wd1915, wd141, by decide, by decide, by decide +kernel, by decide⟩
theorem cs_X11_428 : csW RX11 428 mtX11_tenTo 1 := ⟨mw_X11_tenTo, wd1913, wd1914⟩
theorem mw_X11_part : mtW mtX11_part 3 := ⟨wd1919, wd141, by decide, by decide, by decide +kernel, by decide⟩
theorem cs_X11_437 : csW RX11 437 mtX11_part 3 := ⟨mw_X11_part, wd1917, wd1918⟩
theorem mw_X11_isNoLess : mtW mtX11_isNoLess 4 := ⟨wd1954, wd141, by decide, by decide, by decide +kernel, by decide⟩
theorem cs_X11_455 : csW RX11 455 mtX11_isNoLess 4 := ⟨mw_X11_isNoLess, wd1952, wd1953⟩
theorem mw_X11_copy : mtW mtX11_copy 2 := ⟨wd1391, wd141, by decide, by decide, by decide +kernel, by decide⟩
theorem cs_X11_56 : csW RX11 56 mtX11_copy 2 := ⟨mw_X11_copy, wd1389, wd1390⟩
theorem mw_X11_common : mtW mtX11_common 2 := ⟨wd1922, wd141, by decide, by decide, by decide +kernel, by decide⟩
theorem cs_X11_62 : csW RX11 62 mtX11_common 2 := ⟨mw_X11_common, wd1920, wd1921⟩
theorem mw_X11_isIn : mtW mtX11_isIn 3 := ⟨wd1499, wd141, by decide, by decide, by decide +kernel, by decide⟩
theorem cs_X11_66 : csW RX11 66 mtX11_isIn 3 := ⟨mw_X11_isIn, wd1497, wd1498⟩
theorem mw_X11_isHouse : mtW mtX11_isHouse 1 := ⟨wd1496, wd141, by decide, by decide, by decide +kernel, by decide⟩
theorem cs_X11_70 : csW RX11 70 mtX11_isHouse 1 := ⟨mw_X11_isHouse, wd1494, wd1495⟩
theorem mw_X11_has : mtW mtX11_has 2 := ⟨wd1526, wd141, by decide, by decide, by decide +kernel, by decide⟩
theorem cs_X11_88 : csW RX11 88 mtX11_has 2 := ⟨mw_X11_has, wd1524, wd1525⟩
theorem mw_X1_joined : mtW mtX1_joined 3 := ⟨wd916, wd131, by decide, by decide, by decide +kernel, by decide⟩
theorem cs_X1_91 : csW RX1 91 mtX1_joined 3 := ⟨mw_X1_joined, wd914, wd915⟩
theorem cs_X2_50 : csW RX2 50 mtJ7_fill_53178 2 := ⟨mw_J7_fill_53178, wd1314, wd196⟩
theorem mw_J7_fill_d0a16 : mtW mtJ7_fill_d0a16 2 := ⟨wd1121, wd134, by decide, by decide, by decide +kernel, by decide⟩
theorem cs_X3_113 : csW RX3 113 mtJ7_fill_d0a16 2 := ⟨mw_J7_fill_d0a16, wd1119, wd1120⟩
theorem mw_X3_power : mtW mtX3_power 1 := ⟨wd1145, wd138, by decide, by decide, by decide +kernel, by decide⟩
theorem cs_X3_136 : csW RX3 136 mtX3_power 1 := ⟨mw_X3_power, wd1143, wd1144⟩
theorem mw_X3_ceiling : mtW mtX3_ceiling 2 := ⟨wd1206, wd138, by decide, by decide, by decide +kernel, by decide⟩
theorem cs_X3_178 : csW RX3 178 mtX3_ceiling 2 := ⟨mw_X3_ceiling, wd1204, wd1205⟩
theorem cs_X4_44 : csW RX4 44 mtJ7_fill_53178 2 := ⟨mw_J7_fill_53178, wd613, wd196⟩
theorem mw_J7_copyOf_59c91 : mtW mtJ7_copyOf_59c91 2 := ⟨wd792, wd134, by decide, by decide, by decide +kernel, by decide⟩
theorem cs_X4_70 : csW RX4 70 mtJ7_copyOf_59c91 2 := ⟨mw_J7_copyOf_59c91, wd790, wd791⟩
theorem cs_X6_90 : csW RX6 90 mtJ7_fill_53178 2 := ⟨mw_J7_fill_53178, wd1269, wd196⟩
theorem mw_X7_isDigit : mtW mtX7_isDigit 1 := ⟨wd635, wd135, by decide, by decide, by decide +kernel, by decide⟩
theorem cs_X7_49 : csW RX7 49 mtX7_isDigit 1 := ⟨mw_X7_isDigit, wd633, wd634⟩
theorem mw_X7_isLetter : mtW mtX7_isLetter 1 := ⟨wd645, wd135, by decide, by decide, by decide +kernel, by decide⟩
theorem cs_X7_57 : csW RX7 57 mtX7_isLetter 1 := ⟨mw_X7_isLetter, wd643, wd644⟩
theorem cs_X9_140 : csW RX9 140 mtJ7_fill_53178 2 := ⟨mw_J7_fill_53178, wd867, wd196⟩
theorem mw_J0_coder_7d493 : mtW mtJ0_coder_7d493 0 := ⟨wd658, wd143, by decide, by decide, by decide +kernel, by decide⟩
theorem cv_J0_335 : cvW RJ0 335 mtJ0_coder_7d493 0 := ⟨mw_J0_coder_7d493, wd655, wd656, wd657⟩
theorem mw_J0_isLatin1_aae02 : mtW mtJ0_isLatin1_aae02 0 := ⟨wd668, wd143, by decide, by decide, by decide +kernel, by decide⟩
theorem cv_J0_492 : cvW RJ0 492 mtJ0_isLatin1_aae02 0 := ⟨mw_J0_isLatin1_aae02, wd665, wd666, wd667⟩
theorem mw_X11_way : mtW mtX11_way 1 := ⟨wd1876, wd141, by decide, by decide, by decide +kernel, by decide⟩
theorem cv_L_101 : cvW RL 101 mtX11_way 1 := ⟨mw_X11_way, wd1873, wd1874, wd1875⟩
theorem mw_X10_house : mtW mtX10_house 2 := ⟨wd1057, wd130, by decide, by decide, by decide +kernel, by decide⟩
theorem cv_L_102 : cvW RL 102 mtX10_house 2 := ⟨mw_X10_house, wd1054, wd1055, wd1056⟩
theorem mw_X11_house : mtW mtX11_house 2 := ⟨wd1880, wd141, by decide, by decide, by decide +kernel, by decide⟩
theorem cv_L_105 : cvW RL 105 mtX11_house 2 := ⟨mw_X11_house, wd1877, wd1878, wd1879⟩
theorem mw_X10_says : mtW mtX10_says 5 := ⟨wd1064, wd130, by decide, by decide, by decide +kernel, by decide⟩
theorem cv_L_106 : cvW RL 106 mtX10_says 5 := ⟨mw_X10_says, wd1061, wd1062, wd1063⟩
theorem mw_X11_says : mtW mtX11_says 5 := ⟨wd1712, wd141, by decide, by decide, by decide +kernel, by decide⟩
theorem cv_L_109 : cvW RL 109 mtX11_says 5 := ⟨mw_X11_says, wd1709, wd1710, wd1711⟩
theorem mw_X10_book : mtW mtX10_book 2 := ⟨wd1083, wd130, by decide, by decide, by decide +kernel, by decide⟩
theorem cv_L_110 : cvW RL 110 mtX10_book 2 := ⟨mw_X10_book, wd1080, wd1081, wd1082⟩
theorem mw_X11_book : mtW mtX11_book 2 := ⟨wd1884, wd141, by decide, by decide, by decide +kernel, by decide⟩
theorem cv_L_113 : cvW RL 113 mtX11_book 2 := ⟨mw_X11_book, wd1881, wd1882, wd1883⟩
theorem mw_X10_where : mtW mtX10_where 6 := ⟨wd1089, wd130, by decide, by decide, by decide +kernel, by decide⟩
theorem cv_L_114 : cvW RL 114 mtX10_where 6 := ⟨mw_X10_where, wd1086, wd1087, wd1088⟩
theorem mw_X11_where : mtW mtX11_where 6 := ⟨wd1896, wd141, by decide, by decide, by decide +kernel, by decide⟩
theorem cv_L_118 : cvW RL 118 mtX11_where 6 := ⟨mw_X11_where, wd1893, wd1894, wd1895⟩
theorem mw_X10_cost : mtW mtX10_cost 5 := ⟨wd1155, wd130, by decide, by decide, by decide +kernel, by decide⟩
theorem cv_L_119 : cvW RL 119 mtX10_cost 5 := ⟨mw_X10_cost, wd1152, wd1153, wd1154⟩
theorem mw_X11_cost : mtW mtX11_cost 5 := ⟨wd1926, wd141, by decide, by decide, by decide +kernel, by decide⟩
theorem cv_L_123 : cvW RL 123 mtX11_cost 5 := ⟨mw_X11_cost, wd1923, wd1924, wd1925⟩
theorem mw_X10_from : mtW mtX10_from 3 := ⟨wd1172, wd130, by decide, by decide, by decide +kernel, by decide⟩
theorem cv_L_124 : cvW RL 124 mtX10_from 3 := ⟨mw_X10_from, wd1169, wd1170, wd1171⟩
theorem mw_X11_from : mtW mtX11_from 3 := ⟨wd1934, wd141, by decide, by decide, by decide +kernel, by decide⟩
theorem cv_L_127 : cvW RL 127 mtX11_from 3 := ⟨mw_X11_from, wd1931, wd1932, wd1933⟩
theorem mw_X10_worth : mtW mtX10_worth 3 := ⟨wd1180, wd130, by decide, by decide, by decide +kernel, by decide⟩
theorem cv_L_128 : cvW RL 128 mtX10_worth 3 := ⟨mw_X10_worth, wd1177, wd1178, wd1179⟩
theorem mw_X10_stair : mtW mtX10_stair 2 := ⟨wd517, wd130, by decide, by decide, by decide +kernel, by decide⟩
theorem cv_L_13 : cvW RL 13 mtX10_stair 2 := ⟨mw_X10_stair, wd514, wd515, wd516⟩
theorem mw_X11_worth : mtW mtX11_worth 3 := ⟨wd1942, wd141, by decide, by decide, by decide +kernel, by decide⟩
theorem cv_L_131 : cvW RL 131 mtX11_worth 3 := ⟨mw_X11_worth, wd1939, wd1940, wd1941⟩
theorem mw_X10_goes : mtW mtX10_goes 2 := ⟨wd1189, wd130, by decide, by decide, by decide +kernel, by decide⟩
theorem cv_L_132 : cvW RL 132 mtX10_goes 2 := ⟨mw_X10_goes, wd1186, wd1187, wd1188⟩
theorem mw_X11_goes : mtW mtX11_goes 2 := ⟨wd1946, wd141, by decide, by decide, by decide +kernel, by decide⟩
theorem cv_L_135 : cvW RL 135 mtX11_goes 2 := ⟨mw_X11_goes, wd1943, wd1944, wd1945⟩
theorem mw_X10_lamp : mtW mtX10_lamp 4 := ⟨wd1199, wd130, by decide, by decide, by decide +kernel, by decide⟩
theorem cv_L_136 : cvW RL 136 mtX10_lamp 4 := ⟨mw_X10_lamp, wd1196, wd1197, wd1198⟩
theorem mw_X11_lamp : mtW mtX11_lamp 4 := ⟨wd1951, wd141, by decide, by decide, by decide +kernel, by decide⟩
theorem cv_L_140 : cvW RL 140 mtX11_lamp 4 := ⟨mw_X11_lamp, wd1948, wd1949, wd1950⟩
theorem mw_X10_which : mtW mtX10_which 4 := ⟨wd1211, wd130, by decide, by decide, by decide +kernel, by decide⟩
theorem cv_L_141 : cvW RL 141 mtX10_which 4 := ⟨mw_X10_which, wd1208, wd1209, wd1210⟩
theorem mw_X11_which : mtW mtX11_which 4 := ⟨wd1958, wd141, by decide, by decide, by decide +kernel, by decide⟩
theorem cv_L_145 : cvW RL 145 mtX11_which 4 := ⟨mw_X11_which, wd1955, wd1956, wd1957⟩
theorem mw_X10_whether : mtW mtX10_whether 4 := ⟨wd1223, wd130, by decide, by decide, by decide +kernel, by decide⟩
theorem cv_L_146 : cvW RL 146 mtX10_whether 4 := ⟨mw_X10_whether, wd1220, wd1221, wd1222⟩
theorem mw_X11_whether : mtW mtX11_whether 4 := ⟨wd1966, wd141, by decide, by decide, by decide +kernel, by decide⟩
theorem cv_L_149 : cvW RL 149 mtX11_whether 4 := ⟨mw_X11_whether, wd1963, wd1964, wd1965⟩
theorem mw_X10_sure : mtW mtX10_sure 4 := ⟨wd1231, wd130, by decide, by decide, by decide +kernel, by decide⟩
theorem cv_L_150 : cvW RL 150 mtX10_sure 4 := ⟨mw_X10_sure, wd1228, wd1229, wd1230⟩
theorem mw_X11_sure : mtW mtX11_sure 4 := ⟨wd1970, wd141, by decide, by decide, by decide +kernel, by decide⟩
theorem cv_L_153 : cvW RL 153 mtX11_sure 4 := ⟨mw_X11_sure, wd1967, wd1968, wd1969⟩
theorem mw_X10_average : mtW mtX10_average 3 := ⟨wd1241, wd130, by decide, by decide, by decide +kernel, by decide⟩
theorem cv_L_154 : cvW RL 154 mtX10_average 3 := ⟨mw_X10_average, wd1238, wd1239, wd1240⟩
theorem mw_X11_average : mtW mtX11_average 3 := ⟨wd1974, wd141, by decide, by decide, by decide +kernel, by decide⟩
theorem cv_L_158 : cvW RL 158 mtX11_average 3 := ⟨mw_X11_average, wd1971, wd1972, wd1973⟩
theorem mw_X10_tally : mtW mtX10_tally 2 := ⟨wd1246, wd130, by decide, by decide, by decide +kernel, by decide⟩
theorem cv_L_159 : cvW RL 159 mtX10_tally 2 := ⟨mw_X10_tally, wd1243, wd1244, wd1245⟩
theorem mw_X11_tally : mtW mtX11_tally 2 := ⟨wd1978, wd141, by decide, by decide, by decide +kernel, by decide⟩
theorem cv_L_162 : cvW RL 162 mtX11_tally 2 := ⟨mw_X11_tally, wd1975, wd1976, wd1977⟩
theorem mw_X10_legs : mtW mtX10_legs 2 := ⟨wd1260, wd130, by decide, by decide, by decide +kernel, by decide⟩
theorem cv_L_163 : cvW RL 163 mtX10_legs 2 := ⟨mw_X10_legs, wd1257, wd1258, wd1259⟩
theorem mw_X11_legs : mtW mtX11_legs 2 := ⟨wd1982, wd141, by decide, by decide, by decide +kernel, by decide⟩
theorem cv_L_166 : cvW RL 166 mtX11_legs 2 := ⟨mw_X11_legs, wd1979, wd1980, wd1981⟩
theorem mw_X10_trippers : mtW mtX10_trippers 3 := ⟨wd1275, wd130, by decide, by decide, by decide +kernel, by decide⟩
theorem cv_L_167 : cvW RL 167 mtX10_trippers 3 := ⟨mw_X10_trippers, wd1272, wd1273, wd1274⟩
theorem mw_X11_stair : mtW mtX11_stair 2 := ⟨wd1493, wd141, by decide, by decide, by decide +kernel, by decide⟩
theorem cv_L_17 : cvW RL 17 mtX11_stair 2 := ⟨mw_X11_stair, wd1490, wd1491, wd1492⟩
theorem mw_X11_trippers : mtW mtX11_trippers 3 := ⟨wd1990, wd141, by decide, by decide, by decide +kernel, by decide⟩
theorem cv_L_170 : cvW RL 170 mtX11_trippers 3 := ⟨mw_X11_trippers, wd1987, wd1988, wd1989⟩
theorem mw_X10_seen : mtW mtX10_seen 4 := ⟨wd1283, wd130, by decide, by decide, by decide +kernel, by decide⟩
theorem cv_L_171 : cvW RL 171 mtX10_seen 4 := ⟨mw_X10_seen, wd1280, wd1281, wd1282⟩
theorem mw_X11_seen : mtW mtX11_seen 4 := ⟨wd1994, wd141, by decide, by decide, by decide +kernel, by decide⟩
theorem cv_L_175 : cvW RL 175 mtX11_seen 4 := ⟨mw_X11_seen, wd1991, wd1992, wd1993⟩
theorem mw_X10_laws : mtW mtX10_laws 0 := ⟨wd1291, wd130, by decide, by decide, by decide +kernel, by decide⟩
theorem cv_L_176 : cvW RL 176 mtX10_laws 0 := ⟨mw_X10_laws, wd1288, wd1289, wd1290⟩
theorem mw_X11_laws : mtW mtX11_laws 0 := ⟨wd1998, wd141, by decide, by decide, by decide +kernel, by decide⟩
theorem cv_L_179 : cvW RL 179 mtX11_laws 0 := ⟨mw_X11_laws, wd1995, wd1996, wd1997⟩
theorem mw_X10_height : mtW mtX10_height 3 := ⟨wd537, wd130, by decide, by decide, by decide +kernel, by decide⟩
theorem cv_L_18 : cvW RL 18 mtX10_height 3 := ⟨mw_X10_height, wd534, wd535, wd536⟩
theorem mw_X10_alike : mtW mtX10_alike 3 := ⟨wd1303, wd130, by decide, by decide, by decide +kernel, by decide⟩
theorem cv_L_180 : cvW RL 180 mtX10_alike 3 := ⟨mw_X10_alike, wd1300, wd1301, wd1302⟩
theorem mw_X11_alike : mtW mtX11_alike 3 := ⟨wd2006, wd141, by decide, by decide, by decide +kernel, by decide⟩
theorem cv_L_183 : cvW RL 183 mtX11_alike 3 := ⟨mw_X11_alike, wd2003, wd2004, wd2005⟩
theorem mw_X10_image : mtW mtX10_image 0 := ⟨wd1348, wd130, by decide, by decide, by decide +kernel, by decide⟩
theorem cv_L_184 : cvW RL 184 mtX10_image 0 := ⟨mw_X10_image, wd1345, wd1346, wd1347⟩
theorem mw_X11_image : mtW mtX11_image 0 := ⟨wd2027, wd141, by decide, by decide, by decide +kernel, by decide⟩
theorem cv_L_187 : cvW RL 187 mtX11_image 0 := ⟨mw_X11_image, wd2024, wd2025, wd2026⟩
theorem mw_X10_back : mtW mtX10_back 0 := ⟨wd1365, wd130, by decide, by decide, by decide +kernel, by decide⟩
theorem cv_L_188 : cvW RL 188 mtX10_back 0 := ⟨mw_X10_back, wd1362, wd1363, wd1364⟩
theorem mw_X11_back : mtW mtX11_back 0 := ⟨wd2031, wd141, by decide, by decide, by decide +kernel, by decide⟩
theorem cv_L_191 : cvW RL 191 mtX11_back 0 := ⟨mw_X11_back, wd2028, wd2029, wd2030⟩
theorem mw_X10_about : mtW mtX10_about 1 := ⟨wd1369, wd130, by decide, by decide, by decide +kernel, by decide⟩
theorem cv_L_192 : cvW RL 192 mtX10_about 1 := ⟨mw_X10_about, wd1366, wd1367, wd1368⟩
theorem mw_X11_about : mtW mtX11_about 1 := ⟨wd2035, wd141, by decide, by decide, by decide +kernel, by decide⟩
theorem cv_L_195 : cvW RL 195 mtX11_about 1 := ⟨mw_X11_about, wd2032, wd2033, wd2034⟩
theorem mw_X11_height : mtW mtX11_height 3 := ⟨wd1507, wd141, by decide, by decide, by decide +kernel, by decide⟩
theorem cv_L_22 : cvW RL 22 mtX11_height 3 := ⟨mw_X11_height, wd1504, wd1505, wd1506⟩
theorem mw_X10_mark : mtW mtX10_mark 3 := ⟨wd552, wd130, by decide, by decide, by decide +kernel, by decide⟩
theorem cv_L_23 : cvW RL 23 mtX10_mark 3 := ⟨mw_X10_mark, wd549, wd550, wd551⟩
theorem mw_X11_mark : mtW mtX11_mark 3 := ⟨wd1519, wd141, by decide, by decide, by decide +kernel, by decide⟩
theorem cv_L_27 : cvW RL 27 mtX11_mark 3 := ⟨mw_X11_mark, wd1516, wd1517, wd1518⟩
theorem mw_X10_rail : mtW mtX10_rail 2 := ⟨wd565, wd130, by decide, by decide, by decide +kernel, by decide⟩
theorem cv_L_28 : cvW RL 28 mtX10_rail 2 := ⟨mw_X10_rail, wd562, wd563, wd564⟩
theorem mw_X11_rail : mtW mtX11_rail 2 := ⟨wd1530, wd141, by decide, by decide, by decide +kernel, by decide⟩
theorem cv_L_31 : cvW RL 31 mtX11_rail 2 := ⟨mw_X11_rail, wd1527, wd1528, wd1529⟩
theorem mw_X10_person : mtW mtX10_person 3 := ⟨wd573, wd130, by decide, by decide, by decide +kernel, by decide⟩
theorem cv_L_32 : cvW RL 32 mtX10_person 3 := ⟨mw_X10_person, wd570, wd571, wd572⟩
theorem mw_X11_person : mtW mtX11_person 3 := ⟨wd1534, wd141, by decide, by decide, by decide +kernel, by decide⟩
theorem cv_L_36 : cvW RL 36 mtX11_person 3 := ⟨mw_X11_person, wd1531, wd1532, wd1533⟩
theorem mw_X10_seed : mtW mtX10_seed 1 := ⟨wd581, wd130, by decide, by decide, by decide +kernel, by decide⟩
theorem cv_L_37 : cvW RL 37 mtX10_seed 1 := ⟨mw_X10_seed, wd578, wd579, wd580⟩
theorem mw_X11_seed : mtW mtX11_seed 1 := ⟨wd1538, wd141, by decide, by decide, by decide +kernel, by decide⟩
theorem cv_L_41 : cvW RL 41 mtX11_seed 1 := ⟨mw_X11_seed, wd1535, wd1536, wd1537⟩
theorem mw_X10_feed : mtW mtX10_feed 5 := ⟨wd591, wd130, by decide, by decide, by decide +kernel, by decide⟩
theorem cv_L_42 : cvW RL 42 mtX10_feed 5 := ⟨mw_X10_feed, wd588, wd589, wd590⟩
theorem mw_X11_feed : mtW mtX11_feed 5 := ⟨wd1542, wd141, by decide, by decide, by decide +kernel, by decide⟩
theorem cv_L_46 : cvW RL 46 mtX11_feed 5 := ⟨mw_X11_feed, wd1539, wd1540, wd1541⟩
theorem mw_X10_end : mtW mtX10_end 1 := ⟨wd604, wd130, by decide, by decide, by decide +kernel, by decide⟩
theorem cv_L_47 : cvW RL 47 mtX10_end 1 := ⟨mw_X10_end, wd601, wd602, wd603⟩
theorem mw_X11_end : mtW mtX11_end 1 := ⟨wd1550, wd141, by decide, by decide, by decide +kernel, by decide⟩
theorem cv_L_51 : cvW RL 51 mtX11_end 1 := ⟨mw_X11_end, wd1547, wd1548, wd1549⟩
theorem mw_X10_text : mtW mtX10_text 0 := ⟨wd608, wd130, by decide, by decide, by decide +kernel, by decide⟩
theorem cv_L_52 : cvW RL 52 mtX10_text 0 := ⟨mw_X10_text, wd605, wd606, wd607⟩
theorem mw_X11_text : mtW mtX11_text 0 := ⟨wd1554, wd141, by decide, by decide, by decide +kernel, by decide⟩
theorem cv_L_56 : cvW RL 56 mtX11_text 0 := ⟨mw_X11_text, wd1551, wd1552, wd1553⟩
theorem mw_X10_fault : mtW mtX10_fault 1 := ⟨wd836, wd130, by decide, by decide, by decide +kernel, by decide⟩
theorem cv_L_57 : cvW RL 57 mtX10_fault 1 := ⟨mw_X10_fault, wd833, wd834, wd835⟩
theorem mw_X11_fault : mtW mtX11_fault 1 := ⟨wd1704, wd141, by decide, by decide, by decide +kernel, by decide⟩
theorem cv_L_60 : cvW RL 60 mtX11_fault 1 := ⟨mw_X11_fault, wd1701, wd1702, wd1703⟩
theorem mw_X10_by : mtW mtX10_by 1 := ⟨wd840, wd130, by decide, by decide, by decide +kernel, by decide⟩
theorem cv_L_61 : cvW RL 61 mtX10_by 1 := ⟨mw_X10_by, wd837, wd838, wd839⟩
theorem mw_X11_by : mtW mtX11_by 1 := ⟨wd1708, wd141, by decide, by decide, by decide +kernel, by decide⟩
theorem cv_L_64 : cvW RL 64 mtX11_by 1 := ⟨mw_X11_by, wd1705, wd1706, wd1707⟩
theorem mw_X10_begin : mtW mtX10_begin 3 := ⟨wd848, wd130, by decide, by decide, by decide +kernel, by decide⟩
theorem cv_L_65 : cvW RL 65 mtX10_begin 3 := ⟨mw_X10_begin, wd845, wd846, wd847⟩
theorem mw_X11_begin : mtW mtX11_begin 3 := ⟨wd1795, wd141, by decide, by decide, by decide +kernel, by decide⟩
theorem cv_L_68 : cvW RL 68 mtX11_begin 3 := ⟨mw_X11_begin, wd1792, wd1793, wd1794⟩
theorem mw_X10_step : mtW mtX10_step 0 := ⟨wd880, wd130, by decide, by decide, by decide +kernel, by decide⟩
theorem cv_L_69 : cvW RL 69 mtX10_step 0 := ⟨mw_X10_step, wd877, wd878, wd879⟩
theorem mw_X11_step : mtW mtX11_step 0 := ⟨wd1815, wd141, by decide, by decide, by decide +kernel, by decide⟩
theorem cv_L_72 : cvW RL 72 mtX11_step 0 := ⟨mw_X11_step, wd1812, wd1813, wd1814⟩
theorem mw_X10_toe : mtW mtX10_toe 0 := ⟨wd966, wd130, by decide, by decide, by decide +kernel, by decide⟩
theorem cv_L_73 : cvW RL 73 mtX10_toe 0 := ⟨mw_X10_toe, wd963, wd964, wd965⟩
theorem mw_X11_toe : mtW mtX11_toe 0 := ⟨wd1831, wd141, by decide, by decide, by decide +kernel, by decide⟩
theorem cv_L_76 : cvW RL 76 mtX11_toe 0 := ⟨mw_X11_toe, wd1828, wd1829, wd1830⟩
theorem mw_X10_stop : mtW mtX10_stop 0 := ⟨wd974, wd130, by decide, by decide, by decide +kernel, by decide⟩
theorem cv_L_77 : cvW RL 77 mtX10_stop 0 := ⟨mw_X10_stop, wd971, wd972, wd973⟩
theorem mw_X11_stop : mtW mtX11_stop 0 := ⟨wd1839, wd141, by decide, by decide, by decide +kernel, by decide⟩
theorem cv_L_80 : cvW RL 80 mtX11_stop 0 := ⟨mw_X11_stop, wd1836, wd1837, wd1838⟩
theorem mw_X10_night : mtW mtX10_night 1 := ⟨wd982, wd130, by decide, by decide, by decide +kernel, by decide⟩
theorem cv_L_81 : cvW RL 81 mtX10_night 1 := ⟨mw_X10_night, wd979, wd980, wd981⟩
theorem mw_X11_night : mtW mtX11_night 1 := ⟨wd1843, wd141, by decide, by decide, by decide +kernel, by decide⟩
theorem cv_L_84 : cvW RL 84 mtX11_night 1 := ⟨mw_X11_night, wd1840, wd1841, wd1842⟩
theorem mw_X10_played : mtW mtX10_played 1 := ⟨wd990, wd130, by decide, by decide, by decide +kernel, by decide⟩
theorem cv_L_85 : cvW RL 85 mtX10_played 1 := ⟨mw_X10_played, wd987, wd988, wd989⟩
theorem mw_X11_played : mtW mtX11_played 1 := ⟨wd1851, wd141, by decide, by decide, by decide +kernel, by decide⟩
theorem cv_L_88 : cvW RL 88 mtX11_played 1 := ⟨mw_X11_played, wd1848, wd1849, wd1850⟩
theorem mw_X10_week : mtW mtX10_week 2 := ⟨wd1021, wd130, by decide, by decide, by decide +kernel, by decide⟩
theorem cv_L_89 : cvW RL 89 mtX10_week 2 := ⟨mw_X10_week, wd1018, wd1019, wd1020⟩
theorem mw_X11_week : mtW mtX11_week 2 := ⟨wd1872, wd141, by decide, by decide, by decide +kernel, by decide⟩
theorem cv_L_93 : cvW RL 93 mtX11_week 2 := ⟨mw_X11_week, wd1869, wd1870, wd1871⟩
theorem mw_X10_undo : mtW mtX10_undo 0 := ⟨wd1040, wd130, by decide, by decide, by decide +kernel, by decide⟩
theorem cv_L_94 : cvW RL 94 mtX10_undo 0 := ⟨mw_X10_undo, wd1037, wd1038, wd1039⟩
theorem mw_X11_undo : mtW mtX11_undo 0 := ⟨wd1791, wd141, by decide, by decide, by decide +kernel, by decide⟩
theorem cv_L_97 : cvW RL 97 mtX11_undo 0 := ⟨mw_X11_undo, wd1788, wd1789, wd1790⟩
theorem mw_X10_way : mtW mtX10_way 1 := ⟨wd1048, wd130, by decide, by decide, by decide +kernel, by decide⟩
theorem cv_L_98 : cvW RL 98 mtX10_way 1 := ⟨mw_X10_way, wd1045, wd1046, wd1047⟩
theorem mw_X0_hasStep : mtW mtX0_hasStep 1 := ⟨wd545, wd133, by decide, by decide, by decide +kernel, by decide⟩
theorem cv_X0_31 : cvW RX0 31 mtX0_hasStep 1 := ⟨mw_X0_hasStep, wd561, wd543, wd544⟩
theorem mw_X7_take : mtW mtX7_take 1 := ⟨wd599, wd135, by decide, by decide, by decide +kernel, by decide⟩
theorem cv_X10_103 : cvW RX10 103 mtX7_take 1 := ⟨mw_X7_take, wd596, wd597, wd598⟩
theorem mw_X4_read : mtW mtX4_read 0 := ⟨wd612, wd136, by decide, by decide, by decide +kernel, by decide⟩
theorem cv_X10_113 : cvW RX10 113 mtX4_read 0 := ⟨mw_X4_read, wd609, wd610, wd611⟩
theorem mw_X5_keepText : mtW mtX5_keepText 1 := ⟨wd832, wd132, by decide, by decide, by decide +kernel, by decide⟩
theorem cv_X10_117 : cvW RX10 117 mtX5_keepText 1 := ⟨mw_X5_keepText, wd829, wd830, wd831⟩
theorem mw_X5_textOf : mtW mtX5_textOf 1 := ⟨wd844, wd132, by decide, by decide, by decide +kernel, by decide⟩
theorem cv_X10_127 : cvW RX10 127 mtX5_textOf 1 := ⟨mw_X5_textOf, wd841, wd842, wd843⟩
theorem mw_X9_beginAct : mtW mtX9_beginAct 3 := ⟨wd852, wd137, by decide, by decide, by decide +kernel, by decide⟩
theorem cv_X10_134 : cvW RX10 134 mtX9_beginAct 3 := ⟨mw_X9_beginAct, wd849, wd850, wd851⟩
theorem mw_X9_stepAct : mtW mtX9_stepAct 0 := ⟨wd884, wd137, by decide, by decide, by decide +kernel, by decide⟩
theorem cv_X10_137 : cvW RX10 137 mtX9_stepAct 0 := ⟨mw_X9_stepAct, wd881, wd882, wd883⟩
theorem mw_X9_toeAct : mtW mtX9_toeAct 0 := ⟨wd970, wd137, by decide, by decide, by decide +kernel, by decide⟩
theorem cv_X10_141 : cvW RX10 141 mtX9_toeAct 0 := ⟨mw_X9_toeAct, wd967, wd968, wd969⟩
theorem mw_X9_stopAct : mtW mtX9_stopAct 0 := ⟨wd978, wd137, by decide, by decide, by decide +kernel, by decide⟩
theorem cv_X10_144 : cvW RX10 144 mtX9_stopAct 0 := ⟨mw_X9_stopAct, wd975, wd976, wd977⟩
theorem mw_X9_nightAct : mtW mtX9_nightAct 0 := ⟨wd986, wd137, by decide, by decide, by decide +kernel, by decide⟩
theorem cv_X10_150 : cvW RX10 150 mtX9_nightAct 0 := ⟨mw_X9_nightAct, wd983, wd984, wd985⟩
theorem mw_X9_playedBy : mtW mtX9_playedBy 1 := ⟨wd994, wd137, by decide, by decide, by decide +kernel, by decide⟩
theorem cv_X10_153 : cvW RX10 153 mtX9_playedBy 1 := ⟨mw_X9_playedBy, wd991, wd992, wd993⟩
theorem mw_X9_weekAct : mtW mtX9_weekAct 2 := ⟨wd1025, wd137, by decide, by decide, by decide +kernel, by decide⟩
theorem cv_X10_159 : cvW RX10 159 mtX9_weekAct 2 := ⟨mw_X9_weekAct, wd1022, wd1023, wd1024⟩
theorem mw_X5_takeBack : mtW mtX5_takeBack 0 := ⟨wd1044, wd132, by decide, by decide, by decide +kernel, by decide⟩
theorem cv_X10_163 : cvW RX10 163 mtX5_takeBack 0 := ⟨mw_X5_takeBack, wd1041, wd1042, wd1043⟩
theorem mw_X5_isOnWay : mtW mtX5_isOnWay 0 := ⟨wd529, wd132, by decide, by decide, by decide +kernel, by decide⟩
theorem cv_X10_166 : cvW RX10 166 mtX5_isOnWay 0 := ⟨mw_X5_isOnWay, wd1049, wd527, wd528⟩
theorem mw_X5_wayOf : mtW mtX5_wayOf 1 := ⟨wd1053, wd132, by decide, by decide, by decide +kernel, by decide⟩
theorem cv_X10_169 : cvW RX10 169 mtX5_wayOf 1 := ⟨mw_X5_wayOf, wd1050, wd1051, wd1052⟩
theorem mw_X5_houseOf : mtW mtX5_houseOf 1 := ⟨wd525, wd132, by decide, by decide, by decide +kernel, by decide⟩
theorem cv_X10_172 : cvW RX10 172 mtX5_houseOf 1 := ⟨mw_X5_houseOf, wd1058, wd523, wd524⟩
theorem cv_X10_187 : cvW RX10 187 mtX0_hasStep 1 := ⟨mw_X0_hasStep, wd1059, wd543, wd544⟩
theorem mw_X0_highOf : mtW mtX0_highOf 1 := ⟨wd941, wd133, by decide, by decide, by decide +kernel, by decide⟩
theorem cv_X10_190 : cvW RX10 190 mtX0_highOf 1 := ⟨mw_X0_highOf, wd1060, wd939, wd940⟩
theorem mw_X6_saidOf : mtW mtX6_saidOf 5 := ⟨wd1068, wd139, by decide, by decide, by decide +kernel, by decide⟩
theorem cv_X10_193 : cvW RX10 193 mtX6_saidOf 5 := ⟨mw_X6_saidOf, wd1065, wd1066, wd1067⟩
theorem mw_X5_lines : mtW mtX5_lines 0 := ⟨wd1029, wd132, by decide, by decide, by decide +kernel, by decide⟩
theorem cv_X10_197 : cvW RX10 197 mtX5_lines 0 := ⟨mw_X5_lines, wd1084, wd1027, wd1028⟩
theorem mw_X5_lineOf : mtW mtX5_lineOf 2 := ⟨wd1033, wd132, by decide, by decide, by decide +kernel, by decide⟩
theorem cv_X10_200 : cvW RX10 200 mtX5_lineOf 2 := ⟨mw_X5_lineOf, wd1085, wd1031, wd1032⟩
theorem mw_X3_look : mtW mtX3_look 3 := ⟨wd1093, wd138, by decide, by decide, by decide +kernel, by decide⟩
theorem cv_X10_203 : cvW RX10 203 mtX3_look 3 := ⟨mw_X3_look, wd1090, wd1091, wd1092⟩
theorem mw_X3_oddsAt : mtW mtX3_oddsAt 3 := ⟨wd1109, wd138, by decide, by decide, by decide +kernel, by decide⟩
theorem cv_X10_206 : cvW RX10 206 mtX3_oddsAt 3 := ⟨mw_X3_oddsAt, wd1106, wd1107, wd1108⟩
theorem mw_X3_spread : mtW mtX3_spread 0 := ⟨wd1114, wd138, by decide, by decide, by decide +kernel, by decide⟩
theorem cv_X10_212 : cvW RX10 212 mtX3_spread 0 := ⟨mw_X3_spread, wd1156, wd1112, wd1113⟩
theorem mw_X3_costFrom : mtW mtX3_costFrom 2 := ⟨wd1160, wd138, by decide, by decide, by decide +kernel, by decide⟩
theorem cv_X10_215 : cvW RX10 215 mtX3_costFrom 2 := ⟨mw_X3_costFrom, wd1157, wd1158, wd1159⟩
theorem mw_X3_chooseFrom : mtW mtX3_chooseFrom 0 := ⟨wd1176, wd138, by decide, by decide, by decide +kernel, by decide⟩
theorem cv_X10_219 : cvW RX10 219 mtX3_chooseFrom 0 := ⟨mw_X3_chooseFrom, wd1173, wd1174, wd1175⟩
theorem mw_X3_bestMark : mtW mtX3_bestMark 0 := ⟨wd1184, wd138, by decide, by decide, by decide +kernel, by decide⟩
theorem cv_X10_225 : cvW RX10 225 mtX3_bestMark 0 := ⟨mw_X3_bestMark, wd1181, wd1182, wd1183⟩
theorem mw_X3_goesWithLoad : mtW mtX3_goesWithLoad 2 := ⟨wd1193, wd138, by decide, by decide, by decide +kernel, by decide⟩
theorem cv_X10_228 : cvW RX10 228 mtX3_goesWithLoad 2 := ⟨mw_X3_goesWithLoad, wd1190, wd1191, wd1192⟩
theorem mw_X3_lampNights : mtW mtX3_lampNights 2 := ⟨wd1203, wd138, by decide, by decide, by decide +kernel, by decide⟩
theorem cv_X10_231 : cvW RX10 231 mtX3_lampNights 2 := ⟨mw_X3_lampNights, wd1200, wd1201, wd1202⟩
theorem mw_X3_oddsOfHouse : mtW mtX3_oddsOfHouse 4 := ⟨wd1215, wd138, by decide, by decide, by decide +kernel, by decide⟩
theorem cv_X10_234 : cvW RX10 234 mtX3_oddsOfHouse 4 := ⟨mw_X3_oddsOfHouse, wd1212, wd1213, wd1214⟩
theorem mw_X3_oddsOfLanding : mtW mtX3_oddsOfLanding 2 := ⟨wd1227, wd138, by decide, by decide, by decide +kernel, by decide⟩
theorem cv_X10_238 : cvW RX10 238 mtX3_oddsOfLanding 2 := ⟨mw_X3_oddsOfLanding, wd1224, wd1225, wd1226⟩
theorem mw_X3_oddsOfSure : mtW mtX3_oddsOfSure 4 := ⟨wd1236, wd138, by decide, by decide, by decide +kernel, by decide⟩
theorem cv_X10_245 : cvW RX10 245 mtX3_oddsOfSure 4 := ⟨mw_X3_oddsOfSure, wd1233, wd1234, wd1235⟩
theorem mw_X6_tallied : mtW mtX6_tallied 2 := ⟨wd1250, wd139, by decide, by decide, by decide +kernel, by decide⟩
theorem cv_X10_252 : cvW RX10 252 mtX6_tallied 2 := ⟨mw_X6_tallied, wd1247, wd1248, wd1249⟩
theorem mw_X6_legsOf : mtW mtX6_legsOf 2 := ⟨wd1264, wd139, by decide, by decide, by decide +kernel, by decide⟩
theorem cv_X10_255 : cvW RX10 255 mtX6_legsOf 2 := ⟨mw_X6_legsOf, wd1261, wd1262, wd1263⟩
theorem mw_X6_trippersAt : mtW mtX6_trippersAt 3 := ⟨wd1279, wd139, by decide, by decide, by decide +kernel, by decide⟩
theorem cv_X10_258 : cvW RX10 258 mtX6_trippersAt 3 := ⟨mw_X6_trippersAt, wd1276, wd1277, wd1278⟩
theorem mw_X6_see : mtW mtX6_see 4 := ⟨wd1287, wd139, by decide, by decide, by decide +kernel, by decide⟩
theorem cv_X10_261 : cvW RX10 261 mtX6_see 4 := ⟨mw_X6_see, wd1284, wd1285, wd1286⟩
theorem mw_X6_lawsOfSeen : mtW mtX6_lawsOfSeen 0 := ⟨wd1295, wd139, by decide, by decide, by decide +kernel, by decide⟩
theorem cv_X10_265 : cvW RX10 265 mtX6_lawsOfSeen 0 := ⟨mw_X6_lawsOfSeen, wd1292, wd1293, wd1294⟩
theorem mw_X2_levelled : mtW mtX2_levelled 3 := ⟨wd1307, wd140, by decide, by decide, by decide +kernel, by decide⟩
theorem cv_X10_268 : cvW RX10 268 mtX2_levelled 3 := ⟨mw_X2_levelled, wd1304, wd1305, wd1306⟩
theorem mw_X5_become : mtW mtX5_become 1 := ⟨wd1352, wd132, by decide, by decide, by decide +kernel, by decide⟩
theorem cv_X10_272 : cvW RX10 272 mtX5_become 1 := ⟨mw_X5_become, wd1349, wd1350, wd1351⟩
theorem mw_X5_toldHouses : mtW mtX5_toldHouses 0 := ⟨wd1373, wd132, by decide, by decide, by decide +kernel, by decide⟩
theorem cv_X10_282 : cvW RX10 282 mtX5_toldHouses 0 := ⟨mw_X5_toldHouses, wd1370, wd1371, wd1372⟩
theorem mw_X5_aboutPerson : mtW mtX5_aboutPerson 1 := ⟨wd1377, wd132, by decide, by decide, by decide +kernel, by decide⟩
theorem cv_X10_285 : cvW RX10 285 mtX5_aboutPerson 1 := ⟨mw_X5_aboutPerson, wd1374, wd1375, wd1376⟩
theorem mw_X5_tellStairs : mtW mtX5_tellStairs 2 := ⟨wd521, wd132, by decide, by decide, by decide +kernel, by decide⟩
theorem cv_X10_68 : cvW RX10 68 mtX5_tellStairs 2 := ⟨mw_X5_tellStairs, wd518, wd519, wd520⟩
theorem mw_X5_tellHeight : mtW mtX5_tellHeight 3 := ⟨wd541, wd132, by decide, by decide, by decide +kernel, by decide⟩
theorem cv_X10_72 : cvW RX10 72 mtX5_tellHeight 3 := ⟨mw_X5_tellHeight, wd538, wd539, wd540⟩
theorem mw_X5_tellMark : mtW mtX5_tellMark 3 := ⟨wd556, wd132, by decide, by decide, by decide +kernel, by decide⟩
theorem cv_X10_76 : cvW RX10 76 mtX5_tellMark 3 := ⟨mw_X5_tellMark, wd553, wd554, wd555⟩
theorem mw_X5_tellRail : mtW mtX5_tellRail 2 := ⟨wd569, wd132, by decide, by decide, by decide +kernel, by decide⟩
theorem cv_X10_80 : cvW RX10 80 mtX5_tellRail 2 := ⟨mw_X5_tellRail, wd566, wd567, wd568⟩
theorem mw_X5_tellPerson : mtW mtX5_tellPerson 3 := ⟨wd577, wd132, by decide, by decide, by decide +kernel, by decide⟩
theorem cv_X10_83 : cvW RX10 83 mtX5_tellPerson 3 := ⟨mw_X5_tellPerson, wd574, wd575, wd576⟩
theorem mw_X7_hasRoom : mtW mtX7_hasRoom 0 := ⟨wd595, wd135, by decide, by decide, by decide +kernel, by decide⟩
theorem cv_X10_99 : cvW RX10 99 mtX7_hasRoom 0 := ⟨mw_X7_hasRoom, wd592, wd593, wd594⟩
theorem mw_X11_byteAt : mtW mtX11_byteAt 1 := ⟨wd1566, wd141, by decide, by decide, by decide +kernel, by decide⟩
theorem cv_X11_101 : cvW RX11 101 mtX11_byteAt 1 := ⟨mw_X11_byteAt, wd1563, wd1565, wd60⟩
theorem mw_X11_emit : mtW mtX11_emit 2 := ⟨wd1642, wd141, by decide, by decide, by decide +kernel, by decide⟩
theorem cv_X11_155 : cvW RX11 155 mtX11_emit 2 := ⟨mw_X11_emit, wd1639, wd1641, wd74⟩
theorem mw_X11_settle : mtW mtX11_settle 1 := ⟨wd1638, wd141, by decide, by decide, by decide +kernel, by decide⟩
theorem cv_X11_165 : cvW RX11 165 mtX11_settle 1 := ⟨mw_X11_settle, wd1635, wd1637, wd73⟩
theorem mw_X11_marker : mtW mtX11_marker 0 := ⟨wd1622, wd141, by decide, by decide, by decide +kernel, by decide⟩
theorem cv_X11_168 : cvW RX11 168 mtX11_marker 0 := ⟨mw_X11_marker, wd1619, wd1621, wd70⟩
theorem mw_X11_kindOpen : mtW mtX11_kindOpen 1 := ⟨wd1618, wd141, by decide, by decide, by decide +kernel, by decide⟩
theorem cv_X11_172 : cvW RX11 172 mtX11_kindOpen 1 := ⟨mw_X11_kindOpen, wd1615, wd1617, wd69⟩
theorem mw_X11_push : mtW mtX11_push 1 := ⟨wd1646, wd141, by decide, by decide, by decide +kernel, by decide⟩
theorem cv_X11_176 : cvW RX11 176 mtX11_push 1 := ⟨mw_X11_push, wd1643, wd1645, wd75⟩
theorem mw_X11_nextToken : mtW mtX11_nextToken 0 := ⟨wd1562, wd141, by decide, by decide, by decide +kernel, by decide⟩
theorem cv_X11_179 : cvW RX11 179 mtX11_nextToken 0 := ⟨mw_X11_nextToken, wd1559, wd1561, wd59⟩
theorem mw_X11_nameOf : mtW mtX11_nameOf 0 := ⟨wd1658, wd141, by decide, by decide, by decide +kernel, by decide⟩
theorem cv_X11_182 : cvW RX11 182 mtX11_nameOf 0 := ⟨mw_X11_nameOf, wd1655, wd1657, wd78⟩
theorem mw_X11_isOf : mtW mtX11_isOf 1 := ⟨wd1665, wd141, by decide, by decide, by decide +kernel, by decide⟩
theorem cv_X11_185 : cvW RX11 185 mtX11_isOf 1 := ⟨mw_X11_isOf, wd1662, wd1664, wd79⟩
theorem mw_X11_whole : mtW mtX11_whole 0 := ⟨wd1650, wd141, by decide, by decide, by decide +kernel, by decide⟩
theorem cv_X11_188 : cvW RX11 188 mtX11_whole 0 := ⟨mw_X11_whole, wd1647, wd1649, wd76⟩
theorem mw_X11_opensBy : mtW mtX11_opensBy 1 := ⟨wd1669, wd141, by decide, by decide, by decide +kernel, by decide⟩
theorem cv_X11_191 : cvW RX11 191 mtX11_opensBy 1 := ⟨mw_X11_opensBy, wd1666, wd1668, wd80⟩
theorem mw_X11_isWord : mtW mtX11_isWord 1 := ⟨wd1591, wd141, by decide, by decide, by decide +kernel, by decide⟩
theorem cv_X11_196 : cvW RX11 196 mtX11_isWord 1 := ⟨mw_X11_isWord, wd1588, wd1590, wd63⟩
theorem mw_X11_isAskAhead : mtW mtX11_isAskAhead 1 := ⟨wd1674, wd141, by decide, by decide, by decide +kernel, by decide⟩
theorem cv_X11_200 : cvW RX11 200 mtX11_isAskAhead 1 := ⟨mw_X11_isAskAhead, wd1671, wd1673, wd81⟩
theorem mw_X11_isCompared : mtW mtX11_isCompared 0 := ⟨wd1626, wd141, by decide, by decide, by decide +kernel, by decide⟩
theorem cv_X11_204 : cvW RX11 204 mtX11_isCompared 0 := ⟨mw_X11_isCompared, wd1623, wd1625, wd71⟩
theorem mw_X11_compareOf : mtW mtX11_compareOf 0 := ⟨wd1633, wd141, by decide, by decide, by decide +kernel, by decide⟩
theorem cv_X11_208 : cvW RX11 208 mtX11_compareOf 0 := ⟨mw_X11_compareOf, wd1630, wd1632, wd72⟩
theorem mw_X11_betweenOf : mtW mtX11_betweenOf 1 := ⟨wd1614, wd141, by decide, by decide, by decide +kernel, by decide⟩
theorem cv_X11_213 : cvW RX11 213 mtX11_betweenOf 1 := ⟨mw_X11_betweenOf, wd1611, wd1613, wd68⟩
theorem mw_X11_behindOne : mtW mtX11_behindOne 1 := ⟨wd1610, wd141, by decide, by decide, by decide +kernel, by decide⟩
theorem cv_X11_216 : cvW RX11 216 mtX11_behindOne 1 := ⟨mw_X11_behindOne, wd1607, wd1609, wd67⟩
theorem mw_X11_beginOne : mtW mtX11_beginOne 1 := ⟨wd1654, wd141, by decide, by decide, by decide +kernel, by decide⟩
theorem cv_X11_219 : cvW RX11 219 mtX11_beginOne 1 := ⟨mw_X11_beginOne, wd1651, wd1653, wd77⟩
theorem mw_X11_figure : mtW mtX11_figure 3 := ⟨wd1682, wd141, by decide, by decide, by decide +kernel, by decide⟩
theorem cv_X11_222 : cvW RX11 222 mtX11_figure 3 := ⟨mw_X11_figure, wd1679, wd1681, wd83⟩
theorem mw_X11_worded : mtW mtX11_worded 4 := ⟨wd1687, wd141, by decide, by decide, by decide +kernel, by decide⟩
theorem cv_X11_228 : cvW RX11 228 mtX11_worded 4 := ⟨mw_X11_worded, wd1684, wd1686, wd84⟩
theorem mw_X11_parsed : mtW mtX11_parsed 1 := ⟨wd1606, wd141, by decide, by decide, by decide +kernel, by decide⟩
theorem cv_X11_232 : cvW RX11 232 mtX11_parsed 1 := ⟨mw_X11_parsed, wd1603, wd1605, wd66⟩
theorem mw_X11_ofHouse : mtW mtX11_ofHouse 1 := ⟨wd1691, wd141, by decide, by decide, by decide +kernel, by decide⟩
theorem cv_X11_237 : cvW RX11 237 mtX11_ofHouse 1 := ⟨mw_X11_ofHouse, wd1688, wd1690, wd85⟩
theorem mw_X11_lawClause : mtW mtX11_lawClause 2 := ⟨wd1602, wd141, by decide, by decide, by decide +kernel, by decide⟩
theorem cv_X11_240 : cvW RX11 240 mtX11_lawClause 2 := ⟨mw_X11_lawClause, wd1599, wd1601, wd65⟩
theorem mw_X11_highClause : mtW mtX11_highClause 1 := ⟨wd1678, wd141, by decide, by decide, by decide +kernel, by decide⟩
theorem cv_X11_244 : cvW RX11 244 mtX11_highClause 1 := ⟨mw_X11_highClause, wd1675, wd1677, wd82⟩
theorem mw_X11_oneClause : mtW mtX11_oneClause 1 := ⟨wd1696, wd141, by decide, by decide, by decide +kernel, by decide⟩
theorem cv_X11_247 : cvW RX11 247 mtX11_oneClause 1 := ⟨mw_X11_oneClause, wd1693, wd1695, wd86⟩
theorem mw_X11_pair : mtW mtX11_pair 2 := ⟨wd1700, wd141, by decide, by decide, by decide +kernel, by decide⟩
theorem cv_X11_250 : cvW RX11 250 mtX11_pair 2 := ⟨mw_X11_pair, wd1697, wd1699, wd87⟩
theorem mw_X11_sortOf : mtW mtX11_sortOf 0 := ⟨wd1581, wd141, by decide, by decide, by decide +kernel, by decide⟩
theorem cv_X11_253 : cvW RX11 253 mtX11_sortOf 0 := ⟨mw_X11_sortOf, wd1578, wd1580, wd62⟩
theorem mw_X11_body : mtW mtX11_body 2 := ⟨wd1598, wd141, by decide, by decide, by decide +kernel, by decide⟩
theorem cv_X11_262 : cvW RX11 262 mtX11_body 2 := ⟨mw_X11_body, wd1595, wd1597, wd64⟩
theorem mw_X11_clause : mtW mtX11_clause 0 := ⟨wd1577, wd141, by decide, by decide, by decide +kernel, by decide⟩
theorem cv_X11_265 : cvW RX11 265 mtX11_clause 0 := ⟨mw_X11_clause, wd1574, wd1576, wd61⟩
theorem mw_X11_readText : mtW mtX11_readText 0 := ⟨wd1558, wd141, by decide, by decide, by decide +kernel, by decide⟩
theorem cv_X11_268 : cvW RX11 268 mtX11_readText 0 := ⟨mw_X11_readText, wd1555, wd1557, wd58⟩
theorem mw_X11_railOf : mtW mtX11_railOf 1 := ⟨wd1744, wd141, by decide, by decide, by decide +kernel, by decide⟩
theorem cv_X11_287 : cvW RX11 287 mtX11_railOf 1 := ⟨mw_X11_railOf, wd1741, wd1743, wd95⟩
theorem mw_X11_clauseOf : mtW mtX11_clauseOf 2 := ⟨wd1752, wd141, by decide, by decide, by decide +kernel, by decide⟩
theorem cv_X11_290 : cvW RX11 290 mtX11_clauseOf 2 := ⟨mw_X11_clauseOf, wd1749, wd1751, wd97⟩
theorem mw_X11_work : mtW mtX11_work 2 := ⟨wd1756, wd141, by decide, by decide, by decide +kernel, by decide⟩
theorem cv_X11_293 : cvW RX11 293 mtX11_work 2 := ⟨mw_X11_work, wd1753, wd1755, wd98⟩
theorem mw_X11_name : mtW mtX11_name 3 := ⟨wd1732, wd141, by decide, by decide, by decide +kernel, by decide⟩
theorem cv_X11_296 : cvW RX11 296 mtX11_name 3 := ⟨mw_X11_name, wd1729, wd1731, wd92⟩
theorem mw_X11_heightOf : mtW mtX11_heightOf 2 := ⟨wd1736, wd141, by decide, by decide, by decide +kernel, by decide⟩
theorem cv_X11_300 : cvW RX11 300 mtX11_heightOf 2 := ⟨mw_X11_heightOf, wd1733, wd1735, wd93⟩
theorem mw_X11_nameStep : mtW mtX11_nameStep 5 := ⟨wd1740, wd141, by decide, by decide, by decide +kernel, by decide⟩
theorem cv_X11_303 : cvW RX11 303 mtX11_nameStep 5 := ⟨mw_X11_nameStep, wd1737, wd1739, wd94⟩
theorem mw_X11_nameAt : mtW mtX11_nameAt 4 := ⟨wd1728, wd141, by decide, by decide, by decide +kernel, by decide⟩
theorem cv_X11_307 : cvW RX11 307 mtX11_nameAt 4 := ⟨mw_X11_nameAt, wd1725, wd1727, wd91⟩
theorem mw_X11_sumBy : mtW mtX11_sumBy 3 := ⟨wd1748, wd141, by decide, by decide, by decide +kernel, by decide⟩
theorem cv_X11_311 : cvW RX11 311 mtX11_sumBy 3 := ⟨mw_X11_sumBy, wd1745, wd1747, wd96⟩
theorem mw_X11_noneAt : mtW mtX11_noneAt 4 := ⟨wd1724, wd141, by decide, by decide, by decide +kernel, by decide⟩
theorem cv_X11_314 : cvW RX11 314 mtX11_noneAt 4 := ⟨mw_X11_noneAt, wd1721, wd1723, wd90⟩
theorem mw_X11_tripsBy : mtW mtX11_tripsBy 7 := ⟨wd1779, wd141, by decide, by decide, by decide +kernel, by decide⟩
theorem cv_X11_318 : cvW RX11 318 mtX11_tripsBy 7 := ⟨mw_X11_tripsBy, wd1776, wd1778, wd101⟩
theorem mw_X11_isPerson : mtW mtX11_isPerson 1 := ⟨wd1720, wd141, by decide, by decide, by decide +kernel, by decide⟩
theorem cv_X11_322 : cvW RX11 322 mtX11_isPerson 1 := ⟨mw_X11_isPerson, wd1717, wd1719, wd89⟩
theorem mw_X11_isMind : mtW mtX11_isMind 3 := ⟨wd1716, wd141, by decide, by decide, by decide +kernel, by decide⟩
theorem cv_X11_325 : cvW RX11 325 mtX11_isMind 3 := ⟨mw_X11_isMind, wd1713, wd1715, wd88⟩
theorem mw_X11_twiceAt : mtW mtX11_twiceAt 4 := ⟨wd1771, wd141, by decide, by decide, by decide +kernel, by decide⟩
theorem cv_X11_328 : cvW RX11 328 mtX11_twiceAt 4 := ⟨mw_X11_twiceAt, wd1768, wd1770, wd99⟩
theorem mw_X11_tripsAt : mtW mtX11_tripsAt 4 := ⟨wd1775, wd141, by decide, by decide, by decide +kernel, by decide⟩
theorem cv_X11_331 : cvW RX11 331 mtX11_tripsAt 4 := ⟨mw_X11_tripsAt, wd1772, wd1774, wd100⟩
theorem mw_X11_jarOf : mtW mtX11_jarOf 3 := ⟨wd1783, wd141, by decide, by decide, by decide +kernel, by decide⟩
theorem cv_X11_335 : cvW RX11 335 mtX11_jarOf 3 := ⟨mw_X11_jarOf, wd1780, wd1782, wd102⟩
theorem mw_X11_fallOf : mtW mtX11_fallOf 3 := ⟨wd1787, wd141, by decide, by decide, by decide +kernel, by decide⟩
theorem cv_X11_338 : cvW RX11 338 mtX11_fallOf 3 := ⟨mw_X11_fallOf, wd1784, wd1786, wd103⟩
theorem mw_X11_anew : mtW mtX11_anew 0 := ⟨wd1811, wd141, by decide, by decide, by decide +kernel, by decide⟩
theorem cv_X11_341 : cvW RX11 341 mtX11_anew 0 := ⟨mw_X11_anew, wd1808, wd1810, wd107⟩
theorem mw_X11_drawn : mtW mtX11_drawn 0 := ⟨wd1807, wd141, by decide, by decide, by decide +kernel, by decide⟩
theorem cv_X11_344 : cvW RX11 344 mtX11_drawn 0 := ⟨mw_X11_drawn, wd1804, wd1806, wd106⟩
theorem mw_X11_down : mtW mtX11_down 1 := ⟨wd1823, wd141, by decide, by decide, by decide +kernel, by decide⟩
theorem cv_X11_347 : cvW RX11 347 mtX11_down 1 := ⟨mw_X11_down, wd1820, wd1822, wd109⟩
theorem mw_X11_counted : mtW mtX11_counted 0 := ⟨wd1827, wd141, by decide, by decide, by decide +kernel, by decide⟩
theorem cv_X11_350 : cvW RX11 350 mtX11_counted 0 := ⟨mw_X11_counted, wd1824, wd1826, wd110⟩
theorem mw_X11_keep : mtW mtX11_keep 0 := ⟨wd1799, wd141, by decide, by decide, by decide +kernel, by decide⟩
theorem cv_X11_353 : cvW RX11 353 mtX11_keep 0 := ⟨mw_X11_keep, wd1796, wd1798, wd104⟩
theorem mw_X11_beginNow : mtW mtX11_beginNow 3 := ⟨wd1803, wd141, by decide, by decide, by decide +kernel, by decide⟩
theorem cv_X11_356 : cvW RX11 356 mtX11_beginNow 3 := ⟨mw_X11_beginNow, wd1800, wd1802, wd105⟩
theorem mw_X11_stepNow : mtW mtX11_stepNow 0 := ⟨wd1819, wd141, by decide, by decide, by decide +kernel, by decide⟩
theorem cv_X11_359 : cvW RX11 359 mtX11_stepNow 0 := ⟨mw_X11_stepNow, wd1816, wd1818, wd108⟩
theorem mw_X11_toeNow : mtW mtX11_toeNow 0 := ⟨wd1835, wd141, by decide, by decide, by decide +kernel, by decide⟩
theorem cv_X11_362 : cvW RX11 362 mtX11_toeNow 0 := ⟨mw_X11_toeNow, wd1832, wd1834, wd111⟩
theorem mw_X11_nightNow : mtW mtX11_nightNow 0 := ⟨wd1847, wd141, by decide, by decide, by decide +kernel, by decide⟩
theorem cv_X11_365 : cvW RX11 365 mtX11_nightNow 0 := ⟨mw_X11_nightNow, wd1844, wd1846, wd112⟩
theorem cv_X11_368 : cvW RX11 368 mtX11_step 0 := ⟨mw_X11_step, wd1867, wd1813, wd1814⟩
theorem cv_X11_371 : cvW RX11 371 mtX11_toe 0 := ⟨mw_X11_toe, wd1868, wd1829, wd1830⟩
theorem cv_X11_374 : cvW RX11 374 mtX11_stair 2 := ⟨mw_X11_stair, wd1856, wd1491, wd1492⟩
theorem cv_X11_377 : cvW RX11 377 mtX11_height 3 := ⟨mw_X11_height, wd1857, wd1505, wd1506⟩
theorem cv_X11_380 : cvW RX11 380 mtX11_mark 3 := ⟨mw_X11_mark, wd1858, wd1517, wd1518⟩
theorem cv_X11_384 : cvW RX11 384 mtX11_rail 2 := ⟨mw_X11_rail, wd1859, wd1528, wd1529⟩
theorem cv_X11_387 : cvW RX11 387 mtX11_person 3 := ⟨mw_X11_person, wd1860, wd1532, wd1533⟩
theorem cv_X11_390 : cvW RX11 390 mtX11_begin 3 := ⟨mw_X11_begin, wd1861, wd1793, wd1794⟩
theorem cv_X11_393 : cvW RX11 393 mtX11_stop 0 := ⟨mw_X11_stop, wd1862, wd1837, wd1838⟩
theorem mw_X11_areDone : mtW mtX11_areDone 2 := ⟨wd1866, wd141, by decide, by decide, by decide +kernel, by decide⟩
theorem cv_X11_396 : cvW RX11 396 mtX11_areDone 2 := ⟨mw_X11_areDone, wd1863, wd1865, wd114⟩
theorem mw_X11_isPlayed : mtW mtX11_isPlayed 1 := ⟨wd1855, wd141, by decide, by decide, by decide +kernel, by decide⟩
theorem cv_X11_399 : cvW RX11 399 mtX11_isPlayed 1 := ⟨mw_X11_isPlayed, wd1852, wd1854, wd113⟩
theorem mw_X11_shown : mtW mtX11_shown 0 := ⟨wd1888, wd141, by decide, by decide, by decide +kernel, by decide⟩
theorem cv_X11_402 : cvW RX11 402 mtX11_shown 0 := ⟨mw_X11_shown, wd1885, wd1887, wd115⟩
theorem mw_X11_bookAt : mtW mtX11_bookAt 2 := ⟨wd1892, wd141, by decide, by decide, by decide +kernel, by decide⟩
theorem cv_X11_405 : cvW RX11 405 mtX11_bookAt 2 := ⟨mw_X11_bookAt, wd1889, wd1891, wd116⟩
theorem mw_X11_goOn : mtW mtX11_goOn 6 := ⟨wd1912, wd141, by decide, by decide, by decide +kernel, by decide⟩
theorem cv_X11_414 : cvW RX11 414 mtX11_goOn 6 := ⟨mw_X11_goOn, wd1909, wd1911, wd119⟩
theorem mw_X11_start : mtW mtX11_start 3 := ⟨wd1901, wd141, by decide, by decide, by decide +kernel, by decide⟩
theorem cv_X11_418 : cvW RX11 418 mtX11_start 3 := ⟨mw_X11_start, wd1898, wd1900, wd117⟩
theorem mw_X11_goAll : mtW mtX11_goAll 3 := ⟨wd1905, wd141, by decide, by decide, by decide +kernel, by decide⟩
theorem cv_X11_434 : cvW RX11 434 mtX11_goAll 3 := ⟨mw_X11_goAll, wd1902, wd1904, wd118⟩
theorem mw_X11_reckon : mtW mtX11_reckon 5 := ⟨wd1930, wd141, by decide, by decide, by decide +kernel, by decide⟩
theorem cv_X11_441 : cvW RX11 441 mtX11_reckon 5 := ⟨mw_X11_reckon, wd1927, wd1929, wd120⟩
theorem mw_X11_best : mtW mtX11_best 4 := ⟨wd1938, wd141, by decide, by decide, by decide +kernel, by decide⟩
theorem cv_X11_450 : cvW RX11 450 mtX11_best 4 := ⟨mw_X11_best, wd1935, wd1937, wd121⟩
theorem mw_X11_jarred : mtW mtX11_jarred 4 := ⟨wd1962, wd141, by decide, by decide, by decide +kernel, by decide⟩
theorem cv_X11_459 : cvW RX11 459 mtX11_jarred 4 := ⟨mw_X11_jarred, wd1959, wd1961, wd122⟩
theorem mw_X11_legsOf : mtW mtX11_legsOf 1 := ⟨wd1986, wd141, by decide, by decide, by decide +kernel, by decide⟩
theorem cv_X11_463 : cvW RX11 463 mtX11_legsOf 1 := ⟨mw_X11_legsOf, wd1983, wd1985, wd123⟩
theorem mw_X11_isSeenBy : mtW mtX11_isSeenBy 1 := ⟨wd2002, wd141, by decide, by decide, by decide +kernel, by decide⟩
theorem cv_X11_466 : cvW RX11 466 mtX11_isSeenBy 1 := ⟨mw_X11_isSeenBy, wd1999, wd2001, wd124⟩
theorem mw_X11_isSmooth : mtW mtX11_isSmooth 4 := ⟨wd2019, wd141, by decide, by decide, by decide +kernel, by decide⟩
theorem cv_X11_470 : cvW RX11 470 mtX11_isSmooth 4 := ⟨mw_X11_isSmooth, wd2016, wd2018, wd127⟩
theorem mw_X11_workOf : mtW mtX11_workOf 4 := ⟨wd2023, wd141, by decide, by decide, by decide +kernel, by decide⟩
theorem cv_X11_473 : cvW RX11 473 mtX11_workOf 4 := ⟨mw_X11_workOf, wd2020, wd2022, wd128⟩
theorem mw_X11_workBy : mtW mtX11_workBy 5 := ⟨wd2015, wd141, by decide, by decide, by decide +kernel, by decide⟩
theorem cv_X11_477 : cvW RX11 477 mtX11_workBy 5 := ⟨mw_X11_workBy, wd2012, wd2014, wd126⟩
theorem mw_X11_findWork : mtW mtX11_findWork 2 := ⟨wd2010, wd141, by decide, by decide, by decide +kernel, by decide⟩
theorem cv_X11_481 : cvW RX11 481 mtX11_findWork 2 := ⟨mw_X11_findWork, wd2007, wd2009, wd125⟩
theorem mw_X11_build : mtW mtX11_build 2 := ⟨wd1388, wd141, by decide, by decide, by decide +kernel, by decide⟩
theorem cv_X11_52 : cvW RX11 52 mtX11_build 2 := ⟨mw_X11_build, wd1385, wd1387, wd52⟩
theorem mw_X11_stepsOf : mtW mtX11_stepsOf 1 := ⟨wd1515, wd141, by decide, by decide, by decide +kernel, by decide⟩
theorem cv_X11_74 : cvW RX11 74 mtX11_stepsOf 1 := ⟨mw_X11_stepsOf, wd1512, wd1514, wd55⟩
theorem mw_X11_told : mtW mtX11_told 1 := ⟨wd1503, wd141, by decide, by decide, by decide +kernel, by decide⟩
theorem cv_X11_78 : cvW RX11 78 mtX11_told 1 := ⟨mw_X11_told, wd1500, wd1502, wd53⟩
theorem mw_X11_isStep : mtW mtX11_isStep 2 := ⟨wd1511, wd141, by decide, by decide, by decide +kernel, by decide⟩
theorem cv_X11_81 : cvW RX11 81 mtX11_isStep 2 := ⟨mw_X11_isStep, wd1508, wd1510, wd54⟩
theorem mw_X11_marksOf : mtW mtX11_marksOf 1 := ⟨wd1523, wd141, by decide, by decide, by decide +kernel, by decide⟩
theorem cv_X11_85 : cvW RX11 85 mtX11_marksOf 1 := ⟨mw_X11_marksOf, wd1520, wd1522, wd56⟩
theorem mw_X11_four : mtW mtX11_four 1 := ⟨wd1546, wd141, by decide, by decide, by decide +kernel, by decide⟩
theorem cv_X11_94 : cvW RX11 94 mtX11_four 1 := ⟨mw_X11_four, wd1543, wd1545, wd57⟩
theorem cv_X1_18 : cvW RX1 18 mtX5_houseOf 1 := ⟨mw_X5_houseOf, wd899, wd523, wd524⟩
theorem cv_X1_53 : cvW RX1 53 mtX0_highOf 1 := ⟨mw_X0_highOf, wd938, wd939, wd940⟩
theorem mw_X1_rules : mtW mtX1_rules 1 := ⟨wd908, wd131, by decide, by decide, by decide +kernel, by decide⟩
theorem cv_X1_60 : cvW RX1 60 mtX1_rules 1 := ⟨mw_X1_rules, wd905, wd907, wd31⟩
theorem mw_X1_worked : mtW mtX1_worked 1 := ⟨wd912, wd131, by decide, by decide, by decide +kernel, by decide⟩
theorem cv_X1_64 : cvW RX1 64 mtX1_worked 1 := ⟨mw_X1_worked, wd909, wd911, wd32⟩
theorem mw_X1_turnTo : mtW mtX1_turnTo 5 := ⟨wd898, wd131, by decide, by decide, by decide +kernel, by decide⟩
theorem cv_X2_102 : cvW RX2 102 mtX1_turnTo 5 := ⟨mw_X1_turnTo, wd1338, wd896, wd897⟩
theorem mw_X1_face : mtW mtX1_face 2 := ⟨wd937, wd131, by decide, by decide, by decide +kernel, by decide⟩
theorem cv_X2_108 : cvW RX2 108 mtX1_face 2 := ⟨mw_X1_face, wd1339, wd935, wd936⟩
theorem mw_X1_suppose : mtW mtX1_suppose 2 := ⟨wd1343, wd131, by decide, by decide, by decide +kernel, by decide⟩
theorem cv_X2_112 : cvW RX2 112 mtX1_suppose 2 := ⟨mw_X1_suppose, wd1340, wd1341, wd1342⟩
theorem mw_X1_tripsNow : mtW mtX1_tripsNow 0 := ⟨wd946, wd131, by decide, by decide, by decide +kernel, by decide⟩
theorem cv_X2_116 : cvW RX2 116 mtX1_tripsNow 0 := ⟨mw_X1_tripsNow, wd1344, wd944, wd945⟩
theorem cv_X2_29 : cvW RX2 29 mtX5_houseOf 1 := ⟨mw_X5_houseOf, wd1308, wd523, wd524⟩
theorem cv_X2_35 : cvW RX2 35 mtX0_hasStep 1 := ⟨mw_X0_hasStep, wd1309, wd543, wd544⟩
theorem mw_X2_plan : mtW mtX2_plan 3 := ⟨wd1313, wd140, by decide, by decide, by decide +kernel, by decide⟩
theorem cv_X2_41 : cvW RX2 41 mtX2_plan 3 := ⟨mw_X2_plan, wd1310, wd1312, wd47⟩
theorem mw_X2_weigh : mtW mtX2_weigh 3 := ⟨wd1318, wd140, by decide, by decide, by decide +kernel, by decide⟩
theorem cv_X2_60 : cvW RX2 60 mtX2_weigh 3 := ⟨mw_X2_weigh, wd1315, wd1317, wd48⟩
theorem mw_X2_choose : mtW mtX2_choose 4 := ⟨wd1328, wd140, by decide, by decide, by decide +kernel, by decide⟩
theorem cv_X2_63 : cvW RX2 63 mtX2_choose 4 := ⟨mw_X2_choose, wd1325, wd1327, wd49⟩
theorem cv_X2_67 : cvW RX2 67 mtX0_highOf 1 := ⟨mw_X0_highOf, wd1319, wd939, wd940⟩
theorem mw_X2_cheapest : mtW mtX2_cheapest 0 := ⟨wd1332, wd140, by decide, by decide, by decide +kernel, by decide⟩
theorem cv_X2_84 : cvW RX2 84 mtX2_cheapest 0 := ⟨mw_X2_cheapest, wd1329, wd1331, wd50⟩
theorem mw_X2_anyoneTrips : mtW mtX2_anyoneTrips 5 := ⟨wd1336, wd140, by decide, by decide, by decide +kernel, by decide⟩
theorem cv_X2_88 : cvW RX2 88 mtX2_anyoneTrips 5 := ⟨mw_X2_anyoneTrips, wd1333, wd1335, wd51⟩
theorem cv_X2_98 : cvW RX2 98 mtX5_textOf 1 := ⟨mw_X5_textOf, wd1337, wd842, wd843⟩
theorem cv_X3_102 : cvW RX3 102 mtX1_tripsNow 0 := ⟨mw_X1_tripsNow, wd1104, wd944, wd945⟩
theorem mw_X1_jarNow : mtW mtX1_jarNow 0 := ⟨wd904, wd131, by decide, by decide, by decide +kernel, by decide⟩
theorem cv_X3_106 : cvW RX3 106 mtX1_jarNow 0 := ⟨mw_X1_jarNow, wd1105, wd902, wd903⟩
theorem mw_X3_spreadFrom : mtW mtX3_spreadFrom 3 := ⟨wd1118, wd138, by decide, by decide, by decide +kernel, by decide⟩
theorem cv_X3_109 : cvW RX3 109 mtX3_spreadFrom 3 := ⟨mw_X3_spreadFrom, wd1115, wd1117, wd35⟩
theorem mw_X3_add : mtW mtX3_add 3 := ⟨wd1125, wd138, by decide, by decide, by decide +kernel, by decide⟩
theorem cv_X3_119 : cvW RX3 119 mtX3_add 3 := ⟨mw_X3_add, wd1122, wd1124, wd36⟩
theorem mw_X3_gather : mtW mtX3_gather 1 := ⟨wd1129, wd138, by decide, by decide, by decide +kernel, by decide⟩
theorem cv_X3_123 : cvW RX3 123 mtX3_gather 1 := ⟨mw_X3_gather, wd1126, wd1128, wd37⟩
theorem mw_X3_carry : mtW mtX3_carry 1 := ⟨wd1138, wd138, by decide, by decide, by decide +kernel, by decide⟩
theorem cv_X3_127 : cvW RX3 127 mtX3_carry 1 := ⟨mw_X3_carry, wd1135, wd1137, wd39⟩
theorem mw_X3_chance : mtW mtX3_chance 2 := ⟨wd1133, wd138, by decide, by decide, by decide +kernel, by decide⟩
theorem cv_X3_130 : cvW RX3 130 mtX3_chance 2 := ⟨mw_X3_chance, wd1130, wd1132, wd38⟩
theorem cv_X3_145 : cvW RX3 145 mtX3_spread 0 := ⟨mw_X3_spread, wd1111, wd1112, wd1113⟩
theorem mw_X3_evenChance : mtW mtX3_evenChance 2 := ⟨wd1142, wd138, by decide, by decide, by decide +kernel, by decide⟩
theorem cv_X3_148 : cvW RX3 148 mtX3_evenChance 2 := ⟨mw_X3_evenChance, wd1139, wd1141, wd40⟩
theorem mw_X3_costOfToes : mtW mtX3_costOfToes 0 := ⟨wd1164, wd138, by decide, by decide, by decide +kernel, by decide⟩
theorem cv_X3_155 : cvW RX3 155 mtX3_costOfToes 0 := ⟨mw_X3_costOfToes, wd1161, wd1163, wd41⟩
theorem mw_X3_boldlyMore : mtW mtX3_boldlyMore 1 := ⟨wd1168, wd138, by decide, by decide, by decide +kernel, by decide⟩
theorem cv_X3_159 : cvW RX3 159 mtX3_boldlyMore 1 := ⟨mw_X3_boldlyMore, wd1165, wd1167, wd42⟩
theorem cv_X3_169 : cvW RX3 169 mtX3_chooseFrom 0 := ⟨mw_X3_chooseFrom, wd1185, wd1174, wd1175⟩
theorem cv_X3_172 : cvW RX3 172 mtX3_look 3 := ⟨mw_X3_look, wd1194, wd1091, wd1092⟩
theorem mw_X3_chanceOfJar : mtW mtX3_chanceOfJar 1 := ⟨wd1219, wd138, by decide, by decide, by decide +kernel, by decide⟩
theorem cv_X3_187 : cvW RX3 187 mtX3_chanceOfJar 1 := ⟨mw_X3_chanceOfJar, wd1216, wd1218, wd43⟩
theorem cv_X3_36 : cvW RX3 36 mtX5_houseOf 1 := ⟨mw_X5_houseOf, wd1094, wd523, wd524⟩
theorem mw_X5_isPerson : mtW mtX5_isPerson 1 := ⟨wd856, wd132, by decide, by decide, by decide +kernel, by decide⟩
theorem cv_X3_42 : cvW RX3 42 mtX5_isPerson 1 := ⟨mw_X5_isPerson, wd1095, wd854, wd855⟩
theorem cv_X3_73 : cvW RX3 73 mtX5_textOf 1 := ⟨mw_X5_textOf, wd1097, wd842, wd843⟩
theorem cv_X3_77 : cvW RX3 77 mtX1_turnTo 5 := ⟨mw_X1_turnTo, wd1098, wd896, wd897⟩
theorem mw_X1_fallNow : mtW mtX1_fallNow 0 := ⟨wd953, wd131, by decide, by decide, by decide +kernel, by decide⟩
theorem cv_X3_83 : cvW RX3 83 mtX1_fallNow 0 := ⟨mw_X1_fallNow, wd1099, wd951, wd952⟩
theorem cv_X3_87 : cvW RX3 87 mtX1_face 2 := ⟨mw_X1_face, wd1100, wd935, wd936⟩
theorem mw_X1_noneNow : mtW mtX1_noneNow 0 := ⟨wd957, wd131, by decide, by decide, by decide +kernel, by decide⟩
theorem cv_X3_91 : cvW RX3 91 mtX1_noneNow 0 := ⟨mw_X1_noneNow, wd1101, wd955, wd956⟩
theorem mw_X1_twiceNow : mtW mtX1_twiceNow 1 := ⟨wd961, wd131, by decide, by decide, by decide +kernel, by decide⟩
theorem cv_X3_98 : cvW RX3 98 mtX1_twiceNow 1 := ⟨mw_X1_twiceNow, wd1103, wd959, wd960⟩
theorem mw_X4_readEither : mtW mtX4_readEither 1 := ⟨wd733, wd136, by decide, by decide, by decide +kernel, by decide⟩
theorem cv_X4_104 : cvW RX4 104 mtX4_readEither 1 := ⟨mw_X4_readEither, wd730, wd732, wd12⟩
theorem mw_X4_readSum : mtW mtX4_readSum 1 := ⟨wd753, wd136, by decide, by decide, by decide +kernel, by decide⟩
theorem cv_X4_107 : cvW RX4 107 mtX4_readSum 1 := ⟨mw_X4_readSum, wd750, wd752, wd17⟩
theorem mw_X4_readNumber : mtW mtX4_readNumber 3 := ⟨wd787, wd136, by decide, by decide, by decide +kernel, by decide⟩
theorem cv_X4_113 : cvW RX4 113 mtX4_readNumber 3 := ⟨mw_X4_readNumber, wd784, wd786, wd25⟩
theorem mw_X4_readBoth : mtW mtX4_readBoth 1 := ⟨wd737, wd136, by decide, by decide, by decide +kernel, by decide⟩
theorem cv_X4_120 : cvW RX4 120 mtX4_readBoth 1 := ⟨mw_X4_readBoth, wd734, wd736, wd13⟩
theorem mw_X4_emit : mtW mtX4_emit 1 := ⟨wd749, wd136, by decide, by decide, by decide +kernel, by decide⟩
theorem cv_X4_123 : cvW RX4 123 mtX4_emit 1 := ⟨mw_X4_emit, wd746, wd748, wd16⟩
theorem mw_X4_readAsk : mtW mtX4_readAsk 1 := ⟨wd741, wd136, by decide, by decide, by decide +kernel, by decide⟩
theorem cv_X4_127 : cvW RX4 127 mtX4_readAsk 1 := ⟨mw_X4_readAsk, wd738, wd740, wd14⟩
theorem mw_X4_opens : mtW mtX4_opens 1 := ⟨wd745, wd136, by decide, by decide, by decide +kernel, by decide⟩
theorem cv_X4_130 : cvW RX4 130 mtX4_opens 1 := ⟨mw_X4_opens, wd742, wd744, wd15⟩
theorem mw_X4_readProduct : mtW mtX4_readProduct 1 := ⟨wd757, wd136, by decide, by decide, by decide +kernel, by decide⟩
theorem cv_X4_133 : cvW RX4 133 mtX4_readProduct 1 := ⟨mw_X4_readProduct, wd754, wd756, wd18⟩
theorem mw_X4_readOne : mtW mtX4_readOne 1 := ⟨wd761, wd136, by decide, by decide, by decide +kernel, by decide⟩
theorem cv_X4_136 : cvW RX4 136 mtX4_readOne 1 := ⟨mw_X4_readOne, wd758, wd760, wd19⟩
theorem mw_X4_readValue : mtW mtX4_readValue 0 := ⟨wd765, wd136, by decide, by decide, by decide +kernel, by decide⟩
theorem cv_X4_139 : cvW RX4 139 mtX4_readValue 0 := ⟨mw_X4_readValue, wd762, wd764, wd20⟩
theorem mw_X4_readChoice : mtW mtX4_readChoice 1 := ⟨wd773, wd136, by decide, by decide, by decide +kernel, by decide⟩
theorem cv_X4_142 : cvW RX4 142 mtX4_readChoice 1 := ⟨mw_X4_readChoice, wd770, wd772, wd22⟩
theorem mw_X4_readName : mtW mtX4_readName 0 := ⟨wd777, wd136, by decide, by decide, by decide +kernel, by decide⟩
theorem cv_X4_145 : cvW RX4 145 mtX4_readName 0 := ⟨mw_X4_readName, wd774, wd776, wd23⟩
theorem mw_X7_scan : mtW mtX7_scan 0 := ⟨wd617, wd135, by decide, by decide, by decide +kernel, by decide⟩
theorem cv_X4_50 : cvW RX4 50 mtX7_scan 0 := ⟨mw_X7_scan, wd614, wd615, wd616⟩
theorem mw_X4_advance : mtW mtX4_advance 0 := ⟨wd714, wd136, by decide, by decide, by decide +kernel, by decide⟩
theorem cv_X4_58 : cvW RX4 58 mtX4_advance 0 := ⟨mw_X4_advance, wd711, wd713, wd8⟩
theorem mw_X4_readClause : mtW mtX4_readClause 0 := ⟨wd720, wd136, by decide, by decide, by decide +kernel, by decide⟩
theorem cv_X4_64 : cvW RX4 64 mtX4_readClause 0 := ⟨mw_X4_readClause, wd717, wd719, wd9⟩
theorem mw_X4_faulty : mtW mtX4_faulty 1 := ⟨wd724, wd136, by decide, by decide, by decide +kernel, by decide⟩
theorem cv_X4_84 : cvW RX4 84 mtX4_faulty 1 := ⟨mw_X4_faulty, wd721, wd723, wd10⟩
theorem mw_X4_readLaw : mtW mtX4_readLaw 1 := ⟨wd728, wd136, by decide, by decide, by decide +kernel, by decide⟩
theorem cv_X4_88 : cvW RX4 88 mtX4_readLaw 1 := ⟨mw_X4_readLaw, wd725, wd727, wd11⟩
theorem mw_X4_readDeed : mtW mtX4_readDeed 1 := ⟨wd781, wd136, by decide, by decide, by decide +kernel, by decide⟩
theorem cv_X4_91 : cvW RX4 91 mtX4_readDeed 1 := ⟨mw_X4_readDeed, wd778, wd780, wd24⟩
theorem mw_X4_passes : mtW mtX4_passes 1 := ⟨wd769, wd136, by decide, by decide, by decide +kernel, by decide⟩
theorem cv_X4_94 : cvW RX4 94 mtX4_passes 1 := ⟨mw_X4_passes, wd766, wd768, wd21⟩
theorem cv_X5_127 : cvW RX5 127 mtX5_lines 0 := ⟨mw_X5_lines, wd1034, wd1027, wd1028⟩
theorem mw_X0_become : mtW mtX0_become 1 := ⟨wd1356, wd133, by decide, by decide, by decide +kernel, by decide⟩
theorem cv_X5_131 : cvW RX5 131 mtX0_become 1 := ⟨mw_X0_become, wd1353, wd1354, wd1355⟩
theorem cv_X5_59 : cvW RX5 59 mtX5_houseOf 1 := ⟨mw_X5_houseOf, wd522, wd523, wd524⟩
theorem cv_X5_63 : cvW RX5 63 mtX5_isOnWay 0 := ⟨mw_X5_isOnWay, wd526, wd527, wd528⟩
theorem mw_X0_build : mtW mtX0_build 1 := ⟨wd533, wd133, by decide, by decide, by decide +kernel, by decide⟩
theorem cv_X5_67 : cvW RX5 67 mtX0_build 1 := ⟨mw_X0_build, wd530, wd531, wd532⟩
theorem cv_X5_75 : cvW RX5 75 mtX0_hasStep 1 := ⟨mw_X0_hasStep, wd542, wd543, wd544⟩
theorem mw_X0_hasMark : mtW mtX0_hasMark 1 := ⟨wd560, wd133, by decide, by decide, by decide +kernel, by decide⟩
theorem cv_X5_86 : cvW RX5 86 mtX0_hasMark 1 := ⟨mw_X0_hasMark, wd557, wd558, wd559⟩
theorem cv_X5_92 : cvW RX5 92 mtX5_tellMark 3 := ⟨mw_X5_tellMark, wd1010, wd554, wd555⟩
theorem cv_X5_99 : cvW RX5 99 mtX5_isPerson 1 := ⟨mw_X5_isPerson, wd1378, wd854, wd855⟩
theorem mw_X6_allSeenBy : mtW mtX6_allSeenBy 1 := ⟨wd1299, wd139, by decide, by decide, by decide +kernel, by decide⟩
theorem cv_X6_116 : cvW RX6 116 mtX6_allSeenBy 1 := ⟨mw_X6_allSeenBy, wd1296, wd1298, wd46⟩
theorem cv_X6_23 : cvW RX6 23 mtX5_houseOf 1 := ⟨mw_X5_houseOf, wd1069, wd523, wd524⟩
theorem cv_X6_29 : cvW RX6 29 mtX0_hasStep 1 := ⟨mw_X0_hasStep, wd1070, wd543, wd544⟩
theorem cv_X6_35 : cvW RX6 35 mtX5_isPerson 1 := ⟨mw_X5_isPerson, wd1071, wd854, wd855⟩
theorem cv_X6_42 : cvW RX6 42 mtX5_textOf 1 := ⟨mw_X5_textOf, wd1072, wd842, wd843⟩
theorem cv_X6_46 : cvW RX6 46 mtX1_turnTo 5 := ⟨mw_X1_turnTo, wd1073, wd896, wd897⟩
theorem cv_X6_52 : cvW RX6 52 mtX1_face 2 := ⟨mw_X1_face, wd1074, wd935, wd936⟩
theorem cv_X6_56 : cvW RX6 56 mtX1_noneNow 0 := ⟨mw_X1_noneNow, wd1075, wd955, wd956⟩
theorem cv_X6_60 : cvW RX6 60 mtX1_twiceNow 1 := ⟨mw_X1_twiceNow, wd1076, wd959, wd960⟩
theorem cv_X6_64 : cvW RX6 64 mtX1_tripsNow 0 := ⟨mw_X1_tripsNow, wd1077, wd944, wd945⟩
theorem cv_X6_68 : cvW RX6 68 mtX1_jarNow 0 := ⟨mw_X1_jarNow, wd1078, wd902, wd903⟩
theorem cv_X6_71 : cvW RX6 71 mtX1_fallNow 0 := ⟨mw_X1_fallNow, wd1079, wd951, wd952⟩
theorem cv_X6_74 : cvW RX6 74 mtX5_lines 0 := ⟨mw_X5_lines, wd1251, wd1027, wd1028⟩
theorem cv_X6_77 : cvW RX6 77 mtX5_lineOf 2 := ⟨mw_X5_lineOf, wd1252, wd1031, wd1032⟩
theorem mw_X6_counted : mtW mtX6_counted 2 := ⟨wd1256, wd139, by decide, by decide, by decide +kernel, by decide⟩
theorem cv_X6_81 : cvW RX6 81 mtX6_counted 2 := ⟨mw_X6_counted, wd1253, wd1255, wd44⟩
theorem mw_X6_mostOften : mtW mtX6_mostOften 1 := ⟨wd1268, wd139, by decide, by decide, by decide +kernel, by decide⟩
theorem cv_X6_84 : cvW RX6 84 mtX6_mostOften 1 := ⟨mw_X6_mostOften, wd1265, wd1267, wd45⟩
theorem mw_X7_skipBlanks : mtW mtX7_skipBlanks 0 := ⟨wd621, wd135, by decide, by decide, by decide +kernel, by decide⟩
theorem cv_X7_35 : cvW RX7 35 mtX7_skipBlanks 0 := ⟨mw_X7_skipBlanks, wd618, wd620, wd0⟩
theorem mw_X7_scanToken : mtW mtX7_scanToken 1 := ⟨wd632, wd135, by decide, by decide, by decide +kernel, by decide⟩
theorem cv_X7_38 : cvW RX7 38 mtX7_scanToken 1 := ⟨mw_X7_scanToken, wd629, wd631, wd2⟩
theorem mw_X7_byteAt : mtW mtX7_byteAt 1 := ⟨wd625, wd135, by decide, by decide, by decide +kernel, by decide⟩
theorem cv_X7_46 : cvW RX7 46 mtX7_byteAt 1 := ⟨mw_X7_byteAt, wd622, wd624, wd1⟩
theorem mw_X7_scanNumber : mtW mtX7_scanNumber 0 := ⟨wd639, wd135, by decide, by decide, by decide +kernel, by decide⟩
theorem cv_X7_53 : cvW RX7 53 mtX7_scanNumber 0 := ⟨mw_X7_scanNumber, wd636, wd638, wd3⟩
theorem mw_X7_scanWord : mtW mtX7_scanWord 0 := ⟨wd649, wd135, by decide, by decide, by decide +kernel, by decide⟩
theorem cv_X7_60 : cvW RX7 60 mtX7_scanWord 0 := ⟨mw_X7_scanWord, wd646, wd648, wd4⟩
theorem mw_X7_signOf : mtW mtX7_signOf 1 := ⟨wd706, wd135, by decide, by decide, by decide +kernel, by decide⟩
theorem cv_X7_63 : cvW RX7 63 mtX7_signOf 1 := ⟨mw_X7_signOf, wd703, wd705, wd6⟩
theorem mw_J0_length_8abf5 : mtW mtJ0_length_8abf5 0 := ⟨wd654, wd143, by decide, by decide, by decide +kernel, by decide⟩
theorem cv_X7_74 : cvW RX7 74 mtJ0_length_8abf5 0 := ⟨mw_J0_length_8abf5, wd651, wd652, wd653⟩
theorem mw_J0_charAt_5068e : mtW mtJ0_charAt_5068e 1 := ⟨wd664, wd143, by decide, by decide, by decide +kernel, by decide⟩
theorem cv_X7_78 : cvW RX7 78 mtJ0_charAt_5068e 1 := ⟨mw_J0_charAt_5068e, wd661, wd662, wd663⟩
theorem mw_X7_isSpelled : mtW mtX7_isSpelled 2 := ⟨wd702, wd135, by decide, by decide, by decide +kernel, by decide⟩
theorem cv_X7_82 : cvW RX7 82 mtX7_isSpelled 2 := ⟨mw_X7_isSpelled, wd699, wd701, wd5⟩
theorem mw_X7_isSame : mtW mtX7_isSame 0 := ⟨wd710, wd135, by decide, by decide, by decide +kernel, by decide⟩
theorem cv_X7_86 : cvW RX7 86 mtX7_isSame 0 := ⟨mw_X7_isSame, wd707, wd709, wd7⟩
theorem mw_X8_numberOf : mtW mtX8_numberOf 2 := ⟨wd998, wd147, by decide, by decide, by decide +kernel, by decide⟩
theorem cv_X9_100 : cvW RX9 100 mtX8_numberOf 2 := ⟨mw_X8_numberOf, wd995, wd996, wd997⟩
theorem mw_X9_isDone : mtW mtX9_isDone 2 := ⟨wd1003, wd137, by decide, by decide, by decide +kernel, by decide⟩
theorem cv_X9_103 : cvW RX9 103 mtX9_isDone 2 := ⟨mw_X9_isDone, wd1000, wd1002, wd34⟩
theorem cv_X9_107 : cvW RX9 107 mtX5_tellStairs 2 := ⟨mw_X5_tellStairs, wd1004, wd519, wd520⟩
theorem cv_X9_111 : cvW RX9 111 mtX5_tellHeight 3 := ⟨mw_X5_tellHeight, wd1005, wd539, wd540⟩
theorem mw_X5_turnMark : mtW mtX5_turnMark 2 := ⟨wd1009, wd132, by decide, by decide, by decide +kernel, by decide⟩
theorem cv_X9_115 : cvW RX9 115 mtX5_turnMark 2 := ⟨mw_X5_turnMark, wd1006, wd1007, wd1008⟩
theorem cv_X9_118 : cvW RX9 118 mtX5_tellRail 2 := ⟨mw_X5_tellRail, wd1011, wd567, wd568⟩
theorem cv_X9_121 : cvW RX9 121 mtX5_tellPerson 3 := ⟨mw_X5_tellPerson, wd1012, wd575, wd576⟩
theorem cv_X9_125 : cvW RX9 125 mtX9_beginAct 3 := ⟨mw_X9_beginAct, wd1013, wd850, wd851⟩
theorem cv_X9_128 : cvW RX9 128 mtX9_stepAct 0 := ⟨mw_X9_stepAct, wd1014, wd882, wd883⟩
theorem cv_X9_131 : cvW RX9 131 mtX9_toeAct 0 := ⟨mw_X9_toeAct, wd1015, wd968, wd969⟩
theorem cv_X9_134 : cvW RX9 134 mtX9_stopAct 0 := ⟨mw_X9_stopAct, wd1016, wd976, wd977⟩
theorem cv_X9_137 : cvW RX9 137 mtX9_nightAct 0 := ⟨mw_X9_nightAct, wd1017, wd984, wd985⟩
theorem mw_X9_draw : mtW mtX9_draw 0 := ⟨wd871, wd137, by decide, by decide, by decide +kernel, by decide⟩
theorem cv_X9_146 : cvW RX9 146 mtX9_draw 0 := ⟨mw_X9_draw, wd868, wd870, wd27⟩
theorem cv_X9_155 : cvW RX9 155 mtX5_textOf 1 := ⟨mw_X5_textOf, wd894, wd842, wd843⟩
theorem cv_X9_159 : cvW RX9 159 mtX1_turnTo 5 := ⟨mw_X1_turnTo, wd895, wd896, wd897⟩
theorem cv_X9_163 : cvW RX9 163 mtX1_jarNow 0 := ⟨mw_X1_jarNow, wd901, wd902, wd903⟩
theorem cv_X9_166 : cvW RX9 166 mtX1_face 2 := ⟨mw_X1_face, wd934, wd935, wd936⟩
theorem cv_X9_170 : cvW RX9 170 mtX1_tripsNow 0 := ⟨mw_X1_tripsNow, wd943, wd944, wd945⟩
theorem cv_X9_173 : cvW RX9 173 mtX1_noneNow 0 := ⟨mw_X1_noneNow, wd954, wd955, wd956⟩
theorem cv_X9_176 : cvW RX9 176 mtX1_twiceNow 1 := ⟨mw_X1_twiceNow, wd958, wd959, wd960⟩
theorem cv_X9_180 : cvW RX9 180 mtX0_hasMark 1 := ⟨mw_X0_hasMark, wd962, wd558, wd559⟩
theorem mw_X5_writeDown : mtW mtX5_writeDown 1 := ⟨wd933, wd132, by decide, by decide, by decide +kernel, by decide⟩
theorem cv_X9_183 : cvW RX9 183 mtX5_writeDown 1 := ⟨mw_X5_writeDown, wd930, wd931, wd932⟩
theorem cv_X9_19 : cvW RX9 19 mtX5_isPerson 1 := ⟨mw_X5_isPerson, wd853, wd854, wd855⟩
theorem cv_X9_25 : cvW RX9 25 mtX5_houseOf 1 := ⟨mw_X5_houseOf, wd857, wd523, wd524⟩
theorem mw_X5_remember : mtW mtX5_remember 0 := ⟨wd861, wd132, by decide, by decide, by decide +kernel, by decide⟩
theorem cv_X9_29 : cvW RX9 29 mtX5_remember 0 := ⟨mw_X5_remember, wd858, wd859, wd860⟩
theorem mw_X9_start : mtW mtX9_start 3 := ⟨wd866, wd137, by decide, by decide, by decide +kernel, by decide⟩
theorem cv_X9_32 : cvW RX9 32 mtX9_start 3 := ⟨mw_X9_start, wd863, wd865, wd26⟩
theorem cv_X9_40 : cvW RX9 40 mtX5_isOnWay 0 := ⟨mw_X5_isOnWay, wd885, wd527, wd528⟩
theorem mw_X9_goOn : mtW mtX9_goOn 1 := ⟨wd889, wd137, by decide, by decide, by decide +kernel, by decide⟩
theorem cv_X9_44 : cvW RX9 44 mtX9_goOn 1 := ⟨mw_X9_goOn, wd886, wd888, wd29⟩
theorem mw_X9_turnToWay : mtW mtX9_turnToWay 0 := ⟨wd893, wd137, by decide, by decide, by decide +kernel, by decide⟩
theorem cv_X9_48 : cvW RX9 48 mtX9_turnToWay 0 := ⟨mw_X9_turnToWay, wd890, wd892, wd30⟩
theorem cv_X9_57 : cvW RX9 57 mtX1_fallNow 0 := ⟨mw_X1_fallNow, wd950, wd951, wd952⟩
theorem mw_X9_down : mtW mtX9_down 1 := ⟨wd929, wd137, by decide, by decide, by decide +kernel, by decide⟩
theorem cv_X9_63 : cvW RX9 63 mtX9_down 1 := ⟨mw_X9_down, wd926, wd928, wd33⟩
theorem mw_X9_stir : mtW mtX9_stir 0 := ⟨wd875, wd137, by decide, by decide, by decide +kernel, by decide⟩
theorem cv_X9_76 : cvW RX9 76 mtX9_stir 0 := ⟨mw_X9_stir, wd872, wd874, wd28⟩
theorem cv_X9_79 : cvW RX9 79 mtX5_lines 0 := ⟨mw_X5_lines, wd1026, wd1027, wd1028⟩
theorem cv_X9_82 : cvW RX9 82 mtX5_lineOf 2 := ⟨mw_X5_lineOf, wd1030, wd1031, wd1032⟩
theorem mw_X7_init : mtW mtX7_init 0 := ⟨wd314, wd135, by decide, by decide, by decide +kernel, by decide⟩
theorem ni_X10_24 : niW RX10 24 "OneStepMore" mtX7_init 0 := ⟨mw_X7_init, nd312, wd313, rfl, rfl⟩
theorem mw_X1_init : mtW mtX1_init 0 := ⟨wd161, wd131, by decide, by decide, by decide +kernel, by decide⟩
theorem ni_X10_9 : niW RX10 9 "OneStepMore" mtX1_init 0 := ⟨mw_X1_init, nd159, wd160, rfl, rfl⟩
theorem mw_X10_cell : mtW mtX10_cell 2 := ⟨wd628, wd130, by decide, by decide, by decide +kernel, by decide⟩
theorem ns_X0_35 : nsW RX0 35 "OneStepMore" mtX10_cell 2 := ⟨mw_X10_cell, nd942, wd627⟩
theorem mw_X10_copy : mtW mtX10_copy 2 := ⟨wd1359, wd130, by decide, by decide, by decide +kernel, by decide⟩
theorem ns_X0_39 : nsW RX0 39 "OneStepMore" mtX10_copy 2 := ⟨mw_X10_copy, nd1357, wd1358⟩
theorem ns_X1_31 : nsW RX1 31 "OneStepMore" mtX10_cell 2 := ⟨mw_X10_cell, nd900, wd627⟩
theorem mw_X10_between : mtW mtX10_between 3 := ⟨wd921, wd130, by decide, by decide, by decide +kernel, by decide⟩
theorem ns_X1_67 : nsW RX1 67 "OneStepMore" mtX10_between 3 := ⟨mw_X10_between, nd919, wd920⟩
theorem mw_X10_put : mtW mtX10_put 3 := ⟨wd548, wd130, by decide, by decide, by decide +kernel, by decide⟩
theorem ns_X1_87 : nsW RX1 87 "OneStepMore" mtX10_put 3 := ⟨mw_X10_put, nd913, wd547⟩
theorem ns_X2_45 : nsW RX2 45 "OneStepMore" mtX10_cell 2 := ⟨mw_X10_cell, nd1323, wd627⟩
theorem ns_X2_80 : nsW RX2 80 "OneStepMore" mtX10_put 3 := ⟨mw_X10_put, nd1324, wd547⟩
theorem ns_X3_151 : nsW RX3 151 "OneStepMore" mtX10_part 3 := ⟨mw_X10_part, nd1148, wd1149⟩
theorem ns_X3_64 : nsW RX3 64 "OneStepMore" mtX10_cell 2 := ⟨mw_X10_cell, nd1096, wd627⟩
theorem ns_X3_94 : nsW RX3 94 "OneStepMore" mtX10_put 3 := ⟨mw_X10_put, nd1102, wd547⟩
theorem ns_X4_80 : nsW RX4 80 "OneStepMore" mtX10_cell 2 := ⟨mw_X10_cell, nd716, wd627⟩
theorem ns_X4_97 : nsW RX4 97 "OneStepMore" mtX10_put 3 := ⟨mw_X10_put, nd729, wd547⟩
theorem ns_X5_102 : nsW RX5 102 "OneStepMore" mtX10_cell 2 := ⟨mw_X10_cell, nd1035, wd627⟩
theorem ns_X5_135 : nsW RX5 135 "OneStepMore" mtX10_copy 2 := ⟨mw_X10_copy, nd1361, wd1358⟩
theorem ns_X5_82 : nsW RX5 82 "OneStepMore" mtX10_put 3 := ⟨mw_X10_put, nd546, wd547⟩
theorem ns_X6_100 : nsW RX6 100 "OneStepMore" mtX10_put 3 := ⟨mw_X10_put, nd1271, wd547⟩
theorem ns_X6_96 : nsW RX6 96 "OneStepMore" mtX10_cell 2 := ⟨mw_X10_cell, nd1270, wd627⟩
theorem ns_X7_28 : nsW RX7 28 "OneStepMore" mtX10_put 3 := ⟨mw_X10_put, nd600, wd547⟩
theorem ns_X7_42 : nsW RX7 42 "OneStepMore" mtX10_cell 2 := ⟨mw_X10_cell, nd626, wd627⟩
theorem ns_X8_27 : nsW RX8 27 "OneStepMore" mtX10_cell 2 := ⟨mw_X10_cell, nd999, wd627⟩
theorem ns_X9_96 : nsW RX9 96 "OneStepMore" mtX10_cell 2 := ⟨mw_X10_cell, nd876, wd627⟩
theorem cloneW_316 : cloneW "java/util/Arrays" 316 := ⟨wd793, wd794, wd795, wd796, wd797⟩
theorem tsx_1_3 (x : Int) (h : ¬ (x < 1 ∨ 3 < x)) : x = 1 ∨ x = 2 ∨ x = 3 := by omega
theorem tsx_0_8 (x : Int) (h : ¬ (x < 0 ∨ 8 < x)) : x = 0 ∨ x = 1 ∨ x = 2 ∨ x = 3 ∨ x = 4 ∨ x = 5 ∨ x = 6 ∨ x = 7 ∨ x = 8 := by omega
theorem tsx_1048_1024 (x : Int) (h : ¬ (x < -48 ∨ -24 < x)) : x = -48 ∨ x = -47 ∨ x = -46 ∨ x = -45 ∨ x = -44 ∨ x = -43 ∨ x = -42 ∨ x = -41 ∨ x = -40 ∨ x = -39 ∨ x = -38 ∨ x = -37 ∨ x = -36 ∨ x = -35 ∨ x = -34 ∨ x = -33 ∨ x = -32 ∨ x = -31 ∨ x = -30 ∨ x = -29 ∨ x = -28 ∨ x = -27 ∨ x = -26 ∨ x = -25 ∨ x = -24 := by omega
theorem tsx_0_2 (x : Int) (h : ¬ (x < 0 ∨ 2 < x)) : x = 0 ∨ x = 1 ∨ x = 2 := by omega
theorem tsx_5_16 (x : Int) (h : ¬ (x < 5 ∨ 16 < x)) : x = 5 ∨ x = 6 ∨ x = 7 ∨ x = 8 ∨ x = 9 ∨ x = 10 ∨ x = 11 ∨ x = 12 ∨ x = 13 ∨ x = 14 ∨ x = 15 ∨ x = 16 := by omega
theorem tsx_0_4 (x : Int) (h : ¬ (x < 0 ∨ 4 < x)) : x = 0 ∨ x = 1 ∨ x = 2 ∨ x = 3 ∨ x = 4 := by omega
theorem tsx_1_5 (x : Int) (h : ¬ (x < 1 ∨ 5 < x)) : x = 1 ∨ x = 2 ∨ x = 3 ∨ x = 4 ∨ x = 5 := by omega
theorem tsx_35_63 (x : Int) (h : ¬ (x < 35 ∨ 63 < x)) : x = 35 ∨ x = 36 ∨ x = 37 ∨ x = 38 ∨ x = 39 ∨ x = 40 ∨ x = 41 ∨ x = 42 ∨ x = 43 ∨ x = 44 ∨ x = 45 ∨ x = 46 ∨ x = 47 ∨ x = 48 ∨ x = 49 ∨ x = 50 ∨ x = 51 ∨ x = 52 ∨ x = 53 ∨ x = 54 ∨ x = 55 ∨ x = 56 ∨ x = 57 ∨ x = 58 ∨ x = 59 ∨ x = 60 ∨ x = 61 ∨ x = 62 ∨ x = 63 := by omega
theorem tsx_4_6 (x : Int) (h : ¬ (x < 4 ∨ 6 < x)) : x = 4 ∨ x = 5 ∨ x = 6 := by omega
theorem tsx_5_8 (x : Int) (h : ¬ (x < 5 ∨ 8 < x)) : x = 5 ∨ x = 6 ∨ x = 7 ∨ x = 8 := by omega
theorem tsx_6_16 (x : Int) (h : ¬ (x < 6 ∨ 16 < x)) : x = 6 ∨ x = 7 ∨ x = 8 ∨ x = 9 ∨ x = 10 ∨ x = 11 ∨ x = 12 ∨ x = 13 ∨ x = 14 ∨ x = 15 ∨ x = 16 := by omega
theorem tsx_5_15 (x : Int) (h : ¬ (x < 5 ∨ 15 < x)) : x = 5 ∨ x = 6 ∨ x = 7 ∨ x = 8 ∨ x = 9 ∨ x = 10 ∨ x = 11 ∨ x = 12 ∨ x = 13 ∨ x = 14 ∨ x = 15 := by omega
theorem tsx_0_41 (x : Int) (h : ¬ (x < 0 ∨ 41 < x)) : x = 0 ∨ x = 1 ∨ x = 2 ∨ x = 3 ∨ x = 4 ∨ x = 5 ∨ x = 6 ∨ x = 7 ∨ x = 8 ∨ x = 9 ∨ x = 10 ∨ x = 11 ∨ x = 12 ∨ x = 13 ∨ x = 14 ∨ x = 15 ∨ x = 16 ∨ x = 17 ∨ x = 18 ∨ x = 19 ∨ x = 20 ∨ x = 21 ∨ x = 22 ∨ x = 23 ∨ x = 24 ∨ x = 25 ∨ x = 26 ∨ x = 27 ∨ x = 28 ∨ x = 29 ∨ x = 30 ∨ x = 31 ∨ x = 32 ∨ x = 33 ∨ x = 34 ∨ x = 35 ∨ x = 36 ∨ x = 37 ∨ x = 38 ∨ x = 39 ∨ x = 40 ∨ x = 41 := by omega
