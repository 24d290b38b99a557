theorem tb1 {w : Cond} (i : Nat) (h : tables_1_1[i]? = some w) (hg : goodWord w = true) : w ∈ TB := List.mem_filter.mpr ⟨List.mem_append_right _ (List.mem_append_left _ (List.mem_of_getElem? h)), hg⟩
theorem tb2 {w : Cond} (i : Nat) (h : tables_1_2[i]? = some w) (hg : goodWord w = true) : w ∈ TB := List.mem_filter.mpr ⟨List.mem_append_right _ (List.mem_append_right _ (List.mem_append_left _ (List.mem_of_getElem? h))), hg⟩
theorem tb3 {w : Cond} (i : Nat) (h : tables_1_3[i]? = some w) (hg : goodWord w = true) : w ∈ TB := List.mem_filter.mpr ⟨List.mem_append_right _ (List.mem_append_right _ (List.mem_append_right _ (List.mem_append_left _ (List.mem_of_getElem? h)))), hg⟩
theorem tb4 {w : Cond} (i : Nat) (h : tables_1_4[i]? = some w) (hg : goodWord w = true) : w ∈ TB := List.mem_filter.mpr ⟨List.mem_append_right _ (List.mem_append_right _ (List.mem_append_right _ (List.mem_append_right _ (List.mem_append_left _ (List.mem_of_getElem? h))))), hg⟩
theorem tb5 {w : Cond} (i : Nat) (h : tables_1_5[i]? = some w) (hg : goodWord w = true) : w ∈ TB := List.mem_filter.mpr ⟨List.mem_append_right _ (List.mem_append_right _ (List.mem_append_right _ (List.mem_append_right _ (List.mem_append_right _ (List.mem_append_left _ (List.mem_of_getElem? h)))))), hg⟩
theorem tb6 {w : Cond} (i : Nat) (h : tables_1_6[i]? = some w) (hg : goodWord w = true) : w ∈ TB := List.mem_filter.mpr ⟨List.mem_append_right _ (List.mem_append_right _ (List.mem_append_right _ (List.mem_append_right _ (List.mem_append_right _ (List.mem_append_right _ (List.mem_append_left _ (List.mem_of_getElem? h))))))), hg⟩
theorem tb7 {w : Cond} (i : Nat) (h : tables_1_7[i]? = some w) (hg : goodWord w = true) : w ∈ TB := List.mem_filter.mpr ⟨List.mem_append_right _ (List.mem_append_right _ (List.mem_append_right _ (List.mem_append_right _ (List.mem_append_right _ (List.mem_append_right _ (List.mem_append_right _ (List.mem_append_left _ (List.mem_of_getElem? h)))))))), hg⟩
theorem tb8 {w : Cond} (i : Nat) (h : tables_1_8[i]? = some w) (hg : goodWord w = true) : w ∈ TB := List.mem_filter.mpr ⟨List.mem_append_right _ (List.mem_append_right _ (List.mem_append_right _ (List.mem_append_right _ (List.mem_append_right _ (List.mem_append_right _ (List.mem_append_right _ (List.mem_append_right _ (List.mem_append_left _ (List.mem_of_getElem? h))))))))), hg⟩
theorem tb9 {w : Cond} (i : Nat) (h : tables_1_9[i]? = some w) (hg : goodWord w = true) : w ∈ TB := List.mem_filter.mpr ⟨List.mem_append_right _ (List.mem_append_right _ (List.mem_append_right _ (List.mem_append_right _ (List.mem_append_right _ (List.mem_append_right _ (List.mem_append_right _ (List.mem_append_right _ (List.mem_append_right _ (List.mem_of_getElem? h))))))))), hg⟩
abbrev mX0_init : MD := (yX0_init, cX0_init, 1, none)
abbrev mX0_begin : MD := (yX0_begin, cX0_begin, 3, none)
abbrev mX0_add : MD := (yX0_add, cX0_add, 3, none)
abbrev mX0_stepBack : MD := (yX0_stepBack, cX0_stepBack, 1, some .boolean)
abbrev mX0_stepOn : MD := (yX0_stepOn, cX0_stepOn, 1, some .boolean)
abbrev mX0_current : MD := (yX0_current, cX0_current, 1, some .long)
abbrev mX1_init : MD := (yX1_init, cX1_init, 1, none)
abbrev mX1_clear : MD := (yX1_clear, cX1_clear, 1, none)
abbrev mX1_addNumber : MD := (yX1_addNumber, cX1_addNumber, 2, none)
abbrev mX1_addUnit : MD := (yX1_addUnit, cX1_addUnit, 2, none)
abbrev mX1_addDeed : MD := (yX1_addDeed, cX1_addDeed, 2, none)
abbrev mX1_put : MD := (yX1_put, cX1_put, 2, none)
abbrev mX1_valueFor : MD := (yX1_valueFor, cX1_valueFor, 7, some .int)
abbrev mX1_outcome : MD := (yX1_outcome, cX1_outcome, 3, some .int)
abbrev mX2_init : MD := (yX2_init, cX2_init, 3, none)
abbrev mX2_readFormula : MD := (yX2_readFormula, cX2_readFormula, 2, some .boolean)
abbrev mX2_readEither : MD := (yX2_readEither, cX2_readEither, 4, some .boolean)
abbrev mX2_readBoth : MD := (yX2_readBoth, cX2_readBoth, 4, some .boolean)
abbrev mX2_readOne : MD := (yX2_readOne, cX2_readOne, 4, some .boolean)
abbrev mX2_readSum : MD := (yX2_readSum, cX2_readSum, 5, some .boolean)
abbrev mX2_readTerm : MD := (yX2_readTerm, cX2_readTerm, 5, some .boolean)
abbrev mX2_readUnit : MD := (yX2_readUnit, cX2_readUnit, 2, some .boolean)
abbrev mX3_init : MD := (yX3_init, cX3_init, 1, none)
abbrev mX3_forget : MD := (yX3_forget, cX3_forget, 1, none)
abbrev mX3_tell : MD := (yX3_tell, cX3_tell, 4, some .int)
abbrev mX3_takeBack : MD := (yX3_takeBack, cX3_takeBack, 2, some .boolean)
abbrev mX3_counts : MD := (yX3_counts, cX3_counts, 3, some .boolean)
abbrev mX3_findFitting : MD := (yX3_findFitting, cX3_findFitting, 4, some .int)
abbrev mX3_keepFitting : MD := (yX3_keepFitting, cX3_keepFitting, 6, none)
abbrev mX3_countFitting : MD := (yX3_countFitting, cX3_countFitting, 3, some .int)
abbrev mX3_doorsShading : MD := (yX3_doorsShading, cX3_doorsShading, 4, some .long)
abbrev mX3_findLengths : MD := (yX3_findLengths, cX3_findLengths, 4, none)
abbrev mX3_fittingCells : MD := (yX3_fittingCells, cX3_fittingCells, 4, some .long)
abbrev mX3_fittingHeights : MD := (yX3_fittingHeights, cX3_fittingHeights, 3, some .int)
abbrev mX3_findQuestion : MD := (yX3_findQuestion, cX3_findQuestion, 7, none)
abbrev mX3_countShading : MD := (yX3_countShading, cX3_countShading, 5, some .int)
abbrev mX4_init : MD := (yX4_init, cX4_init, 1, none)
abbrev mX4_begin : MD := (yX4_begin, cX4_begin, 3, none)
abbrev mX4_hourOfDay : MD := (yX4_hourOfDay, cX4_hourOfDay, 1, some .int)
abbrev mX4_packed : MD := (yX4_packed, cX4_packed, 4, some .long)
abbrev mX4_unpack : MD := (yX4_unpack, cX4_unpack, 6, none)
abbrev mX5_init : MD := (yX5_init, cX5_init, 1, none)
abbrev mX5_clear : MD := (yX5_clear, cX5_clear, 1, none)
abbrev mX5_setSize : MD := (yX5_setSize, cX5_setSize, 3, none)
abbrev mX5_settle : MD := (yX5_settle, cX5_settle, 3, none)
abbrev mX5_canStand : MD := (yX5_canStand, cX5_canStand, 2, some .boolean)
abbrev mX5_rowBits : MD := (yX5_rowBits, cX5_rowBits, 5, some .long)
abbrev mX5_columnBits : MD := (yX5_columnBits, cX5_columnBits, 9, some .long)
abbrev mX5_castBy : MD := (yX5_castBy, cX5_castBy, 8, some .long)
abbrev mX5_shadowBy : MD := (yX5_shadowBy, cX5_shadowBy, 7, some .long)
abbrev mX5_spread : MD := (yX5_spread, cX5_spread, 7, some .long)
abbrev mX6_init : MD := (yX6_init, cX6_init, 3, none)
abbrev mX6_readInto : MD := (yX6_readInto, cX6_readInto, 6, some .boolean)
abbrev mX6_mayBegin : MD := (yX6_mayBegin, cX6_mayBegin, 3, some .boolean)
abbrev mX6_readSize : MD := (yX6_readSize, cX6_readSize, 2, some .boolean)
abbrev mX6_readWalls : MD := (yX6_readWalls, cX6_readWalls, 2, some .boolean)
abbrev mX6_readDoor : MD := (yX6_readDoor, cX6_readDoor, 4, some .boolean)
abbrev mX6_readLamp : MD := (yX6_readLamp, cX6_readLamp, 3, some .boolean)
abbrev mX6_readPerson : MD := (yX6_readPerson, cX6_readPerson, 3, some .boolean)
abbrev mX6_readShade : MD := (yX6_readShade, cX6_readShade, 1, some .boolean)
abbrev mX6_readCloud : MD := (yX6_readCloud, cX6_readCloud, 1, some .boolean)
abbrev mX6_takeHours : MD := (yX6_takeHours, cX6_takeHours, 2, some .boolean)
abbrev mX6_takeName : MD := (yX6_takeName, cX6_takeName, 2, some .boolean)
abbrev mX6_takeCell : MD := (yX6_takeCell, cX6_takeCell, 3, some .boolean)
abbrev mX6_isTaken : MD := (yX6_isTaken, cX6_isTaken, 2, some .boolean)
abbrev mX6_takeNumber : MD := (yX6_takeNumber, cX6_takeNumber, 3, some .boolean)
abbrev mX6_take : MD := (yX6_take, cX6_take, 2, some .boolean)
abbrev mX6_refuse : MD := (yX6_refuse, cX6_refuse, 2, some .boolean)
abbrev mX7_init : MD := (yX7_init, cX7_init, 2, none)
abbrev mX7_forget : MD := (yX7_forget, cX7_forget, 2, none)
abbrev mX7_aimAt : MD := (yX7_aimAt, cX7_aimAt, 2, none)
abbrev mX7_startOn : MD := (yX7_startOn, cX7_startOn, 2, none)
abbrev mX7_burn : MD := (yX7_burn, cX7_burn, 2, none)
abbrev mX7_isDark : MD := (yX7_isDark, cX7_isDark, 1, some .boolean)
abbrev mX7_darken : MD := (yX7_darken, cX7_darken, 2, none)
abbrev mX7_shadowOf : MD := (yX7_shadowOf, cX7_shadowOf, 3, some .long)
abbrev mX7_openIn : MD := (yX7_openIn, cX7_openIn, 2, some .int)
abbrev mX7_prepare : MD := (yX7_prepare, cX7_prepare, 8, none)
abbrev mX7_cut : MD := (yX7_cut, cX7_cut, 1, some .int)
abbrev mX7_litIn : MD := (yX7_litIn, cX7_litIn, 4, some .int)
abbrev mX7_stepFrom : MD := (yX7_stepFrom, cX7_stepFrom, 12, some .long)
abbrev mX7_crossed : MD := (yX7_crossed, cX7_crossed, 8, some .long)
abbrev mX8_init : MD := (yX8_init, cX8_init, 2, none)
abbrev mX8_has : MD := (yX8_has, cX8_has, 2, some .boolean)
abbrev mX8_isFull : MD := (yX8_isFull, cX8_isFull, 1, some .boolean)
abbrev mX8_isNamed : MD := (yX8_isNamed, cX8_isNamed, 4, some .boolean)
abbrev mX8_standAt : MD := (yX8_standAt, cX8_standAt, 3, some .boolean)
abbrev mX8_isInHours : MD := (yX8_isInHours, cX8_isInHours, 3, some .boolean)
abbrev mX8_add : MD := (yX8_add, cX8_add, 7, none)
abbrev mX9_init : MD := (yX9_init, cX9_init, 5, none)
abbrev mX9_begin : MD := (yX9_begin, cX9_begin, 2, none)
abbrev mX9_advance : MD := (yX9_advance, cX9_advance, 2, none)
abbrev mX9_kindOfWord : MD := (yX9_kindOfWord, cX9_kindOfWord, 2, some .int)
abbrev mX9_withLetter : MD := (yX9_withLetter, cX9_withLetter, 3, some .long)
abbrev mX9_isLetter : MD := (yX9_isLetter, cX9_isLetter, 1, some .boolean)
abbrev mX9_isDigit : MD := (yX9_isDigit, cX9_isDigit, 1, some .boolean)
abbrev mX10_init : MD := (yX10_init, cX10_init, 2, none)
abbrev mX10_forget : MD := (yX10_forget, cX10_forget, 1, none)
abbrev mX10_layWay : MD := (yX10_layWay, cX10_layWay, 8, some .int)
abbrev mX10_goOn : MD := (yX10_goOn, cX10_goOn, 7, some .long)
abbrev mX10_comeFrom : MD := (yX10_comeFrom, cX10_comeFrom, 7, some .long)
abbrev mX10_bringTogether : MD := (yX10_bringTogether, cX10_bringTogether, 8, some .boolean)
abbrev mX10_joinedWith : MD := (yX10_joinedWith, cX10_joinedWith, 9, some .long)
abbrev mX10_countJoined : MD := (yX10_countJoined, cX10_countJoined, 6, some .int)
abbrev mX10_fewestShut : MD := (yX10_fewestShut, cX10_fewestShut, 7, some .int)
abbrev mX10_fewestLit : MD := (yX10_fewestLit, cX10_fewestLit, 7, some .int)
abbrev mX10_canBe : MD := (yX10_canBe, cX10_canBe, 8, some .boolean)
abbrev mX10_countDates : MD := (yX10_countDates, cX10_countDates, 10, some .int)
abbrev mX10_weighOdds : MD := (yX10_weighOdds, cX10_weighOdds, 8, none)
abbrev mX10_addBest : MD := (yX10_addBest, cX10_addBest, 4, none)
abbrev mX10_bestOf : MD := (yX10_bestOf, cX10_bestOf, 8, some .long)
abbrev mX10_commonDivisor : MD := (yX10_commonDivisor, cX10_commonDivisor, 11, some .long)
abbrev mX11_init : MD := (yX11_init, cX11_init, 1, none)
abbrev mX11_feed : MD := (yX11_feed, cX11_feed, 6, some .int)
abbrev mX11_putOnTape : MD := (yX11_putOnTape, cX11_putOnTape, 3, none)
abbrev mX11_end : MD := (yX11_end, cX11_end, 2, some .int)
abbrev mX11_quarter : MD := (yX11_quarter, cX11_quarter, 3, some .int)
abbrev mX11_fault : MD := (yX11_fault, cX11_fault, 2, some .int)
abbrev mX11_door : MD := (yX11_door, cX11_door, 3, some .int)
abbrev mX11_lamp : MD := (yX11_lamp, cX11_lamp, 3, some .int)
abbrev mX11_person : MD := (yX11_person, cX11_person, 3, some .int)
abbrev mX11_shade : MD := (yX11_shade, cX11_shade, 4, some .int)
abbrev mX11_shadow : MD := (yX11_shadow, cX11_shadow, 3, some .long)
abbrev mX11_shades : MD := (yX11_shades, cX11_shades, 7, some .long)
abbrev mX11_moves : MD := (yX11_moves, cX11_moves, 3, some .long)
abbrev mX11_go : MD := (yX11_go, cX11_go, 4, some .int)
abbrev mX11_hour : MD := (yX11_hour, cX11_hour, 1, some .int)
abbrev mX11_shut : MD := (yX11_shut, cX11_shut, 2, some .int)
abbrev mX11_out : MD := (yX11_out, cX11_out, 2, some .int)
abbrev mX11_eclipse : MD := (yX11_eclipse, cX11_eclipse, 1, some .boolean)
abbrev mX11_undo : MD := (yX11_undo, cX11_undo, 1, some .boolean)
abbrev mX11_redo : MD := (yX11_redo, cX11_redo, 1, some .boolean)
abbrev mX11_soonest : MD := (yX11_soonest, cX11_soonest, 3, some .int)
abbrev mX11_reach : MD := (yX11_reach, cX11_reach, 3, some .long)
abbrev mX11_meet : MD := (yX11_meet, cX11_meet, 4, some .int)
abbrev mX11_barred : MD := (yX11_barred, cX11_barred, 3, some .long)
abbrev mX11_longest : MD := (yX11_longest, cX11_longest, 7, some .int)
abbrev mX11_cross : MD := (yX11_cross, cX11_cross, 8, some .int)
abbrev mX11_rooms : MD := (yX11_rooms, cX11_rooms, 2, some .int)
abbrev mX11_hears : MD := (yX11_hears, cX11_hears, 4, some .int)
abbrev mX11_keep : MD := (yX11_keep, cX11_keep, 5, some .int)
abbrev mX11_free : MD := (yX11_free, cX11_free, 5, some .int)
abbrev mX11_surest : MD := (yX11_surest, cX11_surest, 5, some .long)
abbrev mX11_dates : MD := (yX11_dates, cX11_dates, 5, some .int)
abbrev mX11_lies : MD := (yX11_lies, cX11_lies, 2, some .int)
abbrev mX11_look : MD := (yX11_look, cX11_look, 4, some .int)
abbrev mX11_untell : MD := (yX11_untell, cX11_untell, 2, some .boolean)
abbrev mX11_later : MD := (yX11_later, cX11_later, 2, some .int)
abbrev mX11_fit : MD := (yX11_fit, cX11_fit, 2, some .int)
abbrev mX11_places : MD := (yX11_places, cX11_places, 2, some .long)
abbrev mX11_heights : MD := (yX11_heights, cX11_heights, 2, some .int)
abbrev mX11_ask : MD := (yX11_ask, cX11_ask, 3, some .int)
abbrev mX11_image : MD := (yX11_image, cX11_image, 2, some .int)
abbrev mX11_back : MD := (yX11_back, cX11_back, 2, some .int)
abbrev mX11_about : MD := (yX11_about, cX11_about, 2, some .int)
abbrev mX11_isJourney : MD := (yX11_isJourney, cX11_isJourney, 5, some .boolean)
abbrev mX11_toldAs : MD := (yX11_toldAs, cX11_toldAs, 2, some .int)
abbrev mX11_isAhead : MD := (yX11_isAhead, cX11_isAhead, 1, some .boolean)
abbrev mX11_isChoice : MD := (yX11_isChoice, cX11_isChoice, 1, some .boolean)
abbrev mX11_isBit : MD := (yX11_isBit, cX11_isBit, 2, some .boolean)
abbrev mX12_init : MD := (yX12_init, cX12_init, 1, none)
abbrev mX12_feed : MD := (yX12_feed, cX12_feed, 6, some .int)
abbrev mX12_four : MD := (yX12_four, cX12_four, 3, none)
abbrev mX12_end : MD := (yX12_end, cX12_end, 2, some .int)
abbrev mX12_here : MD := (yX12_here, cX12_here, 2, some .int)
abbrev mX12_isLetter : MD := (yX12_isLetter, cX12_isLetter, 1, some .boolean)
abbrev mX12_isDigit : MD := (yX12_isDigit, cX12_isDigit, 1, some .boolean)
abbrev mX12_isSign : MD := (yX12_isSign, cX12_isSign, 1, some .boolean)
abbrev mX12_token : MD := (yX12_token, cX12_token, 3, none)
abbrev mX12_wrongAt : MD := (yX12_wrongAt, cX12_wrongAt, 3, none)
abbrev mX12_wrong : MD := (yX12_wrong, cX12_wrong, 2, none)
abbrev mX12_isWord : MD := (yX12_isWord, cX12_isWord, 3, some .boolean)
abbrev mX12_isOwn : MD := (yX12_isOwn, cX12_isOwn, 1, some .boolean)
abbrev mX12_isName : MD := (yX12_isName, cX12_isName, 1, some .boolean)
abbrev mX12_want : MD := (yX12_want, cX12_want, 3, none)
abbrev mX12_toldNumber : MD := (yX12_toldNumber, cX12_toldNumber, 4, some .int)
abbrev mX12_told : MD := (yX12_told, cX12_told, 5, some .int)
abbrev mX12_find : MD := (yX12_find, cX12_find, 5, some .int)
abbrev mX12_newName : MD := (yX12_newName, cX12_newName, 3, none)
abbrev mX12_add : MD := (yX12_add, cX12_add, 3, none)
abbrev mX12_tight : MD := (yX12_tight, cX12_tight, 1, some .int)
abbrev mX12_close : MD := (yX12_close, cX12_close, 2, none)
abbrev mX12_hasRelation : MD := (yX12_hasRelation, cX12_hasRelation, 2, some .boolean)
abbrev mX12_mayNot : MD := (yX12_mayNot, cX12_mayNot, 1, some .boolean)
abbrev mX12_asked : MD := (yX12_asked, cX12_asked, 1, some .int)
abbrev mX12_isFull : MD := (yX12_isFull, cX12_isFull, 1, some .boolean)
abbrev mX12_countUnit : MD := (yX12_countUnit, cX12_countUnit, 1, none)
abbrev mX12_openUp : MD := (yX12_openUp, cX12_openUp, 2, none)
abbrev mX12_unit : MD := (yX12_unit, cX12_unit, 3, none)
abbrev mX12_sign : MD := (yX12_sign, cX12_sign, 1, some .int)
abbrev mX12_hasBracket : MD := (yX12_hasBracket, cX12_hasBracket, 3, some .boolean)
abbrev mX12_readShade : MD := (yX12_readShade, cX12_readShade, 3, none)
abbrev mX12_truth : MD := (yX12_truth, cX12_truth, 1, some .int)
abbrev mX12_done : MD := (yX12_done, cX12_done, 3, some .int)
abbrev mX12_shadeOf : MD := (yX12_shadeOf, cX12_shadeOf, 6, some .int)
abbrev mX12_has : MD := (yX12_has, cX12_has, 3, some .boolean)
abbrev mX12_readCell : MD := (yX12_readCell, cX12_readCell, 7, some .int)
abbrev mX12_readWall : MD := (yX12_readWall, cX12_readWall, 3, none)
abbrev mX12_readDoor : MD := (yX12_readDoor, cX12_readDoor, 2, none)
abbrev mX12_readLamp : MD := (yX12_readLamp, cX12_readLamp, 2, none)
abbrev mX12_readPerson : MD := (yX12_readPerson, cX12_readPerson, 1, none)
abbrev mX12_readLine : MD := (yX12_readLine, cX12_readLine, 1, none)
abbrev mX12_readAll : MD := (yX12_readAll, cX12_readAll, 1, none)
abbrev mX12_quarter : MD := (yX12_quarter, cX12_quarter, 2, some .int)
abbrev mX12_fault : MD := (yX12_fault, cX12_fault, 2, some .int)
abbrev mX12_isIn : MD := (yX12_isIn, cX12_isIn, 3, some .boolean)
abbrev mX12_isDoor : MD := (yX12_isDoor, cX12_isDoor, 2, some .boolean)
abbrev mX12_isLamp : MD := (yX12_isLamp, cX12_isLamp, 2, some .boolean)
abbrev mX12_isPerson : MD := (yX12_isPerson, cX12_isPerson, 2, some .boolean)
abbrev mX12_isFree : MD := (yX12_isFree, cX12_isFree, 2, some .boolean)
abbrev mX12_isFar : MD := (yX12_isFar, cX12_isFar, 1, some .boolean)
abbrev mX12_members : MD := (yX12_members, cX12_members, 4, some .int)
abbrev mX12_leastOf : MD := (yX12_leastOf, cX12_leastOf, 3, some .int)
abbrev mX12_load : MD := (yX12_load, cX12_load, 2, none)
abbrev mX12_setHour : MD := (yX12_setHour, cX12_setHour, 2, none)
abbrev mX12_isOpen : MD := (yX12_isOpen, cX12_isOpen, 2, some .boolean)
abbrev mX12_isLit : MD := (yX12_isLit, cX12_isLit, 2, some .boolean)
abbrev mX12_row : MD := (yX12_row, cX12_row, 10, some .long)
abbrev mX12_toward : MD := (yX12_toward, cX12_toward, 2, some .int)
abbrev mX12_byLamp : MD := (yX12_byLamp, cX12_byLamp, 10, some .long)
abbrev mX12_capped : MD := (yX12_capped, cX12_capped, 1, some .int)
abbrev mX12_shadowOf : MD := (yX12_shadowOf, cX12_shadowOf, 6, some .long)
abbrev mX12_layShadows : MD := (yX12_layShadows, cX12_layShadows, 2, none)
abbrev mX12_nextTo : MD := (yX12_nextTo, cX12_nextTo, 2, some .long)
abbrev mX12_movesFrom : MD := (yX12_movesFrom, cX12_movesFrom, 6, some .long)
abbrev mX12_layMoves : MD := (yX12_layMoves, cX12_layMoves, 3, none)
abbrev mX12_layHours : MD := (yX12_layHours, cX12_layHours, 4, none)
abbrev mX12_goOn : MD := (yX12_goOn, cX12_goOn, 7, some .long)
abbrev mX12_door : MD := (yX12_door, cX12_door, 3, some .int)
abbrev mX12_lamp : MD := (yX12_lamp, cX12_lamp, 3, some .int)
abbrev mX12_person : MD := (yX12_person, cX12_person, 3, some .int)
abbrev mX12_shade : MD := (yX12_shade, cX12_shade, 3, some .int)
abbrev mX12_shadow : MD := (yX12_shadow, cX12_shadow, 3, some .long)
abbrev mX12_shades : MD := (yX12_shades, cX12_shades, 6, some .long)
abbrev mX12_moves : MD := (yX12_moves, cX12_moves, 3, some .long)
abbrev mX12_act : MD := (yX12_act, cX12_act, 2, none)
abbrev mX12_exchange : MD := (yX12_exchange, cX12_exchange, 4, none)
abbrev mX12_go : MD := (yX12_go, cX12_go, 4, some .int)
abbrev mX12_hour : MD := (yX12_hour, cX12_hour, 1, some .int)
abbrev mX12_shut : MD := (yX12_shut, cX12_shut, 2, some .int)
abbrev mX12_out : MD := (yX12_out, cX12_out, 2, some .int)
abbrev mX12_eclipse : MD := (yX12_eclipse, cX12_eclipse, 1, some .boolean)
abbrev mX12_undo : MD := (yX12_undo, cX12_undo, 1, some .boolean)
abbrev mX12_redo : MD := (yX12_redo, cX12_redo, 1, some .boolean)
abbrev mX12_soonest : MD := (yX12_soonest, cX12_soonest, 8, some .int)
abbrev mX12_reachOf : MD := (yX12_reachOf, cX12_reachOf, 6, some .long)
abbrev mX12_reach : MD := (yX12_reach, cX12_reach, 3, some .long)
abbrev mX12_meet : MD := (yX12_meet, cX12_meet, 9, some .int)
abbrev mX12_barred : MD := (yX12_barred, cX12_barred, 6, some .long)
abbrev mX12_longest : MD := (yX12_longest, cX12_longest, 7, some .int)
abbrev mX12_cross : MD := (yX12_cross, cX12_cross, 7, some .int)
abbrev mX12_join : MD := (yX12_join, cX12_join, 7, none)
abbrev mX12_layRooms : MD := (yX12_layRooms, cX12_layRooms, 4, none)
abbrev mX12_rooms : MD := (yX12_rooms, cX12_rooms, 4, some .int)
abbrev mX12_hears : MD := (yX12_hears, cX12_hears, 4, some .int)
abbrev mX12_comes : MD := (yX12_comes, cX12_comes, 5, some .boolean)
abbrev mX12_isAsked : MD := (yX12_isAsked, cX12_isAsked, 4, some .boolean)
abbrev mX12_keeps : MD := (yX12_keeps, cX12_keeps, 5, some .boolean)
abbrev mX12_keep : MD := (yX12_keep, cX12_keep, 7, some .int)
abbrev mX12_frees : MD := (yX12_frees, cX12_frees, 5, some .boolean)
abbrev mX12_free : MD := (yX12_free, cX12_free, 7, some .int)
abbrev mX12_bestOf : MD := (yX12_bestOf, cX12_bestOf, 6, some .long)
abbrev mX12_common : MD := (yX12_common, cX12_common, 10, some .long)
abbrev mX12_surest : MD := (yX12_surest, cX12_surest, 10, some .long)
abbrev mX12_dates : MD := (yX12_dates, cX12_dates, 9, some .int)
abbrev mX12_lies : MD := (yX12_lies, cX12_lies, 2, some .int)
abbrev mX12_look : MD := (yX12_look, cX12_look, 4, some .int)
abbrev mX12_untell : MD := (yX12_untell, cX12_untell, 2, some .boolean)
abbrev mX12_later : MD := (yX12_later, cX12_later, 2, some .int)
abbrev mX12_counts : MD := (yX12_counts, cX12_counts, 3, some .boolean)
abbrev mX12_wouldBe : MD := (yX12_wouldBe, cX12_wouldBe, 6, some .boolean)
abbrev mX12_fits : MD := (yX12_fits, cX12_fits, 6, some .boolean)
abbrev mX12_layFits : MD := (yX12_layFits, cX12_layFits, 4, none)
abbrev mX12_fit : MD := (yX12_fit, cX12_fit, 2, some .int)
abbrev mX12_places : MD := (yX12_places, cX12_places, 2, some .long)
abbrev mX12_heights : MD := (yX12_heights, cX12_heights, 4, some .int)
abbrev mX12_leftBy : MD := (yX12_leftBy, cX12_leftBy, 6, some .int)
abbrev mX12_ask : MD := (yX12_ask, cX12_ask, 8, some .int)
abbrev mX12_isBox : MD := (yX12_isBox, cX12_isBox, 1, some .boolean)
abbrev mX12_image : MD := (yX12_image, cX12_image, 3, some .int)
abbrev mX12_back : MD := (yX12_back, cX12_back, 3, some .int)
abbrev mX12_about : MD := (yX12_about, cX12_about, 2, some .int)
abbrev mJ11_isValidCodePoint_9a6ad : MD := (yJ11_isValidCodePoint_9a6ad, cJ11_isValidCodePoint_9a6ad, 2, some .boolean)
abbrev mJ11_highSurrogate_5068e : MD := (yJ11_highSurrogate_5068e, cJ11_highSurrogate_5068e, 1, some .char)
abbrev mJ11_lowSurrogate_5068e : MD := (yJ11_lowSurrogate_5068e, cJ11_lowSurrogate_5068e, 1, some .char)
abbrev mJ6_numberOfTrailingZeros_0f7a4 : MD := (yJ6_numberOfTrailingZeros_0f7a4, cJ6_numberOfTrailingZeros_0f7a4, 2, some .int)
abbrev mJ6_bitCount_0f7a4 : MD := (yJ6_bitCount_0f7a4, cJ6_bitCount_0f7a4, 1, some .int)
abbrev mJ13_lowestOneBit_067f4 : MD := (yJ13_lowestOneBit_067f4, cJ13_lowestOneBit_067f4, 2, some .long)
abbrev mJ13_numberOfTrailingZeros_95d88 : MD := (yJ13_numberOfTrailingZeros_95d88, cJ13_numberOfTrailingZeros_95d88, 3, some .int)
abbrev mJ13_bitCount_95d88 : MD := (yJ13_bitCount_95d88, cJ13_bitCount_95d88, 2, some .int)
abbrev mJ9_abs_0f7a4 : MD := (yJ9_abs_0f7a4, cJ9_abs_0f7a4, 1, some .int)
abbrev mJ9_max_7cf53 : MD := (yJ9_max_7cf53, cJ9_max_7cf53, 2, some .int)
abbrev mJ9_max_f86c9 : MD := (yJ9_max_f86c9, cJ9_max_f86c9, 4, some .long)
abbrev mJ9_min_7cf53 : MD := (yJ9_min_7cf53, cJ9_min_7cf53, 2, some .int)
abbrev mJ0_length_8abf5 : MD := (yJ0_length_8abf5, cJ0_length_8abf5, 1, some .int)
abbrev mJ0_charAt_5068e : MD := (yJ0_charAt_5068e, cJ0_charAt_5068e, 2, some .char)
abbrev mJ0_indexOf_0f7a4 : MD := (yJ0_indexOf_0f7a4, cJ0_indexOf_0f7a4, 2, some .int)
abbrev mJ0_indexOf_7cf53 : MD := (yJ0_indexOf_7cf53, cJ0_indexOf_7cf53, 3, some .int)
abbrev mJ0_coder_7d493 : MD := (yJ0_coder_7d493, cJ0_coder_7d493, 1, some .byte)
abbrev mJ0_isLatin1_aae02 : MD := (yJ0_isLatin1_aae02, cJ0_isLatin1_aae02, 1, some .boolean)
abbrev mJ0_checkIndex_df160 : MD := (yJ0_checkIndex_df160, cJ0_checkIndex_df160, 2, none)
abbrev mJ0_checkBoundsBeginEnd_23922 : MD := (yJ0_checkBoundsBeginEnd_23922, cJ0_checkBoundsBeginEnd_23922, 3, none)
abbrev mJ1_charAt_3b067 : MD := (yJ1_charAt_3b067, cJ1_charAt_3b067, 2, some .char)
abbrev mJ1_canEncode_9a6ad : MD := (yJ1_canEncode_9a6ad, cJ1_canEncode_9a6ad, 1, some .boolean)
abbrev mJ1_indexOf_4cfef : MD := (yJ1_indexOf_4cfef, cJ1_indexOf_4cfef, 4, some .int)
abbrev mJ1_indexOfChar_4cfef : MD := (yJ1_indexOfChar_4cfef, cJ1_indexOfChar_4cfef, 6, some .int)
abbrev mJ2_getChar_3b067 : MD := (yJ2_getChar_3b067, cJ2_getChar_3b067, 2, some .char)
abbrev mJ2_length_9d52b : MD := (yJ2_length_9d52b, cJ2_length_9d52b, 1, some .int)
abbrev mJ2_indexOf_4cfef : MD := (yJ2_indexOf_4cfef, cJ2_indexOf_4cfef, 4, some .int)
abbrev mJ2_indexOfChar_4cfef : MD := (yJ2_indexOfChar_4cfef, cJ2_indexOfChar_4cfef, 4, some .int)
abbrev mJ2_indexOfCharUnsafe_4cfef : MD := (yJ2_indexOfCharUnsafe_4cfef, cJ2_indexOfCharUnsafe_4cfef, 5, some .int)
abbrev mJ2_indexOfSupplementary_4cfef : MD := (yJ2_indexOfSupplementary_4cfef, cJ2_indexOfSupplementary_4cfef, 7, some .int)
abbrev mJ2_charAt_3b067 : MD := (yJ2_charAt_3b067, cJ2_charAt_3b067, 2, some .char)
abbrev mJ2_checkIndex_2214a : MD := (yJ2_checkIndex_2214a, cJ2_checkIndex_2214a, 2, none)
abbrev mJ2_checkBoundsBeginEnd_d044e : MD := (yJ2_checkBoundsBeginEnd_d044e, cJ2_checkBoundsBeginEnd_d044e, 3, none)
abbrev mJ7_fill_d0a16 : MD := (yJ7_fill_d0a16, cJ7_fill_d0a16, 5, none)
abbrev mJ7_fill_53178 : MD := (yJ7_fill_53178, cJ7_fill_53178, 4, none)
abbrev mJ3_checkIndex_8e157 : MD := (yJ3_checkIndex_8e157, cJ3_checkIndex_8e157, 3, some .int)
abbrev mJ3_checkFromToIndex_8c36e : MD := (yJ3_checkFromToIndex_8c36e, cJ3_checkFromToIndex_8c36e, 4, some .int)
abbrev mL_law : MD := (yL_law, cL_law, 4, some .boolean)
set_option maxRecDepth 100000 in
theorem wi_X0 : Cond.initialized RX0 ∈ TB := tb1 14 rfl rfl
set_option maxRecDepth 100000 in
theorem mfX0_init : MF mX0_init 0 := ⟨⟨by decide, by decide, by decide +kernel⟩, wi_X0, tb2 153 rfl rfl, by decide⟩
set_option maxRecDepth 100000 in
theorem mIX0_init : MFI mX0_init 0 := ⟨mfX0_init, tb2 152 rfl rfl, rfl, rfl⟩
set_option maxRecDepth 100000 in
theorem mfX0_begin : MF mX0_begin 1 := ⟨⟨by decide, by decide, by decide +kernel⟩, wi_X0, tb2 174 rfl rfl, by decide⟩
set_option maxRecDepth 100000 in
theorem mVX0_begin : MFV mX0_begin 1 0 := ⟨mfX0_begin, tb2 172 rfl rfl, tb2 173 rfl rfl, by decide, rfl⟩
set_option maxRecDepth 100000 in
theorem mfX0_add : MF mX0_add 1 := ⟨⟨by decide, by decide, by decide +kernel⟩, wi_X0, tb4 217 rfl rfl, by decide⟩
set_option maxRecDepth 100000 in
theorem mVX0_add : MFV mX0_add 1 0 := ⟨mfX0_add, tb4 215 rfl rfl, tb4 216 rfl rfl, by decide, rfl⟩
set_option maxRecDepth 100000 in
theorem mfX0_stepBack : MF mX0_stepBack 0 := ⟨⟨by decide, by decide, by decide +kernel⟩, wi_X0, tb5 5 rfl rfl, by decide⟩
set_option maxRecDepth 100000 in
theorem mVX0_stepBack : MFV mX0_stepBack 0 0 := ⟨mfX0_stepBack, tb5 3 rfl rfl, tb5 4 rfl rfl, by decide, rfl⟩
set_option maxRecDepth 100000 in
theorem mfX0_stepOn : MF mX0_stepOn 0 := ⟨⟨by decide, by decide, by decide +kernel⟩, wi_X0, tb5 24 rfl rfl, by decide⟩
set_option maxRecDepth 100000 in
theorem mVX0_stepOn : MFV mX0_stepOn 0 0 := ⟨mfX0_stepOn, tb5 22 rfl rfl, tb5 23 rfl rfl, by decide, rfl⟩
set_option maxRecDepth 100000 in
theorem mfX0_current : MF mX0_current 0 := ⟨⟨by decide, by decide, by decide +kernel⟩, wi_X0, tb5 9 rfl rfl, by decide⟩
set_option maxRecDepth 100000 in
theorem mVX0_current : MFV mX0_current 0 0 := ⟨mfX0_current, tb5 7 rfl rfl, tb5 8 rfl rfl, by decide, rfl⟩
set_option maxRecDepth 100000 in
theorem wi_X1 : Cond.initialized RX1 ∈ TB := tb1 4 rfl rfl
set_option maxRecDepth 100000 in
theorem mfX1_init : MF mX1_init 0 := ⟨⟨by decide, by decide, by decide +kernel⟩, wi_X1, tb1 83 rfl rfl, by decide⟩
set_option maxRecDepth 100000 in
theorem mIX1_init : MFI mX1_init 0 := ⟨mfX1_init, tb1 82 rfl rfl, rfl, rfl⟩
set_option maxRecDepth 100000 in
theorem mfX1_clear : MF mX1_clear 0 := ⟨⟨by decide, by decide, by decide +kernel⟩, wi_X1, tb1 115 rfl rfl, by decide⟩
set_option maxRecDepth 100000 in
theorem mVX1_clear : MFV mX1_clear 0 1 := ⟨mfX1_clear, tb1 113 rfl rfl, tb1 114 rfl rfl, by decide, rfl⟩
set_option maxRecDepth 100000 in
theorem mfX1_addNumber : MF mX1_addNumber 1 := ⟨⟨by decide, by decide, by decide +kernel⟩, wi_X1, tb4 77 rfl rfl, by decide⟩
set_option maxRecDepth 100000 in
theorem mVX1_addNumber : MFV mX1_addNumber 1 1 := ⟨mfX1_addNumber, tb4 75 rfl rfl, tb4 76 rfl rfl, by decide, rfl⟩
set_option maxRecDepth 100000 in
theorem mfX1_addUnit : MF mX1_addUnit 1 := ⟨⟨by decide, by decide, by decide +kernel⟩, wi_X1, tb4 81 rfl rfl, by decide⟩
set_option maxRecDepth 100000 in
theorem mVX1_addUnit : MFV mX1_addUnit 1 1 := ⟨mfX1_addUnit, tb4 79 rfl rfl, tb4 80 rfl rfl, by decide, rfl⟩
set_option maxRecDepth 100000 in
theorem mfX1_addDeed : MF mX1_addDeed 1 := ⟨⟨by decide, by decide, by decide +kernel⟩, wi_X1, tb4 57 rfl rfl, by decide⟩
set_option maxRecDepth 100000 in
theorem mVX1_addDeed : MFV mX1_addDeed 1 1 := ⟨mfX1_addDeed, tb4 55 rfl rfl, tb4 56 rfl rfl, by decide, rfl⟩
set_option maxRecDepth 100000 in
theorem mfX1_put : MF mX1_put 1 := ⟨⟨by decide, by decide, by decide +kernel⟩, wi_X1, tb4 61 rfl rfl, by decide⟩
set_option maxRecDepth 100000 in
theorem mVX1_put : MFV mX1_put 1 1 := ⟨mfX1_put, tb4 60 rfl rfl, tb_in 21 (by decide +kernel) rfl, by decide, rfl⟩
set_option maxRecDepth 100000 in
theorem mfX1_valueFor : MF mX1_valueFor 3 := ⟨⟨by decide, by decide, by decide +kernel⟩, wi_X1, tb4 141 rfl rfl, by decide⟩
set_option maxRecDepth 100000 in
theorem mVX1_valueFor : MFV mX1_valueFor 3 1 := ⟨mfX1_valueFor, tb4 139 rfl rfl, tb4 140 rfl rfl, by decide, rfl⟩
set_option maxRecDepth 100000 in
theorem mfX1_outcome : MF mX1_outcome 3 := ⟨⟨by decide, by decide, by decide +kernel⟩, wi_X1, tb4 144 rfl rfl, by decide⟩
set_option maxRecDepth 100000 in
theorem mSX1_outcome : MFS mX1_outcome 3 := ⟨mfX1_outcome, tb4 143 rfl rfl⟩
set_option maxRecDepth 100000 in
theorem wi_X2 : Cond.initialized RX2 ∈ TB := tb1 12 rfl rfl
set_option maxRecDepth 100000 in
theorem mfX2_init : MF mX2_init 2 := ⟨⟨by decide, by decide, by decide +kernel⟩, wi_X2, tb2 68 rfl rfl, by decide⟩
set_option maxRecDepth 100000 in
theorem mIX2_init : MFI mX2_init 2 := ⟨mfX2_init, tb2 67 rfl rfl, rfl, rfl⟩
set_option maxRecDepth 100000 in
theorem mfX2_readFormula : MF mX2_readFormula 1 := ⟨⟨by decide, by decide, by decide +kernel⟩, wi_X2, tb4 40 rfl rfl, by decide⟩
set_option maxRecDepth 100000 in
theorem mVX2_readFormula : MFV mX2_readFormula 1 2 := ⟨mfX2_readFormula, tb4 38 rfl rfl, tb4 39 rfl rfl, by decide, rfl⟩
set_option maxRecDepth 100000 in
theorem mfX2_readEither : MF mX2_readEither 1 := ⟨⟨by decide, by decide, by decide +kernel⟩, wi_X2, tb4 44 rfl rfl, by decide⟩
set_option maxRecDepth 100000 in
theorem mVX2_readEither : MFV mX2_readEither 1 2 := ⟨mfX2_readEither, tb4 43 rfl rfl, tb_in 18 (by decide +kernel) rfl, by decide, rfl⟩
set_option maxRecDepth 100000 in
theorem mfX2_readBoth : MF mX2_readBoth 1 := ⟨⟨by decide, by decide, by decide +kernel⟩, wi_X2, tb4 48 rfl rfl, by decide⟩
set_option maxRecDepth 100000 in
theorem mVX2_readBoth : MFV mX2_readBoth 1 2 := ⟨mfX2_readBoth, tb4 47 rfl rfl, tb_in 19 (by decide +kernel) rfl, by decide, rfl⟩
set_option maxRecDepth 100000 in
theorem mfX2_readOne : MF mX2_readOne 1 := ⟨⟨by decide, by decide, by decide +kernel⟩, wi_X2, tb4 52 rfl rfl, by decide⟩
set_option maxRecDepth 100000 in
theorem mVX2_readOne : MFV mX2_readOne 1 2 := ⟨mfX2_readOne, tb4 51 rfl rfl, tb_in 20 (by decide +kernel) rfl, by decide, rfl⟩
set_option maxRecDepth 100000 in
theorem mfX2_readSum : MF mX2_readSum 1 := ⟨⟨by decide, by decide, by decide +kernel⟩, wi_X2, tb4 65 rfl rfl, by decide⟩
set_option maxRecDepth 100000 in
theorem mVX2_readSum : MFV mX2_readSum 1 2 := ⟨mfX2_readSum, tb4 64 rfl rfl, tb_in 22 (by decide +kernel) rfl, by decide, rfl⟩
set_option maxRecDepth 100000 in
theorem mfX2_readTerm : MF mX2_readTerm 1 := ⟨⟨by decide, by decide, by decide +kernel⟩, wi_X2, tb4 69 rfl rfl, by decide⟩
set_option maxRecDepth 100000 in
theorem mVX2_readTerm : MFV mX2_readTerm 1 2 := ⟨mfX2_readTerm, tb4 68 rfl rfl, tb_in 23 (by decide +kernel) rfl, by decide, rfl⟩
set_option maxRecDepth 100000 in
theorem mfX2_readUnit : MF mX2_readUnit 1 := ⟨⟨by decide, by decide, by decide +kernel⟩, wi_X2, tb4 73 rfl rfl, by decide⟩
set_option maxRecDepth 100000 in
theorem mVX2_readUnit : MFV mX2_readUnit 1 2 := ⟨mfX2_readUnit, tb4 72 rfl rfl, tb_in 24 (by decide +kernel) rfl, by decide, rfl⟩
set_option maxRecDepth 100000 in
theorem wi_X3 : Cond.initialized RX3 ∈ TB := tb1 17 rfl rfl
set_option maxRecDepth 100000 in
theorem mfX3_init : MF mX3_init 0 := ⟨⟨by decide, by decide, by decide +kernel⟩, wi_X3, tb3 20 rfl rfl, by decide⟩
set_option maxRecDepth 100000 in
theorem mIX3_init : MFI mX3_init 0 := ⟨mfX3_init, tb3 19 rfl rfl, rfl, rfl⟩
set_option maxRecDepth 100000 in
theorem mfX3_forget : MF mX3_forget 0 := ⟨⟨by decide, by decide, by decide +kernel⟩, wi_X3, tb4 98 rfl rfl, by decide⟩
set_option maxRecDepth 100000 in
theorem mVX3_forget : MFV mX3_forget 0 3 := ⟨mfX3_forget, tb4 96 rfl rfl, tb4 97 rfl rfl, by decide, rfl⟩
set_option maxRecDepth 100000 in
theorem mfX3_tell : MF mX3_tell 3 := ⟨⟨by decide, by decide, by decide +kernel⟩, wi_X3, tb5 197 rfl rfl, by decide⟩
set_option maxRecDepth 100000 in
theorem mVX3_tell : MFV mX3_tell 3 3 := ⟨mfX3_tell, tb5 195 rfl rfl, tb5 196 rfl rfl, by decide, rfl⟩
set_option maxRecDepth 100000 in
theorem mfX3_takeBack : MF mX3_takeBack 1 := ⟨⟨by decide, by decide, by decide +kernel⟩, wi_X3, tb5 205 rfl rfl, by decide⟩
set_option maxRecDepth 100000 in
theorem mVX3_takeBack : MFV mX3_takeBack 1 3 := ⟨mfX3_takeBack, tb5 203 rfl rfl, tb5 204 rfl rfl, by decide, rfl⟩
set_option maxRecDepth 100000 in
theorem mfX3_counts : MF mX3_counts 2 := ⟨⟨by decide, by decide, by decide +kernel⟩, wi_X3, tb5 224 rfl rfl, by decide⟩
set_option maxRecDepth 100000 in
theorem mVX3_counts : MFV mX3_counts 2 3 := ⟨mfX3_counts, tb5 223 rfl rfl, tb_in 33 (by decide +kernel) rfl, by decide, rfl⟩
set_option maxRecDepth 100000 in
theorem mfX3_findFitting : MF mX3_findFitting 2 := ⟨⟨by decide, by decide, by decide +kernel⟩, wi_X3, tb5 219 rfl rfl, by decide⟩
set_option maxRecDepth 100000 in
theorem mVX3_findFitting : MFV mX3_findFitting 2 3 := ⟨mfX3_findFitting, tb5 217 rfl rfl, tb5 218 rfl rfl, by decide, rfl⟩
set_option maxRecDepth 100000 in
theorem mfX3_keepFitting : MF mX3_keepFitting 2 := ⟨⟨by decide, by decide, by decide +kernel⟩, wi_X3, tb5 234 rfl rfl, by decide⟩
set_option maxRecDepth 100000 in
theorem mVX3_keepFitting : MFV mX3_keepFitting 2 3 := ⟨mfX3_keepFitting, tb5 233 rfl rfl, tb_in 35 (by decide +kernel) rfl, by decide, rfl⟩
set_option maxRecDepth 100000 in
theorem mfX3_countFitting : MF mX3_countFitting 0 := ⟨⟨by decide, by decide, by decide +kernel⟩, wi_X3, tb6 4 rfl rfl, by decide⟩
set_option maxRecDepth 100000 in
theorem mVX3_countFitting : MFV mX3_countFitting 0 3 := ⟨mfX3_countFitting, tb6 3 rfl rfl, tb_in 37 (by decide +kernel) rfl, by decide, rfl⟩
set_option maxRecDepth 100000 in
theorem mfX3_doorsShading : MF mX3_doorsShading 3 := ⟨⟨by decide, by decide, by decide +kernel⟩, wi_X3, tb5 238 rfl rfl, by decide⟩
set_option maxRecDepth 100000 in
theorem mVX3_doorsShading : MFV mX3_doorsShading 3 3 := ⟨mfX3_doorsShading, tb5 237 rfl rfl, tb_in 36 (by decide +kernel) rfl, by decide, rfl⟩
set_option maxRecDepth 100000 in
theorem mfX3_findLengths : MF mX3_findLengths 2 := ⟨⟨by decide, by decide, by decide +kernel⟩, wi_X3, tb5 228 rfl rfl, by decide⟩
set_option maxRecDepth 100000 in
theorem mVX3_findLengths : MFV mX3_findLengths 2 3 := ⟨mfX3_findLengths, tb5 227 rfl rfl, tb_in 34 (by decide +kernel) rfl, by decide, rfl⟩
set_option maxRecDepth 100000 in
theorem mfX3_fittingCells : MF mX3_fittingCells 0 := ⟨⟨by decide, by decide, by decide +kernel⟩, wi_X3, tb6 13 rfl rfl, by decide⟩
set_option maxRecDepth 100000 in
theorem mVX3_fittingCells : MFV mX3_fittingCells 0 3 := ⟨mfX3_fittingCells, tb6 11 rfl rfl, tb6 12 rfl rfl, by decide, rfl⟩
set_option maxRecDepth 100000 in
theorem mfX3_fittingHeights : MF mX3_fittingHeights 0 := ⟨⟨by decide, by decide, by decide +kernel⟩, wi_X3, tb6 21 rfl rfl, by decide⟩
set_option maxRecDepth 100000 in
theorem mVX3_fittingHeights : MFV mX3_fittingHeights 0 3 := ⟨mfX3_fittingHeights, tb6 19 rfl rfl, tb6 20 rfl rfl, by decide, rfl⟩
set_option maxRecDepth 100000 in
theorem mfX3_findQuestion : MF mX3_findQuestion 1 := ⟨⟨by decide, by decide, by decide +kernel⟩, wi_X3, tb6 29 rfl rfl, by decide⟩
set_option maxRecDepth 100000 in
theorem mVX3_findQuestion : MFV mX3_findQuestion 1 3 := ⟨mfX3_findQuestion, tb6 27 rfl rfl, tb6 28 rfl rfl, by decide, rfl⟩
set_option maxRecDepth 100000 in
theorem mfX3_countShading : MF mX3_countShading 2 := ⟨⟨by decide, by decide, by decide +kernel⟩, wi_X3, tb6 34 rfl rfl, by decide⟩
set_option maxRecDepth 100000 in
theorem mVX3_countShading : MFV mX3_countShading 2 3 := ⟨mfX3_countShading, tb6 33 rfl rfl, tb_in 38 (by decide +kernel) rfl, by decide, rfl⟩
set_option maxRecDepth 100000 in
theorem wi_X4 : Cond.initialized RX4 ∈ TB := tb1 13 rfl rfl
set_option maxRecDepth 100000 in
theorem mfX4_init : MF mX4_init 0 := ⟨⟨by decide, by decide, by decide +kernel⟩, wi_X4, tb2 114 rfl rfl, by decide⟩
set_option maxRecDepth 100000 in
theorem mIX4_init : MFI mX4_init 0 := ⟨mfX4_init, tb2 113 rfl rfl, rfl, rfl⟩
set_option maxRecDepth 100000 in
theorem mfX4_begin : MF mX4_begin 1 := ⟨⟨by decide, by decide, by decide +kernel⟩, wi_X4, tb2 148 rfl rfl, by decide⟩
set_option maxRecDepth 100000 in
theorem mVX4_begin : MFV mX4_begin 1 4 := ⟨mfX4_begin, tb2 146 rfl rfl, tb2 147 rfl rfl, by decide, rfl⟩
set_option maxRecDepth 100000 in
theorem mfX4_hourOfDay : MF mX4_hourOfDay 0 := ⟨⟨by decide, by decide, by decide +kernel⟩, wi_X4, tb4 114 rfl rfl, by decide⟩
set_option maxRecDepth 100000 in
theorem mVX4_hourOfDay : MFV mX4_hourOfDay 0 4 := ⟨mfX4_hourOfDay, tb4 112 rfl rfl, tb4 113 rfl rfl, by decide, rfl⟩
set_option maxRecDepth 100000 in
theorem mfX4_packed : MF mX4_packed 0 := ⟨⟨by decide, by decide, by decide +kernel⟩, wi_X4, tb2 170 rfl rfl, by decide⟩
set_option maxRecDepth 100000 in
theorem mVX4_packed : MFV mX4_packed 0 4 := ⟨mfX4_packed, tb2 168 rfl rfl, tb2 169 rfl rfl, by decide, rfl⟩
set_option maxRecDepth 100000 in
theorem mfX4_unpack : MF mX4_unpack 1 := ⟨⟨by decide, by decide, by decide +kernel⟩, wi_X4, tb5 13 rfl rfl, by decide⟩
set_option maxRecDepth 100000 in
theorem mVX4_unpack : MFV mX4_unpack 1 4 := ⟨mfX4_unpack, tb5 11 rfl rfl, tb5 12 rfl rfl, by decide, rfl⟩
set_option maxRecDepth 100000 in
theorem wi_X5 : Cond.initialized RX5 ∈ TB := tb1 2 rfl rfl
set_option maxRecDepth 100000 in
theorem mfX5_init : MF mX5_init 0 := ⟨⟨by decide, by decide, by decide +kernel⟩, wi_X5, tb1 37 rfl rfl, by decide⟩
set_option maxRecDepth 100000 in
theorem mIX5_init : MFI mX5_init 0 := ⟨mfX5_init, tb1 36 rfl rfl, rfl, rfl⟩
set_option maxRecDepth 100000 in
theorem mfX5_clear : MF mX5_clear 0 := ⟨⟨by decide, by decide, by decide +kernel⟩, wi_X5, tb1 107 rfl rfl, by decide⟩
set_option maxRecDepth 100000 in
theorem mVX5_clear : MFV mX5_clear 0 5 := ⟨mfX5_clear, tb1 105 rfl rfl, tb1 106 rfl rfl, by decide, rfl⟩
set_option maxRecDepth 100000 in
theorem mfX5_setSize : MF mX5_setSize 2 := ⟨⟨by decide, by decide, by decide +kernel⟩, wi_X5, tb1 111 rfl rfl, by decide⟩
set_option maxRecDepth 100000 in
theorem mVX5_setSize : MFV mX5_setSize 2 5 := ⟨mfX5_setSize, tb1 109 rfl rfl, tb1 110 rfl rfl, by decide, rfl⟩
set_option maxRecDepth 100000 in
theorem mfX5_settle : MF mX5_settle 0 := ⟨⟨by decide, by decide, by decide +kernel⟩, wi_X5, tb1 119 rfl rfl, by decide⟩
set_option maxRecDepth 100000 in
theorem mVX5_settle : MFV mX5_settle 0 5 := ⟨mfX5_settle, tb1 117 rfl rfl, tb1 118 rfl rfl, by decide, rfl⟩
set_option maxRecDepth 100000 in
theorem mfX5_canStand : MF mX5_canStand 1 := ⟨⟨by decide, by decide, by decide +kernel⟩, wi_X5, tb4 196 rfl rfl, by decide⟩
set_option maxRecDepth 100000 in
theorem mVX5_canStand : MFV mX5_canStand 1 5 := ⟨mfX5_canStand, tb4 194 rfl rfl, tb4 195 rfl rfl, by decide, rfl⟩
set_option maxRecDepth 100000 in
theorem mfX5_rowBits : MF mX5_rowBits 2 := ⟨⟨by decide, by decide, by decide +kernel⟩, wi_X5, tb1 128 rfl rfl, by decide⟩
set_option maxRecDepth 100000 in
theorem mVX5_rowBits : MFV mX5_rowBits 2 5 := ⟨mfX5_rowBits, tb1 126 rfl rfl, tb1 127 rfl rfl, by decide, rfl⟩
set_option maxRecDepth 100000 in
theorem mfX5_columnBits : MF mX5_columnBits 2 := ⟨⟨by decide, by decide, by decide +kernel⟩, wi_X5, tb1 138 rfl rfl, by decide⟩
set_option maxRecDepth 100000 in
theorem mVX5_columnBits : MFV mX5_columnBits 2 5 := ⟨mfX5_columnBits, tb1 137 rfl rfl, tb_in 1 (by decide +kernel) rfl, by decide, rfl⟩
set_option maxRecDepth 100000 in
theorem mfX5_castBy : MF mX5_castBy 3 := ⟨⟨by decide, by decide, by decide +kernel⟩, wi_X5, tb1 124 rfl rfl, by decide⟩
set_option maxRecDepth 100000 in
theorem mVX5_castBy : MFV mX5_castBy 3 5 := ⟨mfX5_castBy, tb1 123 rfl rfl, tb_in 0 (by decide +kernel) rfl, by decide, rfl⟩
set_option maxRecDepth 100000 in
theorem mfX5_shadowBy : MF mX5_shadowBy 3 := ⟨⟨by decide, by decide, by decide +kernel⟩, wi_X5, tb4 179 rfl rfl, by decide⟩
set_option maxRecDepth 100000 in
theorem mVX5_shadowBy : MFV mX5_shadowBy 3 5 := ⟨mfX5_shadowBy, tb4 177 rfl rfl, tb4 178 rfl rfl, by decide, rfl⟩
set_option maxRecDepth 100000 in
theorem mfX5_spread : MF mX5_spread 1 := ⟨⟨by decide, by decide, by decide +kernel⟩, wi_X5, tb4 204 rfl rfl, by decide⟩
set_option maxRecDepth 100000 in
theorem mVX5_spread : MFV mX5_spread 1 5 := ⟨mfX5_spread, tb4 202 rfl rfl, tb4 203 rfl rfl, by decide, rfl⟩
set_option maxRecDepth 100000 in
theorem wi_X6 : Cond.initialized RX6 ∈ TB := tb1 6 rfl rfl
set_option maxRecDepth 100000 in
theorem mfX6_init : MF mX6_init 2 := ⟨⟨by decide, by decide, by decide +kernel⟩, wi_X6, tb2 62 rfl rfl, by decide⟩
set_option maxRecDepth 100000 in
theorem mIX6_init : MFI mX6_init 2 := ⟨mfX6_init, tb2 61 rfl rfl, rfl, rfl⟩
set_option maxRecDepth 100000 in
theorem mfX6_readInto : MF mX6_readInto 2 := ⟨⟨by decide, by decide, by decide +kernel⟩, wi_X6, tb3 119 rfl rfl, by decide⟩
set_option maxRecDepth 100000 in
theorem mVX6_readInto : MFV mX6_readInto 2 6 := ⟨mfX6_readInto, tb3 117 rfl rfl, tb3 118 rfl rfl, by decide, rfl⟩
set_option maxRecDepth 100000 in
theorem mfX6_mayBegin : MF mX6_mayBegin 2 := ⟨⟨by decide, by decide, by decide +kernel⟩, wi_X6, tb3 199 rfl rfl, by decide⟩
set_option maxRecDepth 100000 in
theorem mVX6_mayBegin : MFV mX6_mayBegin 2 6 := ⟨mfX6_mayBegin, tb3 198 rfl rfl, tb_in 4 (by decide +kernel) rfl, by decide, rfl⟩
set_option maxRecDepth 100000 in
theorem mfX6_readSize : MF mX6_readSize 0 := ⟨⟨by decide, by decide, by decide +kernel⟩, wi_X6, tb3 212 rfl rfl, by decide⟩
set_option maxRecDepth 100000 in
theorem mVX6_readSize : MFV mX6_readSize 0 6 := ⟨mfX6_readSize, tb3 211 rfl rfl, tb_in 6 (by decide +kernel) rfl, by decide, rfl⟩
set_option maxRecDepth 100000 in
theorem mfX6_readWalls : MF mX6_readWalls 0 := ⟨⟨by decide, by decide, by decide +kernel⟩, wi_X6, tb3 225 rfl rfl, by decide⟩
set_option maxRecDepth 100000 in
theorem mVX6_readWalls : MFV mX6_readWalls 0 6 := ⟨mfX6_readWalls, tb3 224 rfl rfl, tb_in 9 (by decide +kernel) rfl, by decide, rfl⟩
set_option maxRecDepth 100000 in
theorem mfX6_readDoor : MF mX6_readDoor 0 := ⟨⟨by decide, by decide, by decide +kernel⟩, wi_X6, tb4 7 rfl rfl, by decide⟩
set_option maxRecDepth 100000 in
theorem mVX6_readDoor : MFV mX6_readDoor 0 6 := ⟨mfX6_readDoor, tb4 6 rfl rfl, tb_in 12 (by decide +kernel) rfl, by decide, rfl⟩
set_option maxRecDepth 100000 in
theorem mfX6_readLamp : MF mX6_readLamp 0 := ⟨⟨by decide, by decide, by decide +kernel⟩, wi_X6, tb4 28 rfl rfl, by decide⟩
set_option maxRecDepth 100000 in
theorem mVX6_readLamp : MFV mX6_readLamp 0 6 := ⟨mfX6_readLamp, tb4 27 rfl rfl, tb_in 15 (by decide +kernel) rfl, by decide, rfl⟩
set_option maxRecDepth 100000 in
theorem mfX6_readPerson : MF mX6_readPerson 0 := ⟨⟨by decide, by decide, by decide +kernel⟩, wi_X6, tb4 32 rfl rfl, by decide⟩
set_option maxRecDepth 100000 in
theorem mVX6_readPerson : MFV mX6_readPerson 0 6 := ⟨mfX6_readPerson, tb4 31 rfl rfl, tb_in 16 (by decide +kernel) rfl, by decide, rfl⟩
set_option maxRecDepth 100000 in
theorem mfX6_readShade : MF mX6_readShade 0 := ⟨⟨by decide, by decide, by decide +kernel⟩, wi_X6, tb4 36 rfl rfl, by decide⟩
set_option maxRecDepth 100000 in
theorem mVX6_readShade : MFV mX6_readShade 0 6 := ⟨mfX6_readShade, tb4 35 rfl rfl, tb_in 17 (by decide +kernel) rfl, by decide, rfl⟩
set_option maxRecDepth 100000 in
theorem mfX6_readCloud : MF mX6_readCloud 0 := ⟨⟨by decide, by decide, by decide +kernel⟩, wi_X6, tb4 85 rfl rfl, by decide⟩
set_option maxRecDepth 100000 in
theorem mVX6_readCloud : MFV mX6_readCloud 0 6 := ⟨mfX6_readCloud, tb4 84 rfl rfl, tb_in 25 (by decide +kernel) rfl, by decide, rfl⟩
set_option maxRecDepth 100000 in
theorem mfX6_takeHours : MF mX6_takeHours 1 := ⟨⟨by decide, by decide, by decide +kernel⟩, wi_X6, tb4 19 rfl rfl, by decide⟩
set_option maxRecDepth 100000 in
theorem mVX6_takeHours : MFV mX6_takeHours 1 6 := ⟨mfX6_takeHours, tb4 18 rfl rfl, tb_in 14 (by decide +kernel) rfl, by decide, rfl⟩
set_option maxRecDepth 100000 in
theorem mfX6_takeName : MF mX6_takeName 1 := ⟨⟨by decide, by decide, by decide +kernel⟩, wi_X6, tb4 11 rfl rfl, by decide⟩
set_option maxRecDepth 100000 in
theorem mVX6_takeName : MFV mX6_takeName 1 6 := ⟨mfX6_takeName, tb4 10 rfl rfl, tb_in 13 (by decide +kernel) rfl, by decide, rfl⟩
set_option maxRecDepth 100000 in
theorem mfX6_takeCell : MF mX6_takeCell 1 := ⟨⟨by decide, by decide, by decide +kernel⟩, wi_X6, tb3 235 rfl rfl, by decide⟩
set_option maxRecDepth 100000 in
theorem mVX6_takeCell : MFV mX6_takeCell 1 6 := ⟨mfX6_takeCell, tb3 234 rfl rfl, tb_in 10 (by decide +kernel) rfl, by decide, rfl⟩
set_option maxRecDepth 100000 in
theorem mfX6_isTaken : MF mX6_isTaken 1 := ⟨⟨by decide, by decide, by decide +kernel⟩, wi_X6, tb3 239 rfl rfl, by decide⟩
set_option maxRecDepth 100000 in
theorem mVX6_isTaken : MFV mX6_isTaken 1 6 := ⟨mfX6_isTaken, tb3 238 rfl rfl, tb_in 11 (by decide +kernel) rfl, by decide, rfl⟩
set_option maxRecDepth 100000 in
theorem mfX6_takeNumber : MF mX6_takeNumber 2 := ⟨⟨by decide, by decide, by decide +kernel⟩, wi_X6, tb3 216 rfl rfl, by decide⟩
set_option maxRecDepth 100000 in
theorem mVX6_takeNumber : MFV mX6_takeNumber 2 6 := ⟨mfX6_takeNumber, tb3 215 rfl rfl, tb_in 7 (by decide +kernel) rfl, by decide, rfl⟩
set_option maxRecDepth 100000 in
theorem mfX6_take : MF mX6_take 1 := ⟨⟨by decide, by decide, by decide +kernel⟩, wi_X6, tb3 220 rfl rfl, by decide⟩
set_option maxRecDepth 100000 in
theorem mVX6_take : MFV mX6_take 1 6 := ⟨mfX6_take, tb3 219 rfl rfl, tb_in 8 (by decide +kernel) rfl, by decide, rfl⟩
set_option maxRecDepth 100000 in
theorem mfX6_refuse : MF mX6_refuse 1 := ⟨⟨by decide, by decide, by decide +kernel⟩, wi_X6, tb3 207 rfl rfl, by decide⟩
set_option maxRecDepth 100000 in
theorem mVX6_refuse : MFV mX6_refuse 1 6 := ⟨mfX6_refuse, tb3 206 rfl rfl, tb_in 5 (by decide +kernel) rfl, by decide, rfl⟩
set_option maxRecDepth 100000 in
theorem wi_X7 : Cond.initialized RX7 ∈ TB := tb1 15 rfl rfl
set_option maxRecDepth 100000 in
theorem mfX7_init : MF mX7_init 1 := ⟨⟨by decide, by decide, by decide +kernel⟩, wi_X7, tb2 179 rfl rfl, by decide⟩
set_option maxRecDepth 100000 in
theorem mIX7_init : MFI mX7_init 1 := ⟨mfX7_init, tb2 178 rfl rfl, rfl, rfl⟩
set_option maxRecDepth 100000 in
theorem mfX7_forget : MF mX7_forget 1 := ⟨⟨by decide, by decide, by decide +kernel⟩, wi_X7, tb4 90 rfl rfl, by decide⟩
set_option maxRecDepth 100000 in
theorem mVX7_forget : MFV mX7_forget 1 7 := ⟨mfX7_forget, tb4 88 rfl rfl, tb4 89 rfl rfl, by decide, rfl⟩
set_option maxRecDepth 100000 in
theorem mfX7_aimAt : MF mX7_aimAt 1 := ⟨⟨by decide, by decide, by decide +kernel⟩, wi_X7, tb4 152 rfl rfl, by decide⟩
set_option maxRecDepth 100000 in
theorem mVX7_aimAt : MFV mX7_aimAt 1 7 := ⟨mfX7_aimAt, tb4 150 rfl rfl, tb4 151 rfl rfl, by decide, rfl⟩
set_option maxRecDepth 100000 in
theorem mfX7_startOn : MF mX7_startOn 1 := ⟨⟨by decide, by decide, by decide +kernel⟩, wi_X7, tb5 185 rfl rfl, by decide⟩
set_option maxRecDepth 100000 in
theorem mVX7_startOn : MFV mX7_startOn 1 7 := ⟨mfX7_startOn, tb5 183 rfl rfl, tb5 184 rfl rfl, by decide, rfl⟩
set_option maxRecDepth 100000 in
theorem mfX7_burn : MF mX7_burn 1 := ⟨⟨by decide, by decide, by decide +kernel⟩, wi_X7, tb5 137 rfl rfl, by decide⟩
set_option maxRecDepth 100000 in
theorem mVX7_burn : MFV mX7_burn 1 7 := ⟨mfX7_burn, tb5 135 rfl rfl, tb5 136 rfl rfl, by decide, rfl⟩
set_option maxRecDepth 100000 in
theorem mfX7_isDark : MF mX7_isDark 0 := ⟨⟨by decide, by decide, by decide +kernel⟩, wi_X7, tb5 149 rfl rfl, by decide⟩
set_option maxRecDepth 100000 in
theorem mVX7_isDark : MFV mX7_isDark 0 7 := ⟨mfX7_isDark, tb5 147 rfl rfl, tb5 148 rfl rfl, by decide, rfl⟩
set_option maxRecDepth 100000 in
theorem mfX7_darken : MF mX7_darken 1 := ⟨⟨by decide, by decide, by decide +kernel⟩, wi_X7, tb5 156 rfl rfl, by decide⟩
set_option maxRecDepth 100000 in
theorem mVX7_darken : MFV mX7_darken 1 7 := ⟨mfX7_darken, tb5 154 rfl rfl, tb5 155 rfl rfl, by decide, rfl⟩
set_option maxRecDepth 100000 in
theorem mfX7_shadowOf : MF mX7_shadowOf 2 := ⟨⟨by decide, by decide, by decide +kernel⟩, wi_X7, tb4 156 rfl rfl, by decide⟩
set_option maxRecDepth 100000 in
theorem mVX7_shadowOf : MFV mX7_shadowOf 2 7 := ⟨mfX7_shadowOf, tb4 154 rfl rfl, tb4 155 rfl rfl, by decide, rfl⟩
set_option maxRecDepth 100000 in
theorem mfX7_openIn : MF mX7_openIn 1 := ⟨⟨by decide, by decide, by decide +kernel⟩, wi_X7, tb4 188 rfl rfl, by decide⟩
set_option maxRecDepth 100000 in
theorem mVX7_openIn : MFV mX7_openIn 1 7 := ⟨mfX7_openIn, tb4 186 rfl rfl, tb4 187 rfl rfl, by decide, rfl⟩
set_option maxRecDepth 100000 in
theorem mfX7_prepare : MF mX7_prepare 1 := ⟨⟨by decide, by decide, by decide +kernel⟩, wi_X7, tb4 160 rfl rfl, by decide⟩
set_option maxRecDepth 100000 in
theorem mVX7_prepare : MFV mX7_prepare 1 7 := ⟨mfX7_prepare, tb4 159 rfl rfl, tb_in 26 (by decide +kernel) rfl, by decide, rfl⟩
set_option maxRecDepth 100000 in
theorem mfX7_cut : MF mX7_cut 1 := ⟨⟨by decide, by decide, by decide +kernel⟩, wi_X7, tb4 173 rfl rfl, by decide⟩
set_option maxRecDepth 100000 in
theorem mSX7_cut : MFS mX7_cut 1 := ⟨mfX7_cut, tb4 172 rfl rfl⟩
set_option maxRecDepth 100000 in
theorem mfX7_litIn : MF mX7_litIn 1 := ⟨⟨by decide, by decide, by decide +kernel⟩, wi_X7, tb4 164 rfl rfl, by decide⟩
set_option maxRecDepth 100000 in
theorem mVX7_litIn : MFV mX7_litIn 1 7 := ⟨mfX7_litIn, tb4 163 rfl rfl, tb_in 27 (by decide +kernel) rfl, by decide, rfl⟩
set_option maxRecDepth 100000 in
theorem mfX7_stepFrom : MF mX7_stepFrom 3 := ⟨⟨by decide, by decide, by decide +kernel⟩, wi_X7, tb4 200 rfl rfl, by decide⟩
set_option maxRecDepth 100000 in
theorem mVX7_stepFrom : MFV mX7_stepFrom 3 7 := ⟨mfX7_stepFrom, tb4 198 rfl rfl, tb4 199 rfl rfl, by decide, rfl⟩
set_option maxRecDepth 100000 in
theorem mfX7_crossed : MF mX7_crossed 3 := ⟨⟨by decide, by decide, by decide +kernel⟩, wi_X7, tb4 209 rfl rfl, by decide⟩
set_option maxRecDepth 100000 in
theorem mVX7_crossed : MFV mX7_crossed 3 7 := ⟨mfX7_crossed, tb4 208 rfl rfl, tb_in 28 (by decide +kernel) rfl, by decide, rfl⟩
set_option maxRecDepth 100000 in
theorem wi_X8 : Cond.initialized RX8 ∈ TB := tb1 3 rfl rfl
set_option maxRecDepth 100000 in
theorem mfX8_init : MF mX8_init 1 := ⟨⟨by decide, by decide, by decide +kernel⟩, wi_X8, tb1 43 rfl rfl, by decide⟩
set_option maxRecDepth 100000 in
theorem mIX8_init : MFI mX8_init 1 := ⟨mfX8_init, tb1 42 rfl rfl, rfl, rfl⟩
set_option maxRecDepth 100000 in
theorem mfX8_has : MF mX8_has 1 := ⟨⟨by decide, by decide, by decide +kernel⟩, wi_X8, tb4 110 rfl rfl, by decide⟩
set_option maxRecDepth 100000 in
theorem mVX8_has : MFV mX8_has 1 8 := ⟨mfX8_has, tb4 108 rfl rfl, tb4 109 rfl rfl, by decide, rfl⟩
set_option maxRecDepth 100000 in
theorem mfX8_isFull : MF mX8_isFull 0 := ⟨⟨by decide, by decide, by decide +kernel⟩, wi_X8, tb3 203 rfl rfl, by decide⟩
set_option maxRecDepth 100000 in
theorem mVX8_isFull : MFV mX8_isFull 0 8 := ⟨mfX8_isFull, tb3 201 rfl rfl, tb3 202 rfl rfl, by decide, rfl⟩
set_option maxRecDepth 100000 in
theorem mfX8_isNamed : MF mX8_isNamed 1 := ⟨⟨by decide, by decide, by decide +kernel⟩, wi_X8, tb4 15 rfl rfl, by decide⟩
set_option maxRecDepth 100000 in
theorem mVX8_isNamed : MFV mX8_isNamed 1 8 := ⟨mfX8_isNamed, tb4 13 rfl rfl, tb4 14 rfl rfl, by decide, rfl⟩
set_option maxRecDepth 100000 in
theorem mfX8_standAt : MF mX8_standAt 1 := ⟨⟨by decide, by decide, by decide +kernel⟩, wi_X8, tb4 3 rfl rfl, by decide⟩
set_option maxRecDepth 100000 in
theorem mVX8_standAt : MFV mX8_standAt 1 8 := ⟨mfX8_standAt, tb4 1 rfl rfl, tb4 2 rfl rfl, by decide, rfl⟩
set_option maxRecDepth 100000 in
theorem mfX8_isInHours : MF mX8_isInHours 2 := ⟨⟨by decide, by decide, by decide +kernel⟩, wi_X8, tb4 118 rfl rfl, by decide⟩
set_option maxRecDepth 100000 in
theorem mVX8_isInHours : MFV mX8_isInHours 2 8 := ⟨mfX8_isInHours, tb4 116 rfl rfl, tb4 117 rfl rfl, by decide, rfl⟩
set_option maxRecDepth 100000 in
theorem mfX8_add : MF mX8_add 5 := ⟨⟨by decide, by decide, by decide +kernel⟩, wi_X8, tb4 23 rfl rfl, by decide⟩
set_option maxRecDepth 100000 in
theorem mVX8_add : MFV mX8_add 5 8 := ⟨mfX8_add, tb4 21 rfl rfl, tb4 22 rfl rfl, by decide, rfl⟩
set_option maxRecDepth 100000 in
theorem wi_X9 : Cond.initialized RX9 ∈ TB := tb1 7 rfl rfl
set_option maxRecDepth 100000 in
theorem mfX9_init : MF mX9_init 1 := ⟨⟨by decide, by decide, by decide +kernel⟩, wi_X9, tb1 214 rfl rfl, by decide⟩
set_option maxRecDepth 100000 in
theorem mIX9_init : MFI mX9_init 1 := ⟨mfX9_init, tb1 213 rfl rfl, rfl, rfl⟩
set_option maxRecDepth 100000 in
theorem mfX9_begin : MF mX9_begin 1 := ⟨⟨by decide, by decide, by decide +kernel⟩, wi_X9, tb3 124 rfl rfl, by decide⟩
set_option maxRecDepth 100000 in
theorem mVX9_begin : MFV mX9_begin 1 9 := ⟨mfX9_begin, tb3 122 rfl rfl, tb3 123 rfl rfl, by decide, rfl⟩
set_option maxRecDepth 100000 in
theorem mfX9_advance : MF mX9_advance 0 := ⟨⟨by decide, by decide, by decide +kernel⟩, wi_X9, tb3 129 rfl rfl, by decide⟩
set_option maxRecDepth 100000 in
theorem mVX9_advance : MFV mX9_advance 0 9 := ⟨mfX9_advance, tb3 127 rfl rfl, tb3 128 rfl rfl, by decide, rfl⟩
set_option maxRecDepth 100000 in
theorem mfX9_kindOfWord : MF mX9_kindOfWord 0 := ⟨⟨by decide, by decide, by decide +kernel⟩, wi_X9, tb3 136 rfl rfl, by decide⟩
set_option maxRecDepth 100000 in
theorem mVX9_kindOfWord : MFV mX9_kindOfWord 0 9 := ⟨mfX9_kindOfWord, tb3 135 rfl rfl, tb_in 3 (by decide +kernel) rfl, by decide, rfl⟩
set_option maxRecDepth 100000 in
theorem mfX9_withLetter : MF mX9_withLetter 2 := ⟨⟨by decide, by decide, by decide +kernel⟩, wi_X9, tb2 27 rfl rfl, by decide⟩
set_option maxRecDepth 100000 in
theorem mSX9_withLetter : MFS mX9_withLetter 2 := ⟨mfX9_withLetter, tb2 26 rfl rfl⟩
set_option maxRecDepth 100000 in
theorem mfX9_isLetter : MF mX9_isLetter 1 := ⟨⟨by decide, by decide, by decide +kernel⟩, wi_X9, tb3 132 rfl rfl, by decide⟩
set_option maxRecDepth 100000 in
theorem mSX9_isLetter : MFS mX9_isLetter 1 := ⟨mfX9_isLetter, tb3 131 rfl rfl⟩
set_option maxRecDepth 100000 in
theorem mfX9_isDigit : MF mX9_isDigit 1 := ⟨⟨by decide, by decide, by decide +kernel⟩, wi_X9, tb3 139 rfl rfl, by decide⟩
set_option maxRecDepth 100000 in
theorem mSX9_isDigit : MFS mX9_isDigit 1 := ⟨mfX9_isDigit, tb3 138 rfl rfl⟩
set_option maxRecDepth 100000 in
theorem wi_X10 : Cond.initialized RX10 ∈ TB := tb1 16 rfl rfl
set_option maxRecDepth 100000 in
theorem mfX10_init : MF mX10_init 1 := ⟨⟨by decide, by decide, by decide +kernel⟩, wi_X10, tb2 217 rfl rfl, by decide⟩
set_option maxRecDepth 100000 in
theorem mIX10_init : MFI mX10_init 1 := ⟨mfX10_init, tb2 216 rfl rfl, rfl, rfl⟩
set_option maxRecDepth 100000 in
theorem mfX10_forget : MF mX10_forget 0 := ⟨⟨by decide, by decide, by decide +kernel⟩, wi_X10, tb4 94 rfl rfl, by decide⟩
set_option maxRecDepth 100000 in
theorem mVX10_forget : MFV mX10_forget 0 10 := ⟨mfX10_forget, tb4 92 rfl rfl, tb4 93 rfl rfl, by decide, rfl⟩
set_option maxRecDepth 100000 in
theorem mfX10_layWay : MF mX10_layWay 2 := ⟨⟨by decide, by decide, by decide +kernel⟩, wi_X10, tb5 32 rfl rfl, by decide⟩
set_option maxRecDepth 100000 in
theorem mVX10_layWay : MFV mX10_layWay 2 10 := ⟨mfX10_layWay, tb5 30 rfl rfl, tb5 31 rfl rfl, by decide, rfl⟩
set_option maxRecDepth 100000 in
theorem mfX10_goOn : MF mX10_goOn 2 := ⟨⟨by decide, by decide, by decide +kernel⟩, wi_X10, tb5 48 rfl rfl, by decide⟩
set_option maxRecDepth 100000 in
theorem mVX10_goOn : MFV mX10_goOn 2 10 := ⟨mfX10_goOn, tb5 46 rfl rfl, tb5 47 rfl rfl, by decide, rfl⟩
set_option maxRecDepth 100000 in
theorem mfX10_comeFrom : MF mX10_comeFrom 2 := ⟨⟨by decide, by decide, by decide +kernel⟩, wi_X10, tb5 67 rfl rfl, by decide⟩
set_option maxRecDepth 100000 in
theorem mVX10_comeFrom : MFV mX10_comeFrom 2 10 := ⟨mfX10_comeFrom, tb5 65 rfl rfl, tb5 66 rfl rfl, by decide, rfl⟩
set_option maxRecDepth 100000 in
theorem mfX10_bringTogether : MF mX10_bringTogether 2 := ⟨⟨by decide, by decide, by decide +kernel⟩, wi_X10, tb5 59 rfl rfl, by decide⟩
set_option maxRecDepth 100000 in
theorem mVX10_bringTogether : MFV mX10_bringTogether 2 10 := ⟨mfX10_bringTogether, tb5 57 rfl rfl, tb5 58 rfl rfl, by decide, rfl⟩
set_option maxRecDepth 100000 in
theorem mfX10_joinedWith : MF mX10_joinedWith 2 := ⟨⟨by decide, by decide, by decide +kernel⟩, wi_X10, tb5 93 rfl rfl, by decide⟩
set_option maxRecDepth 100000 in
theorem mVX10_joinedWith : MFV mX10_joinedWith 2 10 := ⟨mfX10_joinedWith, tb5 91 rfl rfl, tb5 92 rfl rfl, by decide, rfl⟩
set_option maxRecDepth 100000 in
theorem mfX10_countJoined : MF mX10_countJoined 1 := ⟨⟨by decide, by decide, by decide +kernel⟩, wi_X10, tb5 86 rfl rfl, by decide⟩
set_option maxRecDepth 100000 in
theorem mVX10_countJoined : MFV mX10_countJoined 1 10 := ⟨mfX10_countJoined, tb5 84 rfl rfl, tb5 85 rfl rfl, by decide, rfl⟩
set_option maxRecDepth 100000 in
theorem mfX10_fewestShut : MF mX10_fewestShut 3 := ⟨⟨by decide, by decide, by decide +kernel⟩, wi_X10, tb5 111 rfl rfl, by decide⟩
set_option maxRecDepth 100000 in
theorem mVX10_fewestShut : MFV mX10_fewestShut 3 10 := ⟨mfX10_fewestShut, tb5 109 rfl rfl, tb5 110 rfl rfl, by decide, rfl⟩
set_option maxRecDepth 100000 in
theorem mfX10_fewestLit : MF mX10_fewestLit 3 := ⟨⟨by decide, by decide, by decide +kernel⟩, wi_X10, tb5 133 rfl rfl, by decide⟩
set_option maxRecDepth 100000 in
theorem mVX10_fewestLit : MFV mX10_fewestLit 3 10 := ⟨mfX10_fewestLit, tb5 131 rfl rfl, tb5 132 rfl rfl, by decide, rfl⟩
set_option maxRecDepth 100000 in
theorem mfX10_canBe : MF mX10_canBe 4 := ⟨⟨by decide, by decide, by decide +kernel⟩, wi_X10, tb5 121 rfl rfl, by decide⟩
set_option maxRecDepth 100000 in
theorem mVX10_canBe : MFV mX10_canBe 4 10 := ⟨mfX10_canBe, tb5 120 rfl rfl, tb_in 30 (by decide +kernel) rfl, by decide, rfl⟩
set_option maxRecDepth 100000 in
theorem mfX10_countDates : MF mX10_countDates 4 := ⟨⟨by decide, by decide, by decide +kernel⟩, wi_X10, tb5 181 rfl rfl, by decide⟩
set_option maxRecDepth 100000 in
theorem mVX10_countDates : MFV mX10_countDates 4 10 := ⟨mfX10_countDates, tb5 179 rfl rfl, tb5 180 rfl rfl, by decide, rfl⟩
set_option maxRecDepth 100000 in
theorem mfX10_weighOdds : MF mX10_weighOdds 3 := ⟨⟨by decide, by decide, by decide +kernel⟩, wi_X10, tb5 145 rfl rfl, by decide⟩
set_option maxRecDepth 100000 in
theorem mVX10_weighOdds : MFV mX10_weighOdds 3 10 := ⟨mfX10_weighOdds, tb5 143 rfl rfl, tb5 144 rfl rfl, by decide, rfl⟩
set_option maxRecDepth 100000 in
theorem mfX10_addBest : MF mX10_addBest 2 := ⟨⟨by decide, by decide, by decide +kernel⟩, wi_X10, tb5 160 rfl rfl, by decide⟩
set_option maxRecDepth 100000 in
theorem mVX10_addBest : MFV mX10_addBest 2 10 := ⟨mfX10_addBest, tb5 159 rfl rfl, tb_in 31 (by decide +kernel) rfl, by decide, rfl⟩
set_option maxRecDepth 100000 in
theorem mfX10_bestOf : MF mX10_bestOf 1 := ⟨⟨by decide, by decide, by decide +kernel⟩, wi_X10, tb5 165 rfl rfl, by decide⟩
set_option maxRecDepth 100000 in
theorem mVX10_bestOf : MFV mX10_bestOf 1 10 := ⟨mfX10_bestOf, tb5 164 rfl rfl, tb_in 32 (by decide +kernel) rfl, by decide, rfl⟩
set_option maxRecDepth 100000 in
theorem mfX10_commonDivisor : MF mX10_commonDivisor 2 := ⟨⟨by decide, by decide, by decide +kernel⟩, wi_X10, tb5 173 rfl rfl, by decide⟩
set_option maxRecDepth 100000 in
theorem mSX10_commonDivisor : MFS mX10_commonDivisor 2 := ⟨mfX10_commonDivisor, tb5 172 rfl rfl⟩
set_option maxRecDepth 100000 in
theorem wi_X11 : Cond.initialized RX11 ∈ TB := tb1 1 rfl rfl
set_option maxRecDepth 100000 in
theorem mfX11_init : MF mX11_init 0 := ⟨⟨by decide, by decide, by decide +kernel⟩, wi_X11, tb1 29 rfl rfl, by decide⟩
set_option maxRecDepth 100000 in
theorem mIX11_init : MFI mX11_init 0 := ⟨mfX11_init, tb1 28 rfl rfl, rfl, rfl⟩
set_option maxRecDepth 100000 in
theorem mfX11_feed : MF mX11_feed 5 := ⟨⟨by decide, by decide, by decide +kernel⟩, wi_X11, tb3 103 rfl rfl, by decide⟩
set_option maxRecDepth 100000 in
theorem mVX11_feed : MFV mX11_feed 5 11 := ⟨mfX11_feed, tb3 101 rfl rfl, tb3 102 rfl rfl, by decide, rfl⟩
set_option maxRecDepth 100000 in
theorem mfX11_putOnTape : MF mX11_putOnTape 1 := ⟨⟨by decide, by decide, by decide +kernel⟩, wi_X11, tb3 107 rfl rfl, by decide⟩
set_option maxRecDepth 100000 in
theorem mVX11_putOnTape : MFV mX11_putOnTape 1 11 := ⟨mfX11_putOnTape, tb3 106 rfl rfl, tb_in 2 (by decide +kernel) rfl, by decide, rfl⟩
set_option maxRecDepth 100000 in
theorem mfX11_end : MF mX11_end 1 := ⟨⟨by decide, by decide, by decide +kernel⟩, wi_X11, tb3 111 rfl rfl, by decide⟩
set_option maxRecDepth 100000 in
theorem mVX11_end : MFV mX11_end 1 11 := ⟨mfX11_end, tb3 109 rfl rfl, tb3 110 rfl rfl, by decide, rfl⟩
set_option maxRecDepth 100000 in
theorem mfX11_quarter : MF mX11_quarter 0 := ⟨⟨by decide, by decide, by decide +kernel⟩, wi_X11, tb3 115 rfl rfl, by decide⟩
set_option maxRecDepth 100000 in
theorem mVX11_quarter : MFV mX11_quarter 0 11 := ⟨mfX11_quarter, tb3 113 rfl rfl, tb3 114 rfl rfl, by decide, rfl⟩
set_option maxRecDepth 100000 in
theorem mfX11_fault : MF mX11_fault 1 := ⟨⟨by decide, by decide, by decide +kernel⟩, wi_X11, tb4 102 rfl rfl, by decide⟩
set_option maxRecDepth 100000 in
theorem mVX11_fault : MFV mX11_fault 1 11 := ⟨mfX11_fault, tb4 100 rfl rfl, tb4 101 rfl rfl, by decide, rfl⟩
set_option maxRecDepth 100000 in
theorem mfX11_door : MF mX11_door 2 := ⟨⟨by decide, by decide, by decide +kernel⟩, wi_X11, tb4 106 rfl rfl, by decide⟩
set_option maxRecDepth 100000 in
theorem mVX11_door : MFV mX11_door 2 11 := ⟨mfX11_door, tb4 104 rfl rfl, tb4 105 rfl rfl, by decide, rfl⟩
set_option maxRecDepth 100000 in
theorem mfX11_lamp : MF mX11_lamp 2 := ⟨⟨by decide, by decide, by decide +kernel⟩, wi_X11, tb4 125 rfl rfl, by decide⟩
set_option maxRecDepth 100000 in
theorem mVX11_lamp : MFV mX11_lamp 2 11 := ⟨mfX11_lamp, tb4 123 rfl rfl, tb4 124 rfl rfl, by decide, rfl⟩
set_option maxRecDepth 100000 in
theorem mfX11_person : MF mX11_person 2 := ⟨⟨by decide, by decide, by decide +kernel⟩, wi_X11, tb4 129 rfl rfl, by decide⟩
set_option maxRecDepth 100000 in
theorem mVX11_person : MFV mX11_person 2 11 := ⟨mfX11_person, tb4 127 rfl rfl, tb4 128 rfl rfl, by decide, rfl⟩
set_option maxRecDepth 100000 in
theorem mfX11_shade : MF mX11_shade 2 := ⟨⟨by decide, by decide, by decide +kernel⟩, wi_X11, tb4 133 rfl rfl, by decide⟩
set_option maxRecDepth 100000 in
theorem mVX11_shade : MFV mX11_shade 2 11 := ⟨mfX11_shade, tb4 131 rfl rfl, tb4 132 rfl rfl, by decide, rfl⟩
set_option maxRecDepth 100000 in
theorem mfX11_shadow : MF mX11_shadow 2 := ⟨⟨by decide, by decide, by decide +kernel⟩, wi_X11, tb4 148 rfl rfl, by decide⟩
set_option maxRecDepth 100000 in
theorem mVX11_shadow : MFV mX11_shadow 2 11 := ⟨mfX11_shadow, tb4 146 rfl rfl, tb4 147 rfl rfl, by decide, rfl⟩
set_option maxRecDepth 100000 in
theorem mfX11_shades : MF mX11_shades 2 := ⟨⟨by decide, by decide, by decide +kernel⟩, wi_X11, tb4 184 rfl rfl, by decide⟩
set_option maxRecDepth 100000 in
theorem mVX11_shades : MFV mX11_shades 2 11 := ⟨mfX11_shades, tb4 182 rfl rfl, tb4 183 rfl rfl, by decide, rfl⟩
set_option maxRecDepth 100000 in
theorem mfX11_moves : MF mX11_moves 2 := ⟨⟨by decide, by decide, by decide +kernel⟩, wi_X11, tb4 192 rfl rfl, by decide⟩
set_option maxRecDepth 100000 in
theorem mVX11_moves : MFV mX11_moves 2 11 := ⟨mfX11_moves, tb4 190 rfl rfl, tb4 191 rfl rfl, by decide, rfl⟩
set_option maxRecDepth 100000 in
theorem mfX11_go : MF mX11_go 2 := ⟨⟨by decide, by decide, by decide +kernel⟩, wi_X11, tb4 213 rfl rfl, by decide⟩
set_option maxRecDepth 100000 in
theorem mVX11_go : MFV mX11_go 2 11 := ⟨mfX11_go, tb4 211 rfl rfl, tb4 212 rfl rfl, by decide, rfl⟩
set_option maxRecDepth 100000 in
theorem mfX11_hour : MF mX11_hour 0 := ⟨⟨by decide, by decide, by decide +kernel⟩, wi_X11, tb4 225 rfl rfl, by decide⟩
set_option maxRecDepth 100000 in
theorem mVX11_hour : MFV mX11_hour 0 11 := ⟨mfX11_hour, tb4 223 rfl rfl, tb4 224 rfl rfl, by decide, rfl⟩
set_option maxRecDepth 100000 in
theorem mfX11_shut : MF mX11_shut 1 := ⟨⟨by decide, by decide, by decide +kernel⟩, wi_X11, tb4 229 rfl rfl, by decide⟩
set_option maxRecDepth 100000 in
theorem mVX11_shut : MFV mX11_shut 1 11 := ⟨mfX11_shut, tb4 227 rfl rfl, tb4 228 rfl rfl, by decide, rfl⟩
set_option maxRecDepth 100000 in
theorem mfX11_out : MF mX11_out 1 := ⟨⟨by decide, by decide, by decide +kernel⟩, wi_X11, tb4 233 rfl rfl, by decide⟩
set_option maxRecDepth 100000 in
theorem mVX11_out : MFV mX11_out 1 11 := ⟨mfX11_out, tb4 231 rfl rfl, tb4 232 rfl rfl, by decide, rfl⟩
set_option maxRecDepth 100000 in
theorem mfX11_eclipse : MF mX11_eclipse 0 := ⟨⟨by decide, by decide, by decide +kernel⟩, wi_X11, tb4 237 rfl rfl, by decide⟩
set_option maxRecDepth 100000 in
theorem mVX11_eclipse : MFV mX11_eclipse 0 11 := ⟨mfX11_eclipse, tb4 235 rfl rfl, tb4 236 rfl rfl, by decide, rfl⟩
set_option maxRecDepth 100000 in
theorem mfX11_undo : MF mX11_undo 0 := ⟨⟨by decide, by decide, by decide +kernel⟩, wi_X11, tb5 1 rfl rfl, by decide⟩
set_option maxRecDepth 100000 in
theorem mVX11_undo : MFV mX11_undo 0 11 := ⟨mfX11_undo, tb4 239 rfl rfl, tb5 0 rfl rfl, by decide, rfl⟩
set_option maxRecDepth 100000 in
theorem mfX11_redo : MF mX11_redo 0 := ⟨⟨by decide, by decide, by decide +kernel⟩, wi_X11, tb5 20 rfl rfl, by decide⟩
set_option maxRecDepth 100000 in
theorem mVX11_redo : MFV mX11_redo 0 11 := ⟨mfX11_redo, tb5 18 rfl rfl, tb5 19 rfl rfl, by decide, rfl⟩
set_option maxRecDepth 100000 in
theorem mfX11_soonest : MF mX11_soonest 2 := ⟨⟨by decide, by decide, by decide +kernel⟩, wi_X11, tb5 28 rfl rfl, by decide⟩
set_option maxRecDepth 100000 in
theorem mVX11_soonest : MFV mX11_soonest 2 11 := ⟨mfX11_soonest, tb5 26 rfl rfl, tb5 27 rfl rfl, by decide, rfl⟩
set_option maxRecDepth 100000 in
theorem mfX11_reach : MF mX11_reach 2 := ⟨⟨by decide, by decide, by decide +kernel⟩, wi_X11, tb5 44 rfl rfl, by decide⟩
set_option maxRecDepth 100000 in
theorem mVX11_reach : MFV mX11_reach 2 11 := ⟨mfX11_reach, tb5 42 rfl rfl, tb5 43 rfl rfl, by decide, rfl⟩
set_option maxRecDepth 100000 in
theorem mfX11_meet : MF mX11_meet 3 := ⟨⟨by decide, by decide, by decide +kernel⟩, wi_X11, tb5 52 rfl rfl, by decide⟩
set_option maxRecDepth 100000 in
theorem mVX11_meet : MFV mX11_meet 3 11 := ⟨mfX11_meet, tb5 50 rfl rfl, tb5 51 rfl rfl, by decide, rfl⟩
set_option maxRecDepth 100000 in
theorem mfX11_barred : MF mX11_barred 2 := ⟨⟨by decide, by decide, by decide +kernel⟩, wi_X11, tb5 63 rfl rfl, by decide⟩
set_option maxRecDepth 100000 in
theorem mVX11_barred : MFV mX11_barred 2 11 := ⟨mfX11_barred, tb5 61 rfl rfl, tb5 62 rfl rfl, by decide, rfl⟩
set_option maxRecDepth 100000 in
theorem mfX11_longest : MF mX11_longest 2 := ⟨⟨by decide, by decide, by decide +kernel⟩, wi_X11, tb5 72 rfl rfl, by decide⟩
set_option maxRecDepth 100000 in
theorem mVX11_longest : MFV mX11_longest 2 11 := ⟨mfX11_longest, tb5 70 rfl rfl, tb5 71 rfl rfl, by decide, rfl⟩
set_option maxRecDepth 100000 in
theorem mfX11_cross : MF mX11_cross 3 := ⟨⟨by decide, by decide, by decide +kernel⟩, wi_X11, tb5 77 rfl rfl, by decide⟩
set_option maxRecDepth 100000 in
theorem mVX11_cross : MFV mX11_cross 3 11 := ⟨mfX11_cross, tb5 75 rfl rfl, tb5 76 rfl rfl, by decide, rfl⟩
set_option maxRecDepth 100000 in
theorem mfX11_rooms : MF mX11_rooms 1 := ⟨⟨by decide, by decide, by decide +kernel⟩, wi_X11, tb5 82 rfl rfl, by decide⟩
set_option maxRecDepth 100000 in
theorem mVX11_rooms : MFV mX11_rooms 1 11 := ⟨mfX11_rooms, tb5 80 rfl rfl, tb5 81 rfl rfl, by decide, rfl⟩
set_option maxRecDepth 100000 in
theorem mfX11_hears : MF mX11_hears 3 := ⟨⟨by decide, by decide, by decide +kernel⟩, wi_X11, tb5 98 rfl rfl, by decide⟩
set_option maxRecDepth 100000 in
theorem mVX11_hears : MFV mX11_hears 3 11 := ⟨mfX11_hears, tb5 96 rfl rfl, tb5 97 rfl rfl, by decide, rfl⟩
set_option maxRecDepth 100000 in
theorem mfX11_keep : MF mX11_keep 4 := ⟨⟨by decide, by decide, by decide +kernel⟩, wi_X11, tb5 103 rfl rfl, by decide⟩
set_option maxRecDepth 100000 in
theorem mVX11_keep : MFV mX11_keep 4 11 := ⟨mfX11_keep, tb5 101 rfl rfl, tb5 102 rfl rfl, by decide, rfl⟩
set_option maxRecDepth 100000 in
theorem mfX11_free : MF mX11_free 4 := ⟨⟨by decide, by decide, by decide +kernel⟩, wi_X11, tb5 129 rfl rfl, by decide⟩
set_option maxRecDepth 100000 in
theorem mVX11_free : MFV mX11_free 4 11 := ⟨mfX11_free, tb5 127 rfl rfl, tb5 128 rfl rfl, by decide, rfl⟩
set_option maxRecDepth 100000 in
theorem mfX11_surest : MF mX11_surest 4 := ⟨⟨by decide, by decide, by decide +kernel⟩, wi_X11, tb5 141 rfl rfl, by decide⟩
set_option maxRecDepth 100000 in
theorem mVX11_surest : MFV mX11_surest 4 11 := ⟨mfX11_surest, tb5 139 rfl rfl, tb5 140 rfl rfl, by decide, rfl⟩
set_option maxRecDepth 100000 in
theorem mfX11_dates : MF mX11_dates 4 := ⟨⟨by decide, by decide, by decide +kernel⟩, wi_X11, tb5 177 rfl rfl, by decide⟩
set_option maxRecDepth 100000 in
theorem mVX11_dates : MFV mX11_dates 4 11 := ⟨mfX11_dates, tb5 175 rfl rfl, tb5 176 rfl rfl, by decide, rfl⟩
set_option maxRecDepth 100000 in
theorem mfX11_lies : MF mX11_lies 1 := ⟨⟨by decide, by decide, by decide +kernel⟩, wi_X11, tb5 189 rfl rfl, by decide⟩
set_option maxRecDepth 100000 in
theorem mVX11_lies : MFV mX11_lies 1 11 := ⟨mfX11_lies, tb5 187 rfl rfl, tb5 188 rfl rfl, by decide, rfl⟩
set_option maxRecDepth 100000 in
theorem mfX11_look : MF mX11_look 3 := ⟨⟨by decide, by decide, by decide +kernel⟩, wi_X11, tb5 193 rfl rfl, by decide⟩
set_option maxRecDepth 100000 in
theorem mVX11_look : MFV mX11_look 3 11 := ⟨mfX11_look, tb5 191 rfl rfl, tb5 192 rfl rfl, by decide, rfl⟩
set_option maxRecDepth 100000 in
theorem mfX11_untell : MF mX11_untell 1 := ⟨⟨by decide, by decide, by decide +kernel⟩, wi_X11, tb5 201 rfl rfl, by decide⟩
set_option maxRecDepth 100000 in
theorem mVX11_untell : MFV mX11_untell 1 11 := ⟨mfX11_untell, tb5 199 rfl rfl, tb5 200 rfl rfl, by decide, rfl⟩
set_option maxRecDepth 100000 in
theorem mfX11_later : MF mX11_later 1 := ⟨⟨by decide, by decide, by decide +kernel⟩, wi_X11, tb5 210 rfl rfl, by decide⟩
set_option maxRecDepth 100000 in
theorem mVX11_later : MFV mX11_later 1 11 := ⟨mfX11_later, tb5 208 rfl rfl, tb5 209 rfl rfl, by decide, rfl⟩
set_option maxRecDepth 100000 in
theorem mfX11_fit : MF mX11_fit 1 := ⟨⟨by decide, by decide, by decide +kernel⟩, wi_X11, tb5 215 rfl rfl, by decide⟩
set_option maxRecDepth 100000 in
theorem mVX11_fit : MFV mX11_fit 1 11 := ⟨mfX11_fit, tb5 213 rfl rfl, tb5 214 rfl rfl, by decide, rfl⟩
set_option maxRecDepth 100000 in
theorem mfX11_places : MF mX11_places 1 := ⟨⟨by decide, by decide, by decide +kernel⟩, wi_X11, tb6 9 rfl rfl, by decide⟩
set_option maxRecDepth 100000 in
theorem mVX11_places : MFV mX11_places 1 11 := ⟨mfX11_places, tb6 7 rfl rfl, tb6 8 rfl rfl, by decide, rfl⟩
set_option maxRecDepth 100000 in
theorem mfX11_heights : MF mX11_heights 1 := ⟨⟨by decide, by decide, by decide +kernel⟩, wi_X11, tb6 17 rfl rfl, by decide⟩
set_option maxRecDepth 100000 in
theorem mVX11_heights : MFV mX11_heights 1 11 := ⟨mfX11_heights, tb6 15 rfl rfl, tb6 16 rfl rfl, by decide, rfl⟩
set_option maxRecDepth 100000 in
theorem mfX11_ask : MF mX11_ask 2 := ⟨⟨by decide, by decide, by decide +kernel⟩, wi_X11, tb6 25 rfl rfl, by decide⟩
set_option maxRecDepth 100000 in
theorem mVX11_ask : MFV mX11_ask 2 11 := ⟨mfX11_ask, tb6 23 rfl rfl, tb6 24 rfl rfl, by decide, rfl⟩
set_option maxRecDepth 100000 in
theorem mfX11_image : MF mX11_image 1 := ⟨⟨by decide, by decide, by decide +kernel⟩, wi_X11, tb6 39 rfl rfl, by decide⟩
set_option maxRecDepth 100000 in
theorem mVX11_image : MFV mX11_image 1 11 := ⟨mfX11_image, tb6 37 rfl rfl, tb6 38 rfl rfl, by decide, rfl⟩
set_option maxRecDepth 100000 in
theorem mfX11_back : MF mX11_back 1 := ⟨⟨by decide, by decide, by decide +kernel⟩, wi_X11, tb6 43 rfl rfl, by decide⟩
set_option maxRecDepth 100000 in
theorem mVX11_back : MFV mX11_back 1 11 := ⟨mfX11_back, tb6 41 rfl rfl, tb6 42 rfl rfl, by decide, rfl⟩
set_option maxRecDepth 100000 in
theorem mfX11_about : MF mX11_about 1 := ⟨⟨by decide, by decide, by decide +kernel⟩, wi_X11, tb6 47 rfl rfl, by decide⟩
set_option maxRecDepth 100000 in
theorem mVX11_about : MFV mX11_about 1 11 := ⟨mfX11_about, tb6 45 rfl rfl, tb6 46 rfl rfl, by decide, rfl⟩
set_option maxRecDepth 100000 in
theorem mfX11_isJourney : MF mX11_isJourney 4 := ⟨⟨by decide, by decide, by decide +kernel⟩, wi_X11, tb5 107 rfl rfl, by decide⟩
set_option maxRecDepth 100000 in
theorem mVX11_isJourney : MFV mX11_isJourney 4 11 := ⟨mfX11_isJourney, tb5 106 rfl rfl, tb_in 29 (by decide +kernel) rfl, by decide, rfl⟩
set_option maxRecDepth 100000 in
theorem mfX11_toldAs : MF mX11_toldAs 2 := ⟨⟨by decide, by decide, by decide +kernel⟩, wi_X11, tb5 124 rfl rfl, by decide⟩
set_option maxRecDepth 100000 in
theorem mSX11_toldAs : MFS mX11_toldAs 2 := ⟨mfX11_toldAs, tb5 123 rfl rfl⟩
set_option maxRecDepth 100000 in
theorem mfX11_isAhead : MF mX11_isAhead 1 := ⟨⟨by decide, by decide, by decide +kernel⟩, wi_X11, tb4 136 rfl rfl, by decide⟩
set_option maxRecDepth 100000 in
theorem mSX11_isAhead : MFS mX11_isAhead 1 := ⟨mfX11_isAhead, tb4 135 rfl rfl⟩
set_option maxRecDepth 100000 in
theorem mfX11_isChoice : MF mX11_isChoice 1 := ⟨⟨by decide, by decide, by decide +kernel⟩, wi_X11, tb5 55 rfl rfl, by decide⟩
set_option maxRecDepth 100000 in
theorem mSX11_isChoice : MFS mX11_isChoice 1 := ⟨mfX11_isChoice, tb5 54 rfl rfl⟩
set_option maxRecDepth 100000 in
theorem mfX11_isBit : MF mX11_isBit 2 := ⟨⟨by decide, by decide, by decide +kernel⟩, wi_X11, tb4 121 rfl rfl, by decide⟩
set_option maxRecDepth 100000 in
theorem mSX11_isBit : MFS mX11_isBit 2 := ⟨mfX11_isBit, tb4 120 rfl rfl⟩
set_option maxRecDepth 100000 in
theorem wi_X12 : Cond.initialized RX12 ∈ TB := tb1 18 rfl rfl
set_option maxRecDepth 100000 in
theorem mfX12_init : MF mX12_init 0 := ⟨⟨by decide, by decide, by decide +kernel⟩, wi_X12, tb6 52 rfl rfl, by decide⟩
set_option maxRecDepth 100000 in
theorem mIX12_init : MFI mX12_init 0 := ⟨mfX12_init, tb6 51 rfl rfl, rfl, rfl⟩
set_option maxRecDepth 100000 in
theorem mfX12_feed : MF mX12_feed 5 := ⟨⟨by decide, by decide, by decide +kernel⟩, wi_X12, tb7 95 rfl rfl, by decide⟩
set_option maxRecDepth 100000 in
theorem mVX12_feed : MFV mX12_feed 5 12 := ⟨mfX12_feed, tb7 93 rfl rfl, tb7 94 rfl rfl, by decide, rfl⟩
set_option maxRecDepth 100000 in
theorem mfX12_four : MF mX12_four 1 := ⟨⟨by decide, by decide, by decide +kernel⟩, wi_X12, tb7 99 rfl rfl, by decide⟩
set_option maxRecDepth 100000 in
theorem mVX12_four : MFV mX12_four 1 12 := ⟨mfX12_four, tb7 98 rfl rfl, tb_in 39 (by decide +kernel) rfl, by decide, rfl⟩
set_option maxRecDepth 100000 in
theorem mfX12_end : MF mX12_end 1 := ⟨⟨by decide, by decide, by decide +kernel⟩, wi_X12, tb7 103 rfl rfl, by decide⟩
set_option maxRecDepth 100000 in
theorem mVX12_end : MFV mX12_end 1 12 := ⟨mfX12_end, tb7 101 rfl rfl, tb7 102 rfl rfl, by decide, rfl⟩
set_option maxRecDepth 100000 in
theorem mfX12_here : MF mX12_here 1 := ⟨⟨by decide, by decide, by decide +kernel⟩, wi_X12, tb7 119 rfl rfl, by decide⟩
set_option maxRecDepth 100000 in
theorem mVX12_here : MFV mX12_here 1 12 := ⟨mfX12_here, tb7 118 rfl rfl, tb_in 42 (by decide +kernel) rfl, by decide, rfl⟩
set_option maxRecDepth 100000 in
theorem mfX12_isLetter : MF mX12_isLetter 1 := ⟨⟨by decide, by decide, by decide +kernel⟩, wi_X12, tb7 122 rfl rfl, by decide⟩
set_option maxRecDepth 100000 in
theorem mSX12_isLetter : MFS mX12_isLetter 1 := ⟨mfX12_isLetter, tb7 121 rfl rfl⟩
set_option maxRecDepth 100000 in
theorem mfX12_isDigit : MF mX12_isDigit 1 := ⟨⟨by decide, by decide, by decide +kernel⟩, wi_X12, tb7 125 rfl rfl, by decide⟩
set_option maxRecDepth 100000 in
theorem mSX12_isDigit : MFS mX12_isDigit 1 := ⟨mfX12_isDigit, tb7 124 rfl rfl⟩
set_option maxRecDepth 100000 in
theorem mfX12_isSign : MF mX12_isSign 1 := ⟨⟨by decide, by decide, by decide +kernel⟩, wi_X12, tb7 128 rfl rfl, by decide⟩
set_option maxRecDepth 100000 in
theorem mSX12_isSign : MFS mX12_isSign 1 := ⟨mfX12_isSign, tb7 127 rfl rfl⟩
set_option maxRecDepth 100000 in
theorem mfX12_token : MF mX12_token 0 := ⟨⟨by decide, by decide, by decide +kernel⟩, wi_X12, tb7 115 rfl rfl, by decide⟩
set_option maxRecDepth 100000 in
theorem mVX12_token : MFV mX12_token 0 12 := ⟨mfX12_token, tb7 114 rfl rfl, tb_in 41 (by decide +kernel) rfl, by decide, rfl⟩
set_option maxRecDepth 100000 in
theorem mfX12_wrongAt : MF mX12_wrongAt 2 := ⟨⟨by decide, by decide, by decide +kernel⟩, wi_X12, tb7 153 rfl rfl, by decide⟩
set_option maxRecDepth 100000 in
theorem mVX12_wrongAt : MFV mX12_wrongAt 2 12 := ⟨mfX12_wrongAt, tb7 152 rfl rfl, tb_in 48 (by decide +kernel) rfl, by decide, rfl⟩
set_option maxRecDepth 100000 in
theorem mfX12_wrong : MF mX12_wrong 1 := ⟨⟨by decide, by decide, by decide +kernel⟩, wi_X12, tb7 149 rfl rfl, by decide⟩
set_option maxRecDepth 100000 in
theorem mVX12_wrong : MFV mX12_wrong 1 12 := ⟨mfX12_wrong, tb7 148 rfl rfl, tb_in 47 (by decide +kernel) rfl, by decide, rfl⟩
set_option maxRecDepth 100000 in
theorem mfX12_isWord : MF mX12_isWord 1 := ⟨⟨by decide, by decide, by decide +kernel⟩, wi_X12, tb7 137 rfl rfl, by decide⟩
set_option maxRecDepth 100000 in
theorem mVX12_isWord : MFV mX12_isWord 1 12 := ⟨mfX12_isWord, tb7 136 rfl rfl, tb_in 44 (by decide +kernel) rfl, by decide, rfl⟩
set_option maxRecDepth 100000 in
theorem mfX12_isOwn : MF mX12_isOwn 0 := ⟨⟨by decide, by decide, by decide +kernel⟩, wi_X12, tb7 187 rfl rfl, by decide⟩
set_option maxRecDepth 100000 in
theorem mVX12_isOwn : MFV mX12_isOwn 0 12 := ⟨mfX12_isOwn, tb7 186 rfl rfl, tb_in 55 (by decide +kernel) rfl, by decide, rfl⟩
set_option maxRecDepth 100000 in
theorem mfX12_isName : MF mX12_isName 0 := ⟨⟨by decide, by decide, by decide +kernel⟩, wi_X12, tb7 183 rfl rfl, by decide⟩
set_option maxRecDepth 100000 in
theorem mVX12_isName : MFV mX12_isName 0 12 := ⟨mfX12_isName, tb7 182 rfl rfl, tb_in 54 (by decide +kernel) rfl, by decide, rfl⟩
set_option maxRecDepth 100000 in
theorem mfX12_want : MF mX12_want 1 := ⟨⟨by decide, by decide, by decide +kernel⟩, wi_X12, tb7 145 rfl rfl, by decide⟩
set_option maxRecDepth 100000 in
theorem mVX12_want : MFV mX12_want 1 12 := ⟨mfX12_want, tb7 144 rfl rfl, tb_in 46 (by decide +kernel) rfl, by decide, rfl⟩
set_option maxRecDepth 100000 in
theorem mfX12_toldNumber : MF mX12_toldNumber 2 := ⟨⟨by decide, by decide, by decide +kernel⟩, wi_X12, tb7 157 rfl rfl, by decide⟩
set_option maxRecDepth 100000 in
theorem mVX12_toldNumber : MFV mX12_toldNumber 2 12 := ⟨mfX12_toldNumber, tb7 156 rfl rfl, tb_in 49 (by decide +kernel) rfl, by decide, rfl⟩
set_option maxRecDepth 100000 in
theorem mfX12_told : MF mX12_told 3 := ⟨⟨by decide, by decide, by decide +kernel⟩, wi_X12, tb7 141 rfl rfl, by decide⟩
set_option maxRecDepth 100000 in
theorem mVX12_told : MFV mX12_told 3 12 := ⟨mfX12_told, tb7 140 rfl rfl, tb_in 45 (by decide +kernel) rfl, by decide, rfl⟩
set_option maxRecDepth 100000 in
theorem mfX12_find : MF mX12_find 2 := ⟨⟨by decide, by decide, by decide +kernel⟩, wi_X12, tb7 206 rfl rfl, by decide⟩
set_option maxRecDepth 100000 in
theorem mVX12_find : MFV mX12_find 2 12 := ⟨mfX12_find, tb7 205 rfl rfl, tb_in 56 (by decide +kernel) rfl, by decide, rfl⟩
set_option maxRecDepth 100000 in
theorem mfX12_newName : MF mX12_newName 2 := ⟨⟨by decide, by decide, by decide +kernel⟩, wi_X12, tb7 179 rfl rfl, by decide⟩
set_option maxRecDepth 100000 in
theorem mVX12_newName : MFV mX12_newName 2 12 := ⟨mfX12_newName, tb7 178 rfl rfl, tb_in 53 (by decide +kernel) rfl, by decide, rfl⟩
set_option maxRecDepth 100000 in
theorem mfX12_add : MF mX12_add 2 := ⟨⟨by decide, by decide, by decide +kernel⟩, wi_X12, tb8 9 rfl rfl, by decide⟩
set_option maxRecDepth 100000 in
theorem mVX12_add : MFV mX12_add 2 12 := ⟨mfX12_add, tb8 8 rfl rfl, tb_in 66 (by decide +kernel) rfl, by decide, rfl⟩
set_option maxRecDepth 100000 in
theorem mfX12_tight : MF mX12_tight 1 := ⟨⟨by decide, by decide, by decide +kernel⟩, wi_X12, tb7 229 rfl rfl, by decide⟩
set_option maxRecDepth 100000 in
theorem mSX12_tight : MFS mX12_tight 1 := ⟨mfX12_tight, tb7 228 rfl rfl⟩
set_option maxRecDepth 100000 in
theorem mfX12_close : MF mX12_close 1 := ⟨⟨by decide, by decide, by decide +kernel⟩, wi_X12, tb8 21 rfl rfl, by decide⟩
set_option maxRecDepth 100000 in
theorem mVX12_close : MFV mX12_close 1 12 := ⟨mfX12_close, tb8 20 rfl rfl, tb_in 69 (by decide +kernel) rfl, by decide, rfl⟩
set_option maxRecDepth 100000 in
theorem mfX12_hasRelation : MF mX12_hasRelation 0 := ⟨⟨by decide, by decide, by decide +kernel⟩, wi_X12, tb8 25 rfl rfl, by decide⟩
set_option maxRecDepth 100000 in
theorem mVX12_hasRelation : MFV mX12_hasRelation 0 12 := ⟨mfX12_hasRelation, tb8 24 rfl rfl, tb_in 70 (by decide +kernel) rfl, by decide, rfl⟩
set_option maxRecDepth 100000 in
theorem mfX12_mayNot : MF mX12_mayNot 0 := ⟨⟨by decide, by decide, by decide +kernel⟩, wi_X12, tb7 226 rfl rfl, by decide⟩
set_option maxRecDepth 100000 in
theorem mVX12_mayNot : MFV mX12_mayNot 0 12 := ⟨mfX12_mayNot, tb7 225 rfl rfl, tb_in 61 (by decide +kernel) rfl, by decide, rfl⟩
set_option maxRecDepth 100000 in
theorem mfX12_asked : MF mX12_asked 0 := ⟨⟨by decide, by decide, by decide +kernel⟩, wi_X12, tb8 5 rfl rfl, by decide⟩
set_option maxRecDepth 100000 in
theorem mVX12_asked : MFV mX12_asked 0 12 := ⟨mfX12_asked, tb8 4 rfl rfl, tb_in 65 (by decide +kernel) rfl, by decide, rfl⟩
set_option maxRecDepth 100000 in
theorem mfX12_isFull : MF mX12_isFull 0 := ⟨⟨by decide, by decide, by decide +kernel⟩, wi_X12, tb7 237 rfl rfl, by decide⟩
set_option maxRecDepth 100000 in
theorem mVX12_isFull : MFV mX12_isFull 0 12 := ⟨mfX12_isFull, tb7 236 rfl rfl, tb_in 63 (by decide +kernel) rfl, by decide, rfl⟩
set_option maxRecDepth 100000 in
theorem mfX12_countUnit : MF mX12_countUnit 0 := ⟨⟨by decide, by decide, by decide +kernel⟩, wi_X12, tb8 1 rfl rfl, by decide⟩
set_option maxRecDepth 100000 in
theorem mVX12_countUnit : MFV mX12_countUnit 0 12 := ⟨mfX12_countUnit, tb8 0 rfl rfl, tb_in 64 (by decide +kernel) rfl, by decide, rfl⟩
set_option maxRecDepth 100000 in
theorem mfX12_openUp : MF mX12_openUp 1 := ⟨⟨by decide, by decide, by decide +kernel⟩, wi_X12, tb7 233 rfl rfl, by decide⟩
set_option maxRecDepth 100000 in
theorem mVX12_openUp : MFV mX12_openUp 1 12 := ⟨mfX12_openUp, tb7 232 rfl rfl, tb_in 62 (by decide +kernel) rfl, by decide, rfl⟩
set_option maxRecDepth 100000 in
theorem mfX12_unit : MF mX12_unit 0 := ⟨⟨by decide, by decide, by decide +kernel⟩, wi_X12, tb7 222 rfl rfl, by decide⟩
set_option maxRecDepth 100000 in
theorem mVX12_unit : MFV mX12_unit 0 12 := ⟨mfX12_unit, tb7 221 rfl rfl, tb_in 60 (by decide +kernel) rfl, by decide, rfl⟩
set_option maxRecDepth 100000 in
theorem mfX12_sign : MF mX12_sign 0 := ⟨⟨by decide, by decide, by decide +kernel⟩, wi_X12, tb8 13 rfl rfl, by decide⟩
set_option maxRecDepth 100000 in
theorem mVX12_sign : MFV mX12_sign 0 12 := ⟨mfX12_sign, tb8 12 rfl rfl, tb_in 67 (by decide +kernel) rfl, by decide, rfl⟩
set_option maxRecDepth 100000 in
theorem mfX12_hasBracket : MF mX12_hasBracket 0 := ⟨⟨by decide, by decide, by decide +kernel⟩, wi_X12, tb8 17 rfl rfl, by decide⟩
set_option maxRecDepth 100000 in
theorem mVX12_hasBracket : MFV mX12_hasBracket 0 12 := ⟨mfX12_hasBracket, tb8 16 rfl rfl, tb_in 68 (by decide +kernel) rfl, by decide, rfl⟩
set_option maxRecDepth 100000 in
theorem mfX12_readShade : MF mX12_readShade 0 := ⟨⟨by decide, by decide, by decide +kernel⟩, wi_X12, tb7 218 rfl rfl, by decide⟩
set_option maxRecDepth 100000 in
theorem mVX12_readShade : MFV mX12_readShade 0 12 := ⟨mfX12_readShade, tb7 217 rfl rfl, tb_in 59 (by decide +kernel) rfl, by decide, rfl⟩
set_option maxRecDepth 100000 in
theorem mfX12_truth : MF mX12_truth 1 := ⟨⟨by decide, by decide, by decide +kernel⟩, wi_X12, tb8 51 rfl rfl, by decide⟩
set_option maxRecDepth 100000 in
theorem mSX12_truth : MFS mX12_truth 1 := ⟨mfX12_truth, tb8 50 rfl rfl⟩
set_option maxRecDepth 100000 in
theorem mfX12_done : MF mX12_done 3 := ⟨⟨by decide, by decide, by decide +kernel⟩, wi_X12, tb8 86 rfl rfl, by decide⟩
set_option maxRecDepth 100000 in
theorem mSX12_done : MFS mX12_done 3 := ⟨mfX12_done, tb8 85 rfl rfl⟩
set_option maxRecDepth 100000 in
theorem mfX12_shadeOf : MF mX12_shadeOf 3 := ⟨⟨by decide, by decide, by decide +kernel⟩, wi_X12, tb8 83 rfl rfl, by decide⟩
set_option maxRecDepth 100000 in
theorem mVX12_shadeOf : MFV mX12_shadeOf 3 12 := ⟨mfX12_shadeOf, tb8 82 rfl rfl, tb_in 77 (by decide +kernel) rfl, by decide, rfl⟩
set_option maxRecDepth 100000 in
theorem mfX12_has : MF mX12_has 2 := ⟨⟨by decide, by decide, by decide +kernel⟩, wi_X12, tb7 170 rfl rfl, by decide⟩
set_option maxRecDepth 100000 in
theorem mSX12_has : MFS mX12_has 2 := ⟨mfX12_has, tb7 169 rfl rfl⟩
set_option maxRecDepth 100000 in
theorem mfX12_readCell : MF mX12_readCell 1 := ⟨⟨by decide, by decide, by decide +kernel⟩, wi_X12, tb7 167 rfl rfl, by decide⟩
set_option maxRecDepth 100000 in
theorem mVX12_readCell : MFV mX12_readCell 1 12 := ⟨mfX12_readCell, tb7 166 rfl rfl, tb_in 51 (by decide +kernel) rfl, by decide, rfl⟩
set_option maxRecDepth 100000 in
theorem mfX12_readWall : MF mX12_readWall 0 := ⟨⟨by decide, by decide, by decide +kernel⟩, wi_X12, tb7 163 rfl rfl, by decide⟩
set_option maxRecDepth 100000 in
theorem mVX12_readWall : MFV mX12_readWall 0 12 := ⟨mfX12_readWall, tb7 162 rfl rfl, tb_in 50 (by decide +kernel) rfl, by decide, rfl⟩
set_option maxRecDepth 100000 in
theorem mfX12_readDoor : MF mX12_readDoor 0 := ⟨⟨by decide, by decide, by decide +kernel⟩, wi_X12, tb7 175 rfl rfl, by decide⟩
set_option maxRecDepth 100000 in
theorem mVX12_readDoor : MFV mX12_readDoor 0 12 := ⟨mfX12_readDoor, tb7 174 rfl rfl, tb_in 52 (by decide +kernel) rfl, by decide, rfl⟩
set_option maxRecDepth 100000 in
theorem mfX12_readLamp : MF mX12_readLamp 0 := ⟨⟨by decide, by decide, by decide +kernel⟩, wi_X12, tb7 210 rfl rfl, by decide⟩
set_option maxRecDepth 100000 in
theorem mVX12_readLamp : MFV mX12_readLamp 0 12 := ⟨mfX12_readLamp, tb7 209 rfl rfl, tb_in 57 (by decide +kernel) rfl, by decide, rfl⟩
set_option maxRecDepth 100000 in
theorem mfX12_readPerson : MF mX12_readPerson 0 := ⟨⟨by decide, by decide, by decide +kernel⟩, wi_X12, tb7 214 rfl rfl, by decide⟩
set_option maxRecDepth 100000 in
theorem mVX12_readPerson : MFV mX12_readPerson 0 12 := ⟨mfX12_readPerson, tb7 213 rfl rfl, tb_in 58 (by decide +kernel) rfl, by decide, rfl⟩
set_option maxRecDepth 100000 in
theorem mfX12_readLine : MF mX12_readLine 0 := ⟨⟨by decide, by decide, by decide +kernel⟩, wi_X12, tb7 132 rfl rfl, by decide⟩
set_option maxRecDepth 100000 in
theorem mVX12_readLine : MFV mX12_readLine 0 12 := ⟨mfX12_readLine, tb7 131 rfl rfl, tb_in 43 (by decide +kernel) rfl, by decide, rfl⟩
set_option maxRecDepth 100000 in
theorem mfX12_readAll : MF mX12_readAll 0 := ⟨⟨by decide, by decide, by decide +kernel⟩, wi_X12, tb7 111 rfl rfl, by decide⟩
set_option maxRecDepth 100000 in
theorem mVX12_readAll : MFV mX12_readAll 0 12 := ⟨mfX12_readAll, tb7 110 rfl rfl, tb_in 40 (by decide +kernel) rfl, by decide, rfl⟩
set_option maxRecDepth 100000 in
theorem mfX12_quarter : MF mX12_quarter 0 := ⟨⟨by decide, by decide, by decide +kernel⟩, wi_X12, tb7 107 rfl rfl, by decide⟩
set_option maxRecDepth 100000 in
theorem mVX12_quarter : MFV mX12_quarter 0 12 := ⟨mfX12_quarter, tb7 105 rfl rfl, tb7 106 rfl rfl, by decide, rfl⟩
set_option maxRecDepth 100000 in
theorem mfX12_fault : MF mX12_fault 1 := ⟨⟨by decide, by decide, by decide +kernel⟩, wi_X12, tb8 29 rfl rfl, by decide⟩
set_option maxRecDepth 100000 in
theorem mVX12_fault : MFV mX12_fault 1 12 := ⟨mfX12_fault, tb8 27 rfl rfl, tb8 28 rfl rfl, by decide, rfl⟩
set_option maxRecDepth 100000 in
theorem mfX12_isIn : MF mX12_isIn 3 := ⟨⟨by decide, by decide, by decide +kernel⟩, wi_X12, tb8 40 rfl rfl, by decide⟩
set_option maxRecDepth 100000 in
theorem mSX12_isIn : MFS mX12_isIn 3 := ⟨mfX12_isIn, tb8 39 rfl rfl⟩
set_option maxRecDepth 100000 in
theorem mfX12_isDoor : MF mX12_isDoor 1 := ⟨⟨by decide, by decide, by decide +kernel⟩, wi_X12, tb8 37 rfl rfl, by decide⟩
set_option maxRecDepth 100000 in
theorem mVX12_isDoor : MFV mX12_isDoor 1 12 := ⟨mfX12_isDoor, tb8 36 rfl rfl, tb_in 71 (by decide +kernel) rfl, by decide, rfl⟩
set_option maxRecDepth 100000 in
theorem mfX12_isLamp : MF mX12_isLamp 1 := ⟨⟨by decide, by decide, by decide +kernel⟩, wi_X12, tb8 59 rfl rfl, by decide⟩
set_option maxRecDepth 100000 in
theorem mVX12_isLamp : MFV mX12_isLamp 1 12 := ⟨mfX12_isLamp, tb8 58 rfl rfl, tb_in 74 (by decide +kernel) rfl, by decide, rfl⟩
set_option maxRecDepth 100000 in
theorem mfX12_isPerson : MF mX12_isPerson 1 := ⟨⟨by decide, by decide, by decide +kernel⟩, wi_X12, tb8 71 rfl rfl, by decide⟩
set_option maxRecDepth 100000 in
theorem mVX12_isPerson : MFV mX12_isPerson 1 12 := ⟨mfX12_isPerson, tb8 70 rfl rfl, tb_in 76 (by decide +kernel) rfl, by decide, rfl⟩
set_option maxRecDepth 100000 in
theorem mfX12_isFree : MF mX12_isFree 1 := ⟨⟨by decide, by decide, by decide +kernel⟩, wi_X12, tb8 125 rfl rfl, by decide⟩
set_option maxRecDepth 100000 in
theorem mVX12_isFree : MFV mX12_isFree 1 12 := ⟨mfX12_isFree, tb8 124 rfl rfl, tb_in 82 (by decide +kernel) rfl, by decide, rfl⟩
set_option maxRecDepth 100000 in
theorem mfX12_isFar : MF mX12_isFar 1 := ⟨⟨by decide, by decide, by decide +kernel⟩, wi_X12, tb8 78 rfl rfl, by decide⟩
set_option maxRecDepth 100000 in
theorem mSX12_isFar : MFS mX12_isFar 1 := ⟨mfX12_isFar, tb8 77 rfl rfl⟩
set_option maxRecDepth 100000 in
theorem mfX12_members : MF mX12_members 1 := ⟨⟨by decide, by decide, by decide +kernel⟩, wi_X12, tb8 215 rfl rfl, by decide⟩
set_option maxRecDepth 100000 in
theorem mSX12_members : MFS mX12_members 1 := ⟨mfX12_members, tb8 214 rfl rfl⟩
set_option maxRecDepth 100000 in
theorem mfX12_leastOf : MF mX12_leastOf 1 := ⟨⟨by decide, by decide, by decide +kernel⟩, wi_X12, tb8 192 rfl rfl, by decide⟩
set_option maxRecDepth 100000 in
theorem mSX12_leastOf : MFS mX12_leastOf 1 := ⟨mfX12_leastOf, tb8 191 rfl rfl⟩
set_option maxRecDepth 100000 in
theorem mfX12_load : MF mX12_load 1 := ⟨⟨by decide, by decide, by decide +kernel⟩, wi_X12, tb8 44 rfl rfl, by decide⟩
set_option maxRecDepth 100000 in
theorem mVX12_load : MFV mX12_load 1 12 := ⟨mfX12_load, tb8 43 rfl rfl, tb_in 72 (by decide +kernel) rfl, by decide, rfl⟩
set_option maxRecDepth 100000 in
theorem mfX12_setHour : MF mX12_setHour 1 := ⟨⟨by decide, by decide, by decide +kernel⟩, wi_X12, tb8 181 rfl rfl, by decide⟩
set_option maxRecDepth 100000 in
theorem mVX12_setHour : MFV mX12_setHour 1 12 := ⟨mfX12_setHour, tb8 180 rfl rfl, tb_in 88 (by decide +kernel) rfl, by decide, rfl⟩
set_option maxRecDepth 100000 in
theorem mfX12_isOpen : MF mX12_isOpen 1 := ⟨⟨by decide, by decide, by decide +kernel⟩, wi_X12, tb8 48 rfl rfl, by decide⟩
set_option maxRecDepth 100000 in
theorem mVX12_isOpen : MFV mX12_isOpen 1 12 := ⟨mfX12_isOpen, tb8 47 rfl rfl, tb_in 73 (by decide +kernel) rfl, by decide, rfl⟩
set_option maxRecDepth 100000 in
theorem mfX12_isLit : MF mX12_isLit 1 := ⟨⟨by decide, by decide, by decide +kernel⟩, wi_X12, tb8 63 rfl rfl, by decide⟩
set_option maxRecDepth 100000 in
theorem mVX12_isLit : MFV mX12_isLit 1 12 := ⟨mfX12_isLit, tb8 62 rfl rfl, tb_in 75 (by decide +kernel) rfl, by decide, rfl⟩
set_option maxRecDepth 100000 in
theorem mfX12_row : MF mX12_row 4 := ⟨⟨by decide, by decide, by decide +kernel⟩, wi_X12, tb8 101 rfl rfl, by decide⟩
set_option maxRecDepth 100000 in
theorem mVX12_row : MFV mX12_row 4 12 := ⟨mfX12_row, tb8 100 rfl rfl, tb_in 79 (by decide +kernel) rfl, by decide, rfl⟩
set_option maxRecDepth 100000 in
theorem mfX12_toward : MF mX12_toward 2 := ⟨⟨by decide, by decide, by decide +kernel⟩, wi_X12, tb8 109 rfl rfl, by decide⟩
set_option maxRecDepth 100000 in
theorem mSX12_toward : MFS mX12_toward 2 := ⟨mfX12_toward, tb8 108 rfl rfl⟩
set_option maxRecDepth 100000 in
theorem mfX12_byLamp : MF mX12_byLamp 2 := ⟨⟨by decide, by decide, by decide +kernel⟩, wi_X12, tb8 106 rfl rfl, by decide⟩
set_option maxRecDepth 100000 in
theorem mVX12_byLamp : MFV mX12_byLamp 2 12 := ⟨mfX12_byLamp, tb8 105 rfl rfl, tb_in 80 (by decide +kernel) rfl, by decide, rfl⟩
set_option maxRecDepth 100000 in
theorem mfX12_capped : MF mX12_capped 1 := ⟨⟨by decide, by decide, by decide +kernel⟩, wi_X12, tb8 97 rfl rfl, by decide⟩
set_option maxRecDepth 100000 in
theorem mSX12_capped : MFS mX12_capped 1 := ⟨mfX12_capped, tb8 96 rfl rfl⟩
set_option maxRecDepth 100000 in
theorem mfX12_shadowOf : MF mX12_shadowOf 1 := ⟨⟨by decide, by decide, by decide +kernel⟩, wi_X12, tb8 94 rfl rfl, by decide⟩
set_option maxRecDepth 100000 in
theorem mVX12_shadowOf : MFV mX12_shadowOf 1 12 := ⟨mfX12_shadowOf, tb8 93 rfl rfl, tb_in 78 (by decide +kernel) rfl, by decide, rfl⟩
set_option maxRecDepth 100000 in
theorem mfX12_layShadows : MF mX12_layShadows 0 := ⟨⟨by decide, by decide, by decide +kernel⟩, wi_X12, tb8 117 rfl rfl, by decide⟩
set_option maxRecDepth 100000 in
theorem mVX12_layShadows : MFV mX12_layShadows 0 12 := ⟨mfX12_layShadows, tb8 116 rfl rfl, tb_in 81 (by decide +kernel) rfl, by decide, rfl⟩
set_option maxRecDepth 100000 in
theorem mfX12_nextTo : MF mX12_nextTo 1 := ⟨⟨by decide, by decide, by decide +kernel⟩, wi_X12, tb8 133 rfl rfl, by decide⟩
set_option maxRecDepth 100000 in
theorem mVX12_nextTo : MFV mX12_nextTo 1 12 := ⟨mfX12_nextTo, tb8 132 rfl rfl, tb_in 84 (by decide +kernel) rfl, by decide, rfl⟩
set_option maxRecDepth 100000 in
theorem mfX12_movesFrom : MF mX12_movesFrom 1 := ⟨⟨by decide, by decide, by decide +kernel⟩, wi_X12, tb8 129 rfl rfl, by decide⟩
set_option maxRecDepth 100000 in
theorem mVX12_movesFrom : MFV mX12_movesFrom 1 12 := ⟨mfX12_movesFrom, tb8 128 rfl rfl, tb_in 83 (by decide +kernel) rfl, by decide, rfl⟩
set_option maxRecDepth 100000 in
theorem mfX12_layMoves : MF mX12_layMoves 1 := ⟨⟨by decide, by decide, by decide +kernel⟩, wi_X12, tb8 185 rfl rfl, by decide⟩
set_option maxRecDepth 100000 in
theorem mVX12_layMoves : MFV mX12_layMoves 1 12 := ⟨mfX12_layMoves, tb8 184 rfl rfl, tb_in 89 (by decide +kernel) rfl, by decide, rfl⟩
set_option maxRecDepth 100000 in
theorem mfX12_layHours : MF mX12_layHours 2 := ⟨⟨by decide, by decide, by decide +kernel⟩, wi_X12, tb8 177 rfl rfl, by decide⟩
set_option maxRecDepth 100000 in
theorem mVX12_layHours : MFV mX12_layHours 2 12 := ⟨mfX12_layHours, tb8 176 rfl rfl, tb_in 87 (by decide +kernel) rfl, by decide, rfl⟩
set_option maxRecDepth 100000 in
theorem mfX12_goOn : MF mX12_goOn 2 := ⟨⟨by decide, by decide, by decide +kernel⟩, wi_X12, tb8 189 rfl rfl, by decide⟩
set_option maxRecDepth 100000 in
theorem mVX12_goOn : MFV mX12_goOn 2 12 := ⟨mfX12_goOn, tb8 188 rfl rfl, tb_in 90 (by decide +kernel) rfl, by decide, rfl⟩
set_option maxRecDepth 100000 in
theorem mfX12_door : MF mX12_door 2 := ⟨⟨by decide, by decide, by decide +kernel⟩, wi_X12, tb8 33 rfl rfl, by decide⟩
set_option maxRecDepth 100000 in
theorem mVX12_door : MFV mX12_door 2 12 := ⟨mfX12_door, tb8 31 rfl rfl, tb8 32 rfl rfl, by decide, rfl⟩
set_option maxRecDepth 100000 in
theorem mfX12_lamp : MF mX12_lamp 2 := ⟨⟨by decide, by decide, by decide +kernel⟩, wi_X12, tb8 55 rfl rfl, by decide⟩
set_option maxRecDepth 100000 in
theorem mVX12_lamp : MFV mX12_lamp 2 12 := ⟨mfX12_lamp, tb8 53 rfl rfl, tb8 54 rfl rfl, by decide, rfl⟩
set_option maxRecDepth 100000 in
theorem mfX12_person : MF mX12_person 2 := ⟨⟨by decide, by decide, by decide +kernel⟩, wi_X12, tb8 67 rfl rfl, by decide⟩
set_option maxRecDepth 100000 in
theorem mVX12_person : MFV mX12_person 2 12 := ⟨mfX12_person, tb8 65 rfl rfl, tb8 66 rfl rfl, by decide, rfl⟩
set_option maxRecDepth 100000 in
theorem mfX12_shade : MF mX12_shade 2 := ⟨⟨by decide, by decide, by decide +kernel⟩, wi_X12, tb8 75 rfl rfl, by decide⟩
set_option maxRecDepth 100000 in
theorem mVX12_shade : MFV mX12_shade 2 12 := ⟨mfX12_shade, tb8 73 rfl rfl, tb8 74 rfl rfl, by decide, rfl⟩
set_option maxRecDepth 100000 in
theorem mfX12_shadow : MF mX12_shadow 2 := ⟨⟨by decide, by decide, by decide +kernel⟩, wi_X12, tb8 90 rfl rfl, by decide⟩
set_option maxRecDepth 100000 in
theorem mVX12_shadow : MFV mX12_shadow 2 12 := ⟨mfX12_shadow, tb8 88 rfl rfl, tb8 89 rfl rfl, by decide, rfl⟩
set_option maxRecDepth 100000 in
theorem mfX12_shades : MF mX12_shades 2 := ⟨⟨by decide, by decide, by decide +kernel⟩, wi_X12, tb8 113 rfl rfl, by decide⟩
set_option maxRecDepth 100000 in
theorem mVX12_shades : MFV mX12_shades 2 12 := ⟨mfX12_shades, tb8 111 rfl rfl, tb8 112 rfl rfl, by decide, rfl⟩
set_option maxRecDepth 100000 in
theorem mfX12_moves : MF mX12_moves 2 := ⟨⟨by decide, by decide, by decide +kernel⟩, wi_X12, tb8 121 rfl rfl, by decide⟩
set_option maxRecDepth 100000 in
theorem mVX12_moves : MFV mX12_moves 2 12 := ⟨mfX12_moves, tb8 119 rfl rfl, tb8 120 rfl rfl, by decide, rfl⟩
set_option maxRecDepth 100000 in
theorem mfX12_act : MF mX12_act 0 := ⟨⟨by decide, by decide, by decide +kernel⟩, wi_X12, tb8 141 rfl rfl, by decide⟩
set_option maxRecDepth 100000 in
theorem mVX12_act : MFV mX12_act 0 12 := ⟨mfX12_act, tb8 140 rfl rfl, tb_in 85 (by decide +kernel) rfl, by decide, rfl⟩
set_option maxRecDepth 100000 in
theorem mfX12_exchange : MF mX12_exchange 1 := ⟨⟨by decide, by decide, by decide +kernel⟩, wi_X12, tb8 165 rfl rfl, by decide⟩
set_option maxRecDepth 100000 in
theorem mVX12_exchange : MFV mX12_exchange 1 12 := ⟨mfX12_exchange, tb8 164 rfl rfl, tb_in 86 (by decide +kernel) rfl, by decide, rfl⟩
set_option maxRecDepth 100000 in
theorem mfX12_go : MF mX12_go 2 := ⟨⟨by decide, by decide, by decide +kernel⟩, wi_X12, tb8 137 rfl rfl, by decide⟩
set_option maxRecDepth 100000 in
theorem mVX12_go : MFV mX12_go 2 12 := ⟨mfX12_go, tb8 135 rfl rfl, tb8 136 rfl rfl, by decide, rfl⟩
set_option maxRecDepth 100000 in
theorem mfX12_hour : MF mX12_hour 0 := ⟨⟨by decide, by decide, by decide +kernel⟩, wi_X12, tb8 145 rfl rfl, by decide⟩
set_option maxRecDepth 100000 in
theorem mVX12_hour : MFV mX12_hour 0 12 := ⟨mfX12_hour, tb8 143 rfl rfl, tb8 144 rfl rfl, by decide, rfl⟩
set_option maxRecDepth 100000 in
theorem mfX12_shut : MF mX12_shut 1 := ⟨⟨by decide, by decide, by decide +kernel⟩, wi_X12, tb8 149 rfl rfl, by decide⟩
set_option maxRecDepth 100000 in
theorem mVX12_shut : MFV mX12_shut 1 12 := ⟨mfX12_shut, tb8 147 rfl rfl, tb8 148 rfl rfl, by decide, rfl⟩
set_option maxRecDepth 100000 in
theorem mfX12_out : MF mX12_out 1 := ⟨⟨by decide, by decide, by decide +kernel⟩, wi_X12, tb8 153 rfl rfl, by decide⟩
set_option maxRecDepth 100000 in
theorem mVX12_out : MFV mX12_out 1 12 := ⟨mfX12_out, tb8 151 rfl rfl, tb8 152 rfl rfl, by decide, rfl⟩
set_option maxRecDepth 100000 in
theorem mfX12_eclipse : MF mX12_eclipse 0 := ⟨⟨by decide, by decide, by decide +kernel⟩, wi_X12, tb8 157 rfl rfl, by decide⟩
set_option maxRecDepth 100000 in
theorem mVX12_eclipse : MFV mX12_eclipse 0 12 := ⟨mfX12_eclipse, tb8 155 rfl rfl, tb8 156 rfl rfl, by decide, rfl⟩
set_option maxRecDepth 100000 in
theorem mfX12_undo : MF mX12_undo 0 := ⟨⟨by decide, by decide, by decide +kernel⟩, wi_X12, tb8 161 rfl rfl, by decide⟩
set_option maxRecDepth 100000 in
theorem mVX12_undo : MFV mX12_undo 0 12 := ⟨mfX12_undo, tb8 159 rfl rfl, tb8 160 rfl rfl, by decide, rfl⟩
set_option maxRecDepth 100000 in
theorem mfX12_redo : MF mX12_redo 0 := ⟨⟨by decide, by decide, by decide +kernel⟩, wi_X12, tb8 169 rfl rfl, by decide⟩
set_option maxRecDepth 100000 in
theorem mVX12_redo : MFV mX12_redo 0 12 := ⟨mfX12_redo, tb8 167 rfl rfl, tb8 168 rfl rfl, by decide, rfl⟩
set_option maxRecDepth 100000 in
theorem mfX12_soonest : MF mX12_soonest 2 := ⟨⟨by decide, by decide, by decide +kernel⟩, wi_X12, tb8 173 rfl rfl, by decide⟩
set_option maxRecDepth 100000 in
theorem mVX12_soonest : MFV mX12_soonest 2 12 := ⟨mfX12_soonest, tb8 171 rfl rfl, tb8 172 rfl rfl, by decide, rfl⟩
set_option maxRecDepth 100000 in
theorem mfX12_reachOf : MF mX12_reachOf 2 := ⟨⟨by decide, by decide, by decide +kernel⟩, wi_X12, tb8 200 rfl rfl, by decide⟩
set_option maxRecDepth 100000 in
theorem mVX12_reachOf : MFV mX12_reachOf 2 12 := ⟨mfX12_reachOf, tb8 199 rfl rfl, tb_in 91 (by decide +kernel) rfl, by decide, rfl⟩
set_option maxRecDepth 100000 in
theorem mfX12_reach : MF mX12_reach 2 := ⟨⟨by decide, by decide, by decide +kernel⟩, wi_X12, tb8 196 rfl rfl, by decide⟩
set_option maxRecDepth 100000 in
theorem mVX12_reach : MFV mX12_reach 2 12 := ⟨mfX12_reach, tb8 194 rfl rfl, tb8 195 rfl rfl, by decide, rfl⟩
set_option maxRecDepth 100000 in
theorem mfX12_meet : MF mX12_meet 3 := ⟨⟨by decide, by decide, by decide +kernel⟩, wi_X12, tb8 204 rfl rfl, by decide⟩
set_option maxRecDepth 100000 in
theorem mVX12_meet : MFV mX12_meet 3 12 := ⟨mfX12_meet, tb8 202 rfl rfl, tb8 203 rfl rfl, by decide, rfl⟩
set_option maxRecDepth 100000 in
theorem mfX12_barred : MF mX12_barred 2 := ⟨⟨by decide, by decide, by decide +kernel⟩, wi_X12, tb8 208 rfl rfl, by decide⟩
set_option maxRecDepth 100000 in
theorem mVX12_barred : MFV mX12_barred 2 12 := ⟨mfX12_barred, tb8 206 rfl rfl, tb8 207 rfl rfl, by decide, rfl⟩
set_option maxRecDepth 100000 in
theorem mfX12_longest : MF mX12_longest 2 := ⟨⟨by decide, by decide, by decide +kernel⟩, wi_X12, tb8 212 rfl rfl, by decide⟩
set_option maxRecDepth 100000 in
theorem mVX12_longest : MFV mX12_longest 2 12 := ⟨mfX12_longest, tb8 210 rfl rfl, tb8 211 rfl rfl, by decide, rfl⟩
set_option maxRecDepth 100000 in
theorem mfX12_cross : MF mX12_cross 3 := ⟨⟨by decide, by decide, by decide +kernel⟩, wi_X12, tb8 219 rfl rfl, by decide⟩
set_option maxRecDepth 100000 in
theorem mVX12_cross : MFV mX12_cross 3 12 := ⟨mfX12_cross, tb8 217 rfl rfl, tb8 218 rfl rfl, by decide, rfl⟩
set_option maxRecDepth 100000 in
theorem mfX12_join : MF mX12_join 2 := ⟨⟨by decide, by decide, by decide +kernel⟩, wi_X12, tb8 231 rfl rfl, by decide⟩
set_option maxRecDepth 100000 in
theorem mVX12_join : MFV mX12_join 2 12 := ⟨mfX12_join, tb8 230 rfl rfl, tb_in 93 (by decide +kernel) rfl, by decide, rfl⟩
set_option maxRecDepth 100000 in
theorem mfX12_layRooms : MF mX12_layRooms 1 := ⟨⟨by decide, by decide, by decide +kernel⟩, wi_X12, tb8 227 rfl rfl, by decide⟩
set_option maxRecDepth 100000 in
theorem mVX12_layRooms : MFV mX12_layRooms 1 12 := ⟨mfX12_layRooms, tb8 226 rfl rfl, tb_in 92 (by decide +kernel) rfl, by decide, rfl⟩
set_option maxRecDepth 100000 in
theorem mfX12_rooms : MF mX12_rooms 1 := ⟨⟨by decide, by decide, by decide +kernel⟩, wi_X12, tb8 223 rfl rfl, by decide⟩
set_option maxRecDepth 100000 in
theorem mVX12_rooms : MFV mX12_rooms 1 12 := ⟨mfX12_rooms, tb8 221 rfl rfl, tb8 222 rfl rfl, by decide, rfl⟩
set_option maxRecDepth 100000 in
theorem mfX12_hears : MF mX12_hears 3 := ⟨⟨by decide, by decide, by decide +kernel⟩, wi_X12, tb8 235 rfl rfl, by decide⟩
set_option maxRecDepth 100000 in
theorem mVX12_hears : MFV mX12_hears 3 12 := ⟨mfX12_hears, tb8 233 rfl rfl, tb8 234 rfl rfl, by decide, rfl⟩
set_option maxRecDepth 100000 in
theorem mfX12_comes : MF mX12_comes 4 := ⟨⟨by decide, by decide, by decide +kernel⟩, wi_X12, tb9 11 rfl rfl, by decide⟩
set_option maxRecDepth 100000 in
theorem mVX12_comes : MFV mX12_comes 4 12 := ⟨mfX12_comes, tb9 10 rfl rfl, tb_in 96 (by decide +kernel) rfl, by decide, rfl⟩
set_option maxRecDepth 100000 in
theorem mfX12_isAsked : MF mX12_isAsked 3 := ⟨⟨by decide, by decide, by decide +kernel⟩, wi_X12, tb9 3 rfl rfl, by decide⟩
set_option maxRecDepth 100000 in
theorem mVX12_isAsked : MFV mX12_isAsked 3 12 := ⟨mfX12_isAsked, tb9 2 rfl rfl, tb_in 94 (by decide +kernel) rfl, by decide, rfl⟩
set_option maxRecDepth 100000 in
theorem mfX12_keeps : MF mX12_keeps 4 := ⟨⟨by decide, by decide, by decide +kernel⟩, wi_X12, tb9 7 rfl rfl, by decide⟩
set_option maxRecDepth 100000 in
theorem mVX12_keeps : MFV mX12_keeps 4 12 := ⟨mfX12_keeps, tb9 6 rfl rfl, tb_in 95 (by decide +kernel) rfl, by decide, rfl⟩
set_option maxRecDepth 100000 in
theorem mfX12_keep : MF mX12_keep 4 := ⟨⟨by decide, by decide, by decide +kernel⟩, wi_X12, tb8 239 rfl rfl, by decide⟩
set_option maxRecDepth 100000 in
theorem mVX12_keep : MFV mX12_keep 4 12 := ⟨mfX12_keep, tb8 237 rfl rfl, tb8 238 rfl rfl, by decide, rfl⟩
set_option maxRecDepth 100000 in
theorem mfX12_frees : MF mX12_frees 4 := ⟨⟨by decide, by decide, by decide +kernel⟩, wi_X12, tb9 19 rfl rfl, by decide⟩
set_option maxRecDepth 100000 in
theorem mVX12_frees : MFV mX12_frees 4 12 := ⟨mfX12_frees, tb9 18 rfl rfl, tb_in 97 (by decide +kernel) rfl, by decide, rfl⟩
set_option maxRecDepth 100000 in
theorem mfX12_free : MF mX12_free 4 := ⟨⟨by decide, by decide, by decide +kernel⟩, wi_X12, tb9 15 rfl rfl, by decide⟩
set_option maxRecDepth 100000 in
theorem mVX12_free : MFV mX12_free 4 12 := ⟨mfX12_free, tb9 13 rfl rfl, tb9 14 rfl rfl, by decide, rfl⟩
set_option maxRecDepth 100000 in
theorem mfX12_bestOf : MF mX12_bestOf 2 := ⟨⟨by decide, by decide, by decide +kernel⟩, wi_X12, tb9 28 rfl rfl, by decide⟩
set_option maxRecDepth 100000 in
theorem mVX12_bestOf : MFV mX12_bestOf 2 12 := ⟨mfX12_bestOf, tb9 27 rfl rfl, tb_in 98 (by decide +kernel) rfl, by decide, rfl⟩
set_option maxRecDepth 100000 in
theorem mfX12_common : MF mX12_common 2 := ⟨⟨by decide, by decide, by decide +kernel⟩, wi_X12, tb9 31 rfl rfl, by decide⟩
set_option maxRecDepth 100000 in
theorem mSX12_common : MFS mX12_common 2 := ⟨mfX12_common, tb9 30 rfl rfl⟩
set_option maxRecDepth 100000 in
theorem mfX12_surest : MF mX12_surest 4 := ⟨⟨by decide, by decide, by decide +kernel⟩, wi_X12, tb9 23 rfl rfl, by decide⟩
set_option maxRecDepth 100000 in
theorem mVX12_surest : MFV mX12_surest 4 12 := ⟨mfX12_surest, tb9 21 rfl rfl, tb9 22 rfl rfl, by decide, rfl⟩
set_option maxRecDepth 100000 in
theorem mfX12_dates : MF mX12_dates 4 := ⟨⟨by decide, by decide, by decide +kernel⟩, wi_X12, tb9 35 rfl rfl, by decide⟩
set_option maxRecDepth 100000 in
theorem mVX12_dates : MFV mX12_dates 4 12 := ⟨mfX12_dates, tb9 33 rfl rfl, tb9 34 rfl rfl, by decide, rfl⟩
set_option maxRecDepth 100000 in
theorem mfX12_lies : MF mX12_lies 1 := ⟨⟨by decide, by decide, by decide +kernel⟩, wi_X12, tb9 39 rfl rfl, by decide⟩
set_option maxRecDepth 100000 in
theorem mVX12_lies : MFV mX12_lies 1 12 := ⟨mfX12_lies, tb9 37 rfl rfl, tb9 38 rfl rfl, by decide, rfl⟩
set_option maxRecDepth 100000 in
theorem mfX12_look : MF mX12_look 3 := ⟨⟨by decide, by decide, by decide +kernel⟩, wi_X12, tb9 43 rfl rfl, by decide⟩
set_option maxRecDepth 100000 in
theorem mVX12_look : MFV mX12_look 3 12 := ⟨mfX12_look, tb9 41 rfl rfl, tb9 42 rfl rfl, by decide, rfl⟩
set_option maxRecDepth 100000 in
theorem mfX12_untell : MF mX12_untell 1 := ⟨⟨by decide, by decide, by decide +kernel⟩, wi_X12, tb9 47 rfl rfl, by decide⟩
set_option maxRecDepth 100000 in
theorem mVX12_untell : MFV mX12_untell 1 12 := ⟨mfX12_untell, tb9 45 rfl rfl, tb9 46 rfl rfl, by decide, rfl⟩
set_option maxRecDepth 100000 in
theorem mfX12_later : MF mX12_later 1 := ⟨⟨by decide, by decide, by decide +kernel⟩, wi_X12, tb9 51 rfl rfl, by decide⟩
set_option maxRecDepth 100000 in
theorem mVX12_later : MFV mX12_later 1 12 := ⟨mfX12_later, tb9 49 rfl rfl, tb9 50 rfl rfl, by decide, rfl⟩
set_option maxRecDepth 100000 in
theorem mfX12_counts : MF mX12_counts 2 := ⟨⟨by decide, by decide, by decide +kernel⟩, wi_X12, tb9 68 rfl rfl, by decide⟩
set_option maxRecDepth 100000 in
theorem mVX12_counts : MFV mX12_counts 2 12 := ⟨mfX12_counts, tb9 67 rfl rfl, tb_in 101 (by decide +kernel) rfl, by decide, rfl⟩
set_option maxRecDepth 100000 in
theorem mfX12_wouldBe : MF mX12_wouldBe 4 := ⟨⟨by decide, by decide, by decide +kernel⟩, wi_X12, tb9 72 rfl rfl, by decide⟩
set_option maxRecDepth 100000 in
theorem mVX12_wouldBe : MFV mX12_wouldBe 4 12 := ⟨mfX12_wouldBe, tb9 71 rfl rfl, tb_in 102 (by decide +kernel) rfl, by decide, rfl⟩
set_option maxRecDepth 100000 in
theorem mfX12_fits : MF mX12_fits 3 := ⟨⟨by decide, by decide, by decide +kernel⟩, wi_X12, tb9 64 rfl rfl, by decide⟩
set_option maxRecDepth 100000 in
theorem mVX12_fits : MFV mX12_fits 3 12 := ⟨mfX12_fits, tb9 63 rfl rfl, tb_in 100 (by decide +kernel) rfl, by decide, rfl⟩
set_option maxRecDepth 100000 in
theorem mfX12_layFits : MF mX12_layFits 1 := ⟨⟨by decide, by decide, by decide +kernel⟩, wi_X12, tb9 60 rfl rfl, by decide⟩
set_option maxRecDepth 100000 in
theorem mVX12_layFits : MFV mX12_layFits 1 12 := ⟨mfX12_layFits, tb9 59 rfl rfl, tb_in 99 (by decide +kernel) rfl, by decide, rfl⟩
set_option maxRecDepth 100000 in
theorem mfX12_fit : MF mX12_fit 1 := ⟨⟨by decide, by decide, by decide +kernel⟩, wi_X12, tb9 56 rfl rfl, by decide⟩
set_option maxRecDepth 100000 in
theorem mVX12_fit : MFV mX12_fit 1 12 := ⟨mfX12_fit, tb9 54 rfl rfl, tb9 55 rfl rfl, by decide, rfl⟩
set_option maxRecDepth 100000 in
theorem mfX12_places : MF mX12_places 1 := ⟨⟨by decide, by decide, by decide +kernel⟩, wi_X12, tb9 76 rfl rfl, by decide⟩
set_option maxRecDepth 100000 in
theorem mVX12_places : MFV mX12_places 1 12 := ⟨mfX12_places, tb9 74 rfl rfl, tb9 75 rfl rfl, by decide, rfl⟩
set_option maxRecDepth 100000 in
theorem mfX12_heights : MF mX12_heights 1 := ⟨⟨by decide, by decide, by decide +kernel⟩, wi_X12, tb9 80 rfl rfl, by decide⟩
set_option maxRecDepth 100000 in
theorem mVX12_heights : MFV mX12_heights 1 12 := ⟨mfX12_heights, tb9 78 rfl rfl, tb9 79 rfl rfl, by decide, rfl⟩
set_option maxRecDepth 100000 in
theorem mfX12_leftBy : MF mX12_leftBy 2 := ⟨⟨by decide, by decide, by decide +kernel⟩, wi_X12, tb9 88 rfl rfl, by decide⟩
set_option maxRecDepth 100000 in
theorem mVX12_leftBy : MFV mX12_leftBy 2 12 := ⟨mfX12_leftBy, tb9 87 rfl rfl, tb_in 103 (by decide +kernel) rfl, by decide, rfl⟩
set_option maxRecDepth 100000 in
theorem mfX12_ask : MF mX12_ask 2 := ⟨⟨by decide, by decide, by decide +kernel⟩, wi_X12, tb9 84 rfl rfl, by decide⟩
set_option maxRecDepth 100000 in
theorem mVX12_ask : MFV mX12_ask 2 12 := ⟨mfX12_ask, tb9 82 rfl rfl, tb9 83 rfl rfl, by decide, rfl⟩
set_option maxRecDepth 100000 in
theorem mfX12_isBox : MF mX12_isBox 1 := ⟨⟨by decide, by decide, by decide +kernel⟩, wi_X12, tb9 95 rfl rfl, by decide⟩
set_option maxRecDepth 100000 in
theorem mSX12_isBox : MFS mX12_isBox 1 := ⟨mfX12_isBox, tb9 94 rfl rfl⟩
set_option maxRecDepth 100000 in
theorem mfX12_image : MF mX12_image 1 := ⟨⟨by decide, by decide, by decide +kernel⟩, wi_X12, tb9 92 rfl rfl, by decide⟩
set_option maxRecDepth 100000 in
theorem mVX12_image : MFV mX12_image 1 12 := ⟨mfX12_image, tb9 90 rfl rfl, tb9 91 rfl rfl, by decide, rfl⟩
set_option maxRecDepth 100000 in
theorem mfX12_back : MF mX12_back 1 := ⟨⟨by decide, by decide, by decide +kernel⟩, wi_X12, tb9 99 rfl rfl, by decide⟩
set_option maxRecDepth 100000 in
theorem mVX12_back : MFV mX12_back 1 12 := ⟨mfX12_back, tb9 97 rfl rfl, tb9 98 rfl rfl, by decide, rfl⟩
set_option maxRecDepth 100000 in
theorem mfX12_about : MF mX12_about 1 := ⟨⟨by decide, by decide, by decide +kernel⟩, wi_X12, tb9 103 rfl rfl, by decide⟩
set_option maxRecDepth 100000 in
theorem mVX12_about : MFV mX12_about 1 12 := ⟨mfX12_about, tb9 101 rfl rfl, tb9 102 rfl rfl, by decide, rfl⟩
set_option maxRecDepth 100000 in
theorem wi_J11 : Cond.initialized RJ11 ∈ TB := tb1 19 rfl rfl
set_option maxRecDepth 100000 in
theorem mfJ11_isValidCodePoint_9a6ad : MF mJ11_isValidCodePoint_9a6ad 1 := ⟨⟨by decide, by decide, by decide +kernel⟩, wi_J11, tb3 187 rfl rfl, by decide⟩
set_option maxRecDepth 100000 in
theorem mSJ11_isValidCodePoint_9a6ad : MFS mJ11_isValidCodePoint_9a6ad 1 := ⟨mfJ11_isValidCodePoint_9a6ad, tb3 186 rfl rfl⟩
set_option maxRecDepth 100000 in
theorem mfJ11_highSurrogate_5068e : MF mJ11_highSurrogate_5068e 1 := ⟨⟨by decide, by decide, by decide +kernel⟩, wi_J11, tb3 190 rfl rfl, by decide⟩
set_option maxRecDepth 100000 in
theorem mSJ11_highSurrogate_5068e : MFS mJ11_highSurrogate_5068e 1 := ⟨mfJ11_highSurrogate_5068e, tb3 189 rfl rfl⟩
set_option maxRecDepth 100000 in
theorem mfJ11_lowSurrogate_5068e : MF mJ11_lowSurrogate_5068e 1 := ⟨⟨by decide, by decide, by decide +kernel⟩, wi_J11, tb3 194 rfl rfl, by decide⟩
set_option maxRecDepth 100000 in
theorem mSJ11_lowSurrogate_5068e : MFS mJ11_lowSurrogate_5068e 1 := ⟨mfJ11_lowSurrogate_5068e, tb3 193 rfl rfl⟩
set_option maxRecDepth 100000 in
theorem wi_J6 : Cond.initialized RJ6 ∈ TB := tb1 24 rfl rfl
set_option maxRecDepth 100000 in
theorem mfJ6_numberOfTrailingZeros_0f7a4 : MF mJ6_numberOfTrailingZeros_0f7a4 1 := ⟨⟨by decide, by decide, by decide +kernel⟩, wi_J6, tb5 39 rfl rfl, by decide⟩
set_option maxRecDepth 100000 in
theorem mSJ6_numberOfTrailingZeros_0f7a4 : MFS mJ6_numberOfTrailingZeros_0f7a4 1 := ⟨mfJ6_numberOfTrailingZeros_0f7a4, tb5 38 rfl rfl⟩
set_option maxRecDepth 100000 in
theorem mfJ6_bitCount_0f7a4 : MF mJ6_bitCount_0f7a4 1 := ⟨⟨by decide, by decide, by decide +kernel⟩, wi_J6, tb5 114 rfl rfl, by decide⟩
set_option maxRecDepth 100000 in
theorem mSJ6_bitCount_0f7a4 : MFS mJ6_bitCount_0f7a4 1 := ⟨mfJ6_bitCount_0f7a4, tb5 113 rfl rfl⟩
set_option maxRecDepth 100000 in
theorem wi_J13 : Cond.initialized RJ13 ∈ TB := tb1 21 rfl rfl
set_option maxRecDepth 100000 in
theorem mfJ13_lowestOneBit_067f4 : MF mJ13_lowestOneBit_067f4 1 := ⟨⟨by decide, by decide, by decide +kernel⟩, wi_J13, tb5 89 rfl rfl, by decide⟩
set_option maxRecDepth 100000 in
theorem mSJ13_lowestOneBit_067f4 : MFS mJ13_lowestOneBit_067f4 1 := ⟨mfJ13_lowestOneBit_067f4, tb5 88 rfl rfl⟩
set_option maxRecDepth 100000 in
theorem mfJ13_numberOfTrailingZeros_95d88 : MF mJ13_numberOfTrailingZeros_95d88 1 := ⟨⟨by decide, by decide, by decide +kernel⟩, wi_J13, tb5 36 rfl rfl, by decide⟩
set_option maxRecDepth 100000 in
theorem mSJ13_numberOfTrailingZeros_95d88 : MFS mJ13_numberOfTrailingZeros_95d88 1 := ⟨mfJ13_numberOfTrailingZeros_95d88, tb5 35 rfl rfl⟩
set_option maxRecDepth 100000 in
theorem mfJ13_bitCount_95d88 : MF mJ13_bitCount_95d88 1 := ⟨⟨by decide, by decide, by decide +kernel⟩, wi_J13, tb3 228 rfl rfl, by decide⟩
set_option maxRecDepth 100000 in
theorem mSJ13_bitCount_95d88 : MFS mJ13_bitCount_95d88 1 := ⟨mfJ13_bitCount_95d88, tb3 227 rfl rfl⟩
set_option maxRecDepth 100000 in
theorem wi_J9 : Cond.initialized RJ9 ∈ TB := tb1 5 rfl rfl
set_option maxRecDepth 100000 in
theorem mfJ9_abs_0f7a4 : MF mJ9_abs_0f7a4 1 := ⟨⟨by decide, by decide, by decide +kernel⟩, wi_J9, tb1 141 rfl rfl, by decide⟩
set_option maxRecDepth 100000 in
theorem mSJ9_abs_0f7a4 : MFS mJ9_abs_0f7a4 1 := ⟨mfJ9_abs_0f7a4, tb1 140 rfl rfl⟩
set_option maxRecDepth 100000 in
theorem mfJ9_max_7cf53 : MF mJ9_max_7cf53 2 := ⟨⟨by decide, by decide, by decide +kernel⟩, wi_J9, tb1 134 rfl rfl, by decide⟩
set_option maxRecDepth 100000 in
theorem mSJ9_max_7cf53 : MFS mJ9_max_7cf53 2 := ⟨mfJ9_max_7cf53, tb1 133 rfl rfl⟩
set_option maxRecDepth 100000 in
theorem mfJ9_max_f86c9 : MF mJ9_max_f86c9 2 := ⟨⟨by decide, by decide, by decide +kernel⟩, wi_J9, tb5 168 rfl rfl, by decide⟩
set_option maxRecDepth 100000 in
theorem mSJ9_max_f86c9 : MFS mJ9_max_f86c9 2 := ⟨mfJ9_max_f86c9, tb5 167 rfl rfl⟩
set_option maxRecDepth 100000 in
theorem mfJ9_min_7cf53 : MF mJ9_min_7cf53 2 := ⟨⟨by decide, by decide, by decide +kernel⟩, wi_J9, tb1 131 rfl rfl, by decide⟩
set_option maxRecDepth 100000 in
theorem mSJ9_min_7cf53 : MFS mJ9_min_7cf53 2 := ⟨mfJ9_min_7cf53, tb1 130 rfl rfl⟩
set_option maxRecDepth 100000 in
theorem wi_J0 : Cond.initialized RJ0 ∈ TB := tb1 8 rfl rfl
set_option maxRecDepth 100000 in
theorem mfJ0_length_8abf5 : MF mJ0_length_8abf5 0 := ⟨⟨by decide, by decide, by decide +kernel⟩, wi_J0, tb1 220 rfl rfl, by decide⟩
set_option maxRecDepth 100000 in
theorem mfJ0_charAt_5068e : MF mJ0_charAt_5068e 1 := ⟨⟨by decide, by decide, by decide +kernel⟩, wi_J0, tb1 230 rfl rfl, by decide⟩
set_option maxRecDepth 100000 in
theorem mfJ0_indexOf_0f7a4 : MF mJ0_indexOf_0f7a4 1 := ⟨⟨by decide, by decide, by decide +kernel⟩, wi_J0, tb3 144 rfl rfl, by decide⟩
set_option maxRecDepth 100000 in
theorem mfJ0_indexOf_7cf53 : MF mJ0_indexOf_7cf53 2 := ⟨⟨by decide, by decide, by decide +kernel⟩, wi_J0, tb3 148 rfl rfl, by decide⟩
set_option maxRecDepth 100000 in
theorem mfJ0_coder_7d493 : MF mJ0_coder_7d493 0 := ⟨⟨by decide, by decide, by decide +kernel⟩, wi_J0, tb1 224 rfl rfl, by decide⟩
set_option maxRecDepth 100000 in
theorem mfJ0_isLatin1_aae02 : MF mJ0_isLatin1_aae02 0 := ⟨⟨by decide, by decide, by decide +kernel⟩, wi_J0, tb1 234 rfl rfl, by decide⟩
set_option maxRecDepth 100000 in
theorem mfJ0_checkIndex_df160 : MF mJ0_checkIndex_df160 2 := ⟨⟨by decide, by decide, by decide +kernel⟩, wi_J0, tb2 0 rfl rfl, by decide⟩
set_option maxRecDepth 100000 in
theorem mSJ0_checkIndex_df160 : MFS mJ0_checkIndex_df160 2 := ⟨mfJ0_checkIndex_df160, tb1 239 rfl rfl⟩
set_option maxRecDepth 100000 in
theorem mfJ0_checkBoundsBeginEnd_23922 : MF mJ0_checkBoundsBeginEnd_23922 3 := ⟨⟨by decide, by decide, by decide +kernel⟩, wi_J0, tb3 175 rfl rfl, by decide⟩
set_option maxRecDepth 100000 in
theorem mSJ0_checkBoundsBeginEnd_23922 : MFS mJ0_checkBoundsBeginEnd_23922 3 := ⟨mfJ0_checkBoundsBeginEnd_23922, tb3 174 rfl rfl⟩
set_option maxRecDepth 100000 in
theorem wi_J1 : Cond.initialized RJ1 ∈ TB := tb1 9 rfl rfl
set_option maxRecDepth 100000 in
theorem mfJ1_charAt_3b067 : MF mJ1_charAt_3b067 2 := ⟨⟨by decide, by decide, by decide +kernel⟩, wi_J1, tb1 237 rfl rfl, by decide⟩
set_option maxRecDepth 100000 in
theorem mSJ1_charAt_3b067 : MFS mJ1_charAt_3b067 2 := ⟨mfJ1_charAt_3b067, tb1 236 rfl rfl⟩
set_option maxRecDepth 100000 in
theorem mfJ1_canEncode_9a6ad : MF mJ1_canEncode_9a6ad 1 := ⟨⟨by decide, by decide, by decide +kernel⟩, wi_J1, tb3 155 rfl rfl, by decide⟩
set_option maxRecDepth 100000 in
theorem mSJ1_canEncode_9a6ad : MFS mJ1_canEncode_9a6ad 1 := ⟨mfJ1_canEncode_9a6ad, tb3 154 rfl rfl⟩
set_option maxRecDepth 100000 in
theorem mfJ1_indexOf_4cfef : MF mJ1_indexOf_4cfef 4 := ⟨⟨by decide, by decide, by decide +kernel⟩, wi_J1, tb3 152 rfl rfl, by decide⟩
set_option maxRecDepth 100000 in
theorem mSJ1_indexOf_4cfef : MFS mJ1_indexOf_4cfef 4 := ⟨mfJ1_indexOf_4cfef, tb3 151 rfl rfl⟩
set_option maxRecDepth 100000 in
theorem mfJ1_indexOfChar_4cfef : MF mJ1_indexOfChar_4cfef 4 := ⟨⟨by decide, by decide, by decide +kernel⟩, wi_J1, tb3 160 rfl rfl, by decide⟩
set_option maxRecDepth 100000 in
theorem mSJ1_indexOfChar_4cfef : MFS mJ1_indexOfChar_4cfef 4 := ⟨mfJ1_indexOfChar_4cfef, tb3 159 rfl rfl⟩
set_option maxRecDepth 100000 in
theorem wi_J2 : Cond.initialized RJ2 ∈ TB := tb1 11 rfl rfl
set_option maxRecDepth 100000 in
theorem mfJ2_getChar_3b067 : MF mJ2_getChar_3b067 2 := ⟨⟨by decide, by decide, by decide +kernel⟩, wi_J2, tb2 18 rfl rfl, by decide⟩
set_option maxRecDepth 100000 in
theorem mSJ2_getChar_3b067 : MFS mJ2_getChar_3b067 2 := ⟨mfJ2_getChar_3b067, tb2 17 rfl rfl⟩
set_option maxRecDepth 100000 in
theorem mfJ2_length_9d52b : MF mJ2_length_9d52b 1 := ⟨⟨by decide, by decide, by decide +kernel⟩, wi_J2, tb2 14 rfl rfl, by decide⟩
set_option maxRecDepth 100000 in
theorem mSJ2_length_9d52b : MFS mJ2_length_9d52b 1 := ⟨mfJ2_length_9d52b, tb2 13 rfl rfl⟩
set_option maxRecDepth 100000 in
theorem mfJ2_indexOf_4cfef : MF mJ2_indexOf_4cfef 4 := ⟨⟨by decide, by decide, by decide +kernel⟩, wi_J2, tb3 163 rfl rfl, by decide⟩
set_option maxRecDepth 100000 in
theorem mSJ2_indexOf_4cfef : MFS mJ2_indexOf_4cfef 4 := ⟨mfJ2_indexOf_4cfef, tb3 162 rfl rfl⟩
set_option maxRecDepth 100000 in
theorem mfJ2_indexOfChar_4cfef : MF mJ2_indexOfChar_4cfef 4 := ⟨⟨by decide, by decide, by decide +kernel⟩, wi_J2, tb3 169 rfl rfl, by decide⟩
set_option maxRecDepth 100000 in
theorem mSJ2_indexOfChar_4cfef : MFS mJ2_indexOfChar_4cfef 4 := ⟨mfJ2_indexOfChar_4cfef, tb3 168 rfl rfl⟩
set_option maxRecDepth 100000 in
theorem mfJ2_indexOfCharUnsafe_4cfef : MF mJ2_indexOfCharUnsafe_4cfef 4 := ⟨⟨by decide, by decide, by decide +kernel⟩, wi_J2, tb3 181 rfl rfl, by decide⟩
set_option maxRecDepth 100000 in
theorem mSJ2_indexOfCharUnsafe_4cfef : MFS mJ2_indexOfCharUnsafe_4cfef 4 := ⟨mfJ2_indexOfCharUnsafe_4cfef, tb3 180 rfl rfl⟩
set_option maxRecDepth 100000 in
theorem mfJ2_indexOfSupplementary_4cfef : MF mJ2_indexOfSupplementary_4cfef 4 := ⟨⟨by decide, by decide, by decide +kernel⟩, wi_J2, tb3 184 rfl rfl, by decide⟩
set_option maxRecDepth 100000 in
theorem mSJ2_indexOfSupplementary_4cfef : MFS mJ2_indexOfSupplementary_4cfef 4 := ⟨mfJ2_indexOfSupplementary_4cfef, tb3 183 rfl rfl⟩
set_option maxRecDepth 100000 in
theorem mfJ2_charAt_3b067 : MF mJ2_charAt_3b067 2 := ⟨⟨by decide, by decide, by decide +kernel⟩, wi_J2, tb2 8 rfl rfl, by decide⟩
set_option maxRecDepth 100000 in
theorem mSJ2_charAt_3b067 : MFS mJ2_charAt_3b067 2 := ⟨mfJ2_charAt_3b067, tb2 7 rfl rfl⟩
set_option maxRecDepth 100000 in
theorem mfJ2_checkIndex_2214a : MF mJ2_checkIndex_2214a 2 := ⟨⟨by decide, by decide, by decide +kernel⟩, wi_J2, tb2 11 rfl rfl, by decide⟩
set_option maxRecDepth 100000 in
theorem mSJ2_checkIndex_2214a : MFS mJ2_checkIndex_2214a 2 := ⟨mfJ2_checkIndex_2214a, tb2 10 rfl rfl⟩
set_option maxRecDepth 100000 in
theorem mfJ2_checkBoundsBeginEnd_d044e : MF mJ2_checkBoundsBeginEnd_d044e 3 := ⟨⟨by decide, by decide, by decide +kernel⟩, wi_J2, tb3 172 rfl rfl, by decide⟩
set_option maxRecDepth 100000 in
theorem mSJ2_checkBoundsBeginEnd_d044e : MFS mJ2_checkBoundsBeginEnd_d044e 3 := ⟨mfJ2_checkBoundsBeginEnd_d044e, tb3 171 rfl rfl⟩
set_option maxRecDepth 100000 in
theorem wi_J7 : Cond.initialized RJ7 ∈ TB := tb1 22 rfl rfl
set_option maxRecDepth 100000 in
theorem mfJ7_fill_d0a16 : MF mJ7_fill_d0a16 2 := ⟨⟨by decide, by decide, by decide +kernel⟩, wi_J7, tb5 152 rfl rfl, by decide⟩
set_option maxRecDepth 100000 in
theorem mSJ7_fill_d0a16 : MFS mJ7_fill_d0a16 2 := ⟨mfJ7_fill_d0a16, tb5 151 rfl rfl⟩
set_option maxRecDepth 100000 in
theorem mfJ7_fill_53178 : MF mJ7_fill_53178 2 := ⟨⟨by decide, by decide, by decide +kernel⟩, wi_J7, tb4 169 rfl rfl, by decide⟩
set_option maxRecDepth 100000 in
theorem mSJ7_fill_53178 : MFS mJ7_fill_53178 2 := ⟨mfJ7_fill_53178, tb4 168 rfl rfl⟩
set_option maxRecDepth 100000 in
theorem wi_J3 : Cond.initialized RJ3 ∈ TB := tb1 10 rfl rfl
set_option maxRecDepth 100000 in
theorem mfJ3_checkIndex_8e157 : MF mJ3_checkIndex_8e157 3 := ⟨⟨by decide, by decide, by decide +kernel⟩, wi_J3, tb2 5 rfl rfl, by decide⟩
set_option maxRecDepth 100000 in
theorem mSJ3_checkIndex_8e157 : MFS mJ3_checkIndex_8e157 3 := ⟨mfJ3_checkIndex_8e157, tb2 4 rfl rfl⟩
set_option maxRecDepth 100000 in
theorem mfJ3_checkFromToIndex_8c36e : MF mJ3_checkFromToIndex_8c36e 4 := ⟨⟨by decide, by decide, by decide +kernel⟩, wi_J3, tb3 178 rfl rfl, by decide⟩
set_option maxRecDepth 100000 in
theorem mSJ3_checkFromToIndex_8c36e : MFS mJ3_checkFromToIndex_8c36e 4 := ⟨mfJ3_checkFromToIndex_8c36e, tb3 177 rfl rfl⟩
set_option maxRecDepth 100000 in
theorem flX8_26 : FL RX8 26 8 0 := ⟨by decide, by decide, tb1 45 rfl rfl⟩
set_option maxRecDepth 100000 in
theorem flX5_51 : FL RX5 51 8 0 := ⟨by decide, by decide, tb1 46 rfl rfl⟩
set_option maxRecDepth 100000 in
theorem flX4_21 : FL RX4 21 8 0 := ⟨by decide, by decide, tb1 47 rfl rfl⟩
set_option maxRecDepth 100000 in
theorem flX11_115 : FL RX11 115 8 0 := ⟨by decide, by decide, tb1 48 rfl rfl⟩
set_option maxRecDepth 100000 in
theorem flX10_75 : FL RX10 75 8 0 := ⟨by decide, by decide, tb1 49 rfl rfl⟩
set_option maxRecDepth 100000 in
theorem flX7_78 : FL RX7 78 8 0 := ⟨by decide, by decide, tb1 50 rfl rfl⟩
set_option maxRecDepth 100000 in
theorem flX8_7 : FL RX8 7 8 1 := ⟨by decide, by decide, tb1 51 rfl rfl⟩
set_option maxRecDepth 100000 in
theorem flX8_13 : FL RX8 13 8 2 := ⟨by decide, by decide, tb1 52 rfl rfl⟩
set_option maxRecDepth 100000 in
theorem flX4_27 : FL RX4 27 8 2 := ⟨by decide, by decide, tb1 53 rfl rfl⟩
set_option maxRecDepth 100000 in
theorem flX5_76 : FL RX5 76 8 2 := ⟨by decide, by decide, tb1 54 rfl rfl⟩
set_option maxRecDepth 100000 in
theorem flX11_130 : FL RX11 130 8 2 := ⟨by decide, by decide, tb1 55 rfl rfl⟩
set_option maxRecDepth 100000 in
theorem flX7_126 : FL RX7 126 8 2 := ⟨by decide, by decide, tb1 56 rfl rfl⟩
set_option maxRecDepth 100000 in
theorem flX8_17 : FL RX8 17 8 3 := ⟨by decide, by decide, tb1 57 rfl rfl⟩
set_option maxRecDepth 100000 in
theorem flX5_79 : FL RX5 79 8 3 := ⟨by decide, by decide, tb1 58 rfl rfl⟩
set_option maxRecDepth 100000 in
theorem flX11_134 : FL RX11 134 8 3 := ⟨by decide, by decide, tb1 59 rfl rfl⟩
set_option maxRecDepth 100000 in
theorem flX7_83 : FL RX7 83 8 3 := ⟨by decide, by decide, tb1 60 rfl rfl⟩
set_option maxRecDepth 100000 in
theorem flX8_20 : FL RX8 20 8 4 := ⟨by decide, by decide, tb1 61 rfl rfl⟩
set_option maxRecDepth 100000 in
theorem flX8_23 : FL RX8 23 8 5 := ⟨by decide, by decide, tb1 62 rfl rfl⟩
set_option maxRecDepth 100000 in
theorem flX1_9 : FL RX1 9 1 0 := ⟨by decide, by decide, tb1 85 rfl rfl⟩
set_option maxRecDepth 100000 in
theorem flX1_15 : FL RX1 15 1 1 := ⟨by decide, by decide, tb1 86 rfl rfl⟩
set_option maxRecDepth 100000 in
theorem flX1_18 : FL RX1 18 1 2 := ⟨by decide, by decide, tb1 87 rfl rfl⟩
set_option maxRecDepth 100000 in
theorem flX1_22 : FL RX1 22 1 3 := ⟨by decide, by decide, tb1 88 rfl rfl⟩
set_option maxRecDepth 100000 in
theorem flX2_53 : FL RX2 53 1 3 := ⟨by decide, by decide, tb1 89 rfl rfl⟩
set_option maxRecDepth 100000 in
theorem flX11_349 : FL RX11 349 1 3 := ⟨by decide, by decide, tb1 90 rfl rfl⟩
set_option maxRecDepth 100000 in
theorem flX1_25 : FL RX1 25 1 4 := ⟨by decide, by decide, tb1 91 rfl rfl⟩
set_option maxRecDepth 100000 in
theorem flX10_101 : FL RX10 101 1 4 := ⟨by decide, by decide, tb1 92 rfl rfl⟩
set_option maxRecDepth 100000 in
theorem flX5_59 : FL RX5 59 5 0 := ⟨by decide, by decide, tb1 142 rfl rfl⟩
set_option maxRecDepth 100000 in
theorem flX6_167 : FL RX6 167 5 0 := ⟨by decide, by decide, tb1 143 rfl rfl⟩
set_option maxRecDepth 100000 in
theorem flX11_336 : FL RX11 336 5 0 := ⟨by decide, by decide, tb1 144 rfl rfl⟩
set_option maxRecDepth 100000 in
theorem flX5_62 : FL RX5 62 5 1 := ⟨by decide, by decide, tb1 145 rfl rfl⟩
set_option maxRecDepth 100000 in
theorem flX6_173 : FL RX6 173 5 1 := ⟨by decide, by decide, tb1 146 rfl rfl⟩
set_option maxRecDepth 100000 in
theorem flX11_339 : FL RX11 339 5 1 := ⟨by decide, by decide, tb1 147 rfl rfl⟩
set_option maxRecDepth 100000 in
theorem flX5_65 : FL RX5 65 5 2 := ⟨by decide, by decide, tb1 148 rfl rfl⟩
set_option maxRecDepth 100000 in
theorem flX3_109 : FL RX3 109 5 2 := ⟨by decide, by decide, tb1 149 rfl rfl⟩
set_option maxRecDepth 100000 in
theorem flX10_149 : FL RX10 149 5 2 := ⟨by decide, by decide, tb1 150 rfl rfl⟩
set_option maxRecDepth 100000 in
theorem flX5_47 : FL RX5 47 5 3 := ⟨by decide, by decide, tb1 151 rfl rfl⟩
set_option maxRecDepth 100000 in
theorem flX6_124 : FL RX6 124 5 3 := ⟨by decide, by decide, tb1 152 rfl rfl⟩
set_option maxRecDepth 100000 in
theorem flX11_333 : FL RX11 333 5 3 := ⟨by decide, by decide, tb1 153 rfl rfl⟩
set_option maxRecDepth 100000 in
theorem flX5_70 : FL RX5 70 5 4 := ⟨by decide, by decide, tb1 154 rfl rfl⟩
set_option maxRecDepth 100000 in
theorem flX3_48 : FL RX3 48 5 4 := ⟨by decide, by decide, tb1 155 rfl rfl⟩
set_option maxRecDepth 100000 in
theorem flX10_55 : FL RX10 55 5 4 := ⟨by decide, by decide, tb1 156 rfl rfl⟩
set_option maxRecDepth 100000 in
theorem flX11_246 : FL RX11 246 5 4 := ⟨by decide, by decide, tb1 157 rfl rfl⟩
set_option maxRecDepth 100000 in
theorem flX5_73 : FL RX5 73 5 5 := ⟨by decide, by decide, tb1 158 rfl rfl⟩
set_option maxRecDepth 100000 in
theorem flX5_14 : FL RX5 14 5 6 := ⟨by decide, by decide, tb1 159 rfl rfl⟩
set_option maxRecDepth 100000 in
theorem flX6_96 : FL RX6 96 5 6 := ⟨by decide, by decide, tb1 160 rfl rfl⟩
set_option maxRecDepth 100000 in
theorem flX11_111 : FL RX11 111 5 6 := ⟨by decide, by decide, tb1 161 rfl rfl⟩
set_option maxRecDepth 100000 in
theorem flX10_71 : FL RX10 71 5 6 := ⟨by decide, by decide, tb1 162 rfl rfl⟩
set_option maxRecDepth 100000 in
theorem flX7_72 : FL RX7 72 5 6 := ⟨by decide, by decide, tb1 163 rfl rfl⟩
set_option maxRecDepth 100000 in
theorem flX5_20 : FL RX5 20 5 7 := ⟨by decide, by decide, tb1 164 rfl rfl⟩
set_option maxRecDepth 100000 in
theorem flX6_105 : FL RX6 105 5 7 := ⟨by decide, by decide, tb1 165 rfl rfl⟩
set_option maxRecDepth 100000 in
theorem flX11_151 : FL RX11 151 5 7 := ⟨by decide, by decide, tb1 166 rfl rfl⟩
set_option maxRecDepth 100000 in
theorem flX10_90 : FL RX10 90 5 7 := ⟨by decide, by decide, tb1 167 rfl rfl⟩
set_option maxRecDepth 100000 in
theorem flX7_116 : FL RX7 116 5 7 := ⟨by decide, by decide, tb1 168 rfl rfl⟩
set_option maxRecDepth 100000 in
theorem flX5_23 : FL RX5 23 5 8 := ⟨by decide, by decide, tb1 169 rfl rfl⟩
set_option maxRecDepth 100000 in
theorem flX4_15 : FL RX4 15 5 8 := ⟨by decide, by decide, tb1 170 rfl rfl⟩
set_option maxRecDepth 100000 in
theorem flX6_108 : FL RX6 108 5 8 := ⟨by decide, by decide, tb1 171 rfl rfl⟩
set_option maxRecDepth 100000 in
theorem flX11_157 : FL RX11 157 5 8 := ⟨by decide, by decide, tb1 172 rfl rfl⟩
set_option maxRecDepth 100000 in
theorem flX6_17 : FL RX6 17 5 9 := ⟨by decide, by decide, tb1 173 rfl rfl⟩
set_option maxRecDepth 100000 in
theorem flX5_29 : FL RX5 29 5 9 := ⟨by decide, by decide, tb1 174 rfl rfl⟩
set_option maxRecDepth 100000 in
theorem flX3_90 : FL RX3 90 5 9 := ⟨by decide, by decide, tb1 175 rfl rfl⟩
set_option maxRecDepth 100000 in
theorem flX11_173 : FL RX11 173 5 9 := ⟨by decide, by decide, tb1 176 rfl rfl⟩
set_option maxRecDepth 100000 in
theorem flX7_86 : FL RX7 86 5 9 := ⟨by decide, by decide, tb1 177 rfl rfl⟩
set_option maxRecDepth 100000 in
theorem flX10_97 : FL RX10 97 5 9 := ⟨by decide, by decide, tb1 178 rfl rfl⟩
set_option maxRecDepth 100000 in
theorem flX5_56 : FL RX5 56 5 10 := ⟨by decide, by decide, tb1 179 rfl rfl⟩
set_option maxRecDepth 100000 in
theorem flX6_160 : FL RX6 160 5 10 := ⟨by decide, by decide, tb1 180 rfl rfl⟩
set_option maxRecDepth 100000 in
theorem flX10_110 : FL RX10 110 5 10 := ⟨by decide, by decide, tb1 181 rfl rfl⟩
set_option maxRecDepth 100000 in
theorem flX5_33 : FL RX5 33 5 11 := ⟨by decide, by decide, tb1 182 rfl rfl⟩
set_option maxRecDepth 100000 in
theorem flX9_15 : FL RX9 15 9 0 := ⟨by decide, by decide, tb2 29 rfl rfl⟩
set_option maxRecDepth 100000 in
theorem flX9_9 : FL RX9 9 9 1 := ⟨by decide, by decide, tb2 30 rfl rfl⟩
set_option maxRecDepth 100000 in
theorem flX9_41 : FL RX9 41 9 2 := ⟨by decide, by decide, tb2 31 rfl rfl⟩
set_option maxRecDepth 100000 in
theorem flX9_44 : FL RX9 44 9 3 := ⟨by decide, by decide, tb2 32 rfl rfl⟩
set_option maxRecDepth 100000 in
theorem flX6_57 : FL RX6 57 9 4 := ⟨by decide, by decide, tb2 33 rfl rfl⟩
set_option maxRecDepth 100000 in
theorem flX2_26 : FL RX2 26 9 4 := ⟨by decide, by decide, tb2 34 rfl rfl⟩
set_option maxRecDepth 100000 in
theorem flX9_67 : FL RX9 67 9 4 := ⟨by decide, by decide, tb2 35 rfl rfl⟩
set_option maxRecDepth 100000 in
theorem flX9_50 : FL RX9 50 9 5 := ⟨by decide, by decide, tb2 36 rfl rfl⟩
set_option maxRecDepth 100000 in
theorem flX6_182 : FL RX6 182 9 5 := ⟨by decide, by decide, tb2 37 rfl rfl⟩
set_option maxRecDepth 100000 in
theorem flX9_57 : FL RX9 57 9 6 := ⟨by decide, by decide, tb2 38 rfl rfl⟩
set_option maxRecDepth 100000 in
theorem flX2_56 : FL RX2 56 9 6 := ⟨by decide, by decide, tb2 39 rfl rfl⟩
set_option maxRecDepth 100000 in
theorem flX6_170 : FL RX6 170 9 6 := ⟨by decide, by decide, tb2 40 rfl rfl⟩
set_option maxRecDepth 100000 in
theorem flX9_53 : FL RX9 53 9 7 := ⟨by decide, by decide, tb2 41 rfl rfl⟩
set_option maxRecDepth 100000 in
theorem flX6_140 : FL RX6 140 9 7 := ⟨by decide, by decide, tb2 42 rfl rfl⟩
set_option maxRecDepth 100000 in
theorem flX2_9 : FL RX2 9 2 0 := ⟨by decide, by decide, tb2 70 rfl rfl⟩
set_option maxRecDepth 100000 in
theorem flX2_15 : FL RX2 15 2 1 := ⟨by decide, by decide, tb2 71 rfl rfl⟩
set_option maxRecDepth 100000 in
theorem flX6_9 : FL RX6 9 6 0 := ⟨by decide, by decide, tb2 77 rfl rfl⟩
set_option maxRecDepth 100000 in
theorem flX6_26 : FL RX6 26 6 1 := ⟨by decide, by decide, tb2 78 rfl rfl⟩
set_option maxRecDepth 100000 in
theorem flX6_30 : FL RX6 30 6 2 := ⟨by decide, by decide, tb2 79 rfl rfl⟩
set_option maxRecDepth 100000 in
theorem flX6_114 : FL RX6 114 6 3 := ⟨by decide, by decide, tb2 80 rfl rfl⟩
set_option maxRecDepth 100000 in
theorem flX6_137 : FL RX6 137 6 4 := ⟨by decide, by decide, tb2 81 rfl rfl⟩
set_option maxRecDepth 100000 in
theorem flX6_147 : FL RX6 147 6 5 := ⟨by decide, by decide, tb2 82 rfl rfl⟩
set_option maxRecDepth 100000 in
theorem flX6_41 : FL RX6 41 6 6 := ⟨by decide, by decide, tb2 83 rfl rfl⟩
set_option maxRecDepth 100000 in
theorem flX6_45 : FL RX6 45 6 7 := ⟨by decide, by decide, tb2 84 rfl rfl⟩
set_option maxRecDepth 100000 in
theorem flX6_48 : FL RX6 48 6 8 := ⟨by decide, by decide, tb2 85 rfl rfl⟩
set_option maxRecDepth 100000 in
theorem flX11_120 : FL RX11 120 6 8 := ⟨by decide, by decide, tb2 86 rfl rfl⟩
set_option maxRecDepth 100000 in
theorem flX6_34 : FL RX6 34 6 9 := ⟨by decide, by decide, tb2 87 rfl rfl⟩
set_option maxRecDepth 100000 in
theorem flX11_123 : FL RX11 123 6 9 := ⟨by decide, by decide, tb2 88 rfl rfl⟩
set_option maxRecDepth 100000 in
theorem flX4_9 : FL RX4 9 4 0 := ⟨by decide, by decide, tb2 116 rfl rfl⟩
set_option maxRecDepth 100000 in
theorem flX11_160 : FL RX11 160 4 0 := ⟨by decide, by decide, tb2 117 rfl rfl⟩
set_option maxRecDepth 100000 in
theorem flX4_30 : FL RX4 30 4 1 := ⟨by decide, by decide, tb2 118 rfl rfl⟩
set_option maxRecDepth 100000 in
theorem flX11_163 : FL RX11 163 4 1 := ⟨by decide, by decide, tb2 119 rfl rfl⟩
set_option maxRecDepth 100000 in
theorem flX4_33 : FL RX4 33 4 2 := ⟨by decide, by decide, tb2 120 rfl rfl⟩
set_option maxRecDepth 100000 in
theorem flX7_30 : FL RX7 30 4 2 := ⟨by decide, by decide, tb2 121 rfl rfl⟩
set_option maxRecDepth 100000 in
theorem flX11_145 : FL RX11 145 4 2 := ⟨by decide, by decide, tb2 122 rfl rfl⟩
set_option maxRecDepth 100000 in
theorem flX4_36 : FL RX4 36 4 3 := ⟨by decide, by decide, tb2 123 rfl rfl⟩
set_option maxRecDepth 100000 in
theorem flX7_46 : FL RX7 46 4 3 := ⟨by decide, by decide, tb2 124 rfl rfl⟩
set_option maxRecDepth 100000 in
theorem flX11_154 : FL RX11 154 4 3 := ⟨by decide, by decide, tb2 125 rfl rfl⟩
set_option maxRecDepth 100000 in
theorem flX4_39 : FL RX4 39 4 4 := ⟨by decide, by decide, tb2 126 rfl rfl⟩
set_option maxRecDepth 100000 in
theorem flX7_51 : FL RX7 51 4 4 := ⟨by decide, by decide, tb2 127 rfl rfl⟩
set_option maxRecDepth 100000 in
theorem flX11_209 : FL RX11 209 4 4 := ⟨by decide, by decide, tb2 128 rfl rfl⟩
set_option maxRecDepth 100000 in
theorem flX4_43 : FL RX4 43 4 5 := ⟨by decide, by decide, tb2 129 rfl rfl⟩
set_option maxRecDepth 100000 in
theorem flX7_40 : FL RX7 40 4 5 := ⟨by decide, by decide, tb2 130 rfl rfl⟩
set_option maxRecDepth 100000 in
theorem flX11_170 : FL RX11 170 4 5 := ⟨by decide, by decide, tb2 131 rfl rfl⟩
set_option maxRecDepth 100000 in
theorem flX0_9 : FL RX0 9 0 0 := ⟨by decide, by decide, tb2 155 rfl rfl⟩
set_option maxRecDepth 100000 in
theorem flX0_15 : FL RX0 15 0 1 := ⟨by decide, by decide, tb2 156 rfl rfl⟩
set_option maxRecDepth 100000 in
theorem flX11_342 : FL RX11 342 0 1 := ⟨by decide, by decide, tb2 157 rfl rfl⟩
set_option maxRecDepth 100000 in
theorem flX0_19 : FL RX0 19 0 2 := ⟨by decide, by decide, tb2 158 rfl rfl⟩
set_option maxRecDepth 100000 in
theorem flX11_345 : FL RX11 345 0 2 := ⟨by decide, by decide, tb2 159 rfl rfl⟩
set_option maxRecDepth 100000 in
theorem flX7_22 : FL RX7 22 7 0 := ⟨by decide, by decide, tb2 181 rfl rfl⟩
set_option maxRecDepth 100000 in
theorem flX10_51 : FL RX10 51 7 0 := ⟨by decide, by decide, tb2 182 rfl rfl⟩
set_option maxRecDepth 100000 in
theorem flX7_37 : FL RX7 37 7 1 := ⟨by decide, by decide, tb2 183 rfl rfl⟩
set_option maxRecDepth 100000 in
theorem flX7_36 : FL RX7 36 7 2 := ⟨by decide, by decide, tb2 184 rfl rfl⟩
set_option maxRecDepth 100000 in
theorem flX7_43 : FL RX7 43 7 3 := ⟨by decide, by decide, tb2 185 rfl rfl⟩
set_option maxRecDepth 100000 in
theorem flX7_54 : FL RX7 54 7 4 := ⟨by decide, by decide, tb2 186 rfl rfl⟩
set_option maxRecDepth 100000 in
theorem flX7_47 : FL RX7 47 7 5 := ⟨by decide, by decide, tb2 187 rfl rfl⟩
set_option maxRecDepth 100000 in
theorem flX7_26 : FL RX7 26 7 6 := ⟨by decide, by decide, tb2 188 rfl rfl⟩
set_option maxRecDepth 100000 in
theorem flX7_9 : FL RX7 9 7 7 := ⟨by decide, by decide, tb2 189 rfl rfl⟩
set_option maxRecDepth 100000 in
theorem flX7_15 : FL RX7 15 7 8 := ⟨by decide, by decide, tb2 190 rfl rfl⟩
set_option maxRecDepth 100000 in
theorem flX7_19 : FL RX7 19 7 9 := ⟨by decide, by decide, tb2 191 rfl rfl⟩
set_option maxRecDepth 100000 in
theorem flX10_25 : FL RX10 25 10 0 := ⟨by decide, by decide, tb2 219 rfl rfl⟩
set_option maxRecDepth 100000 in
theorem flX10_9 : FL RX10 9 10 1 := ⟨by decide, by decide, tb2 220 rfl rfl⟩
set_option maxRecDepth 100000 in
theorem flX11_300 : FL RX11 300 10 1 := ⟨by decide, by decide, tb2 221 rfl rfl⟩
set_option maxRecDepth 100000 in
theorem flX10_29 : FL RX10 29 10 2 := ⟨by decide, by decide, tb2 222 rfl rfl⟩
set_option maxRecDepth 100000 in
theorem flX11_297 : FL RX11 297 10 2 := ⟨by decide, by decide, tb2 223 rfl rfl⟩
set_option maxRecDepth 100000 in
theorem flX10_45 : FL RX10 45 10 3 := ⟨by decide, by decide, tb2 224 rfl rfl⟩
set_option maxRecDepth 100000 in
theorem flX11_240 : FL RX11 240 10 3 := ⟨by decide, by decide, tb2 225 rfl rfl⟩
set_option maxRecDepth 100000 in
theorem flX10_48 : FL RX10 48 10 4 := ⟨by decide, by decide, tb2 226 rfl rfl⟩
set_option maxRecDepth 100000 in
theorem flX11_243 : FL RX11 243 10 4 := ⟨by decide, by decide, tb2 227 rfl rfl⟩
set_option maxRecDepth 100000 in
theorem flX10_142 : FL RX10 142 10 5 := ⟨by decide, by decide, tb2 228 rfl rfl⟩
set_option maxRecDepth 100000 in
theorem flX11_287 : FL RX11 287 10 5 := ⟨by decide, by decide, tb2 229 rfl rfl⟩
set_option maxRecDepth 100000 in
theorem flX10_123 : FL RX10 123 10 6 := ⟨by decide, by decide, tb2 230 rfl rfl⟩
set_option maxRecDepth 100000 in
theorem flX11_290 : FL RX11 290 10 6 := ⟨by decide, by decide, tb2 231 rfl rfl⟩
set_option maxRecDepth 100000 in
theorem flX10_15 : FL RX10 15 10 7 := ⟨by decide, by decide, tb2 232 rfl rfl⟩
set_option maxRecDepth 100000 in
theorem flX10_19 : FL RX10 19 10 8 := ⟨by decide, by decide, tb2 233 rfl rfl⟩
set_option maxRecDepth 100000 in
theorem flX10_22 : FL RX10 22 10 9 := ⟨by decide, by decide, tb2 234 rfl rfl⟩
set_option maxRecDepth 100000 in
theorem flX3_31 : FL RX3 31 3 0 := ⟨by decide, by decide, tb3 22 rfl rfl⟩
set_option maxRecDepth 100000 in
theorem flX11_348 : FL RX11 348 3 0 := ⟨by decide, by decide, tb3 23 rfl rfl⟩
set_option maxRecDepth 100000 in
theorem flX3_41 : FL RX3 41 3 1 := ⟨by decide, by decide, tb3 24 rfl rfl⟩
set_option maxRecDepth 100000 in
theorem flX11_310 : FL RX11 310 3 1 := ⟨by decide, by decide, tb3 25 rfl rfl⟩
set_option maxRecDepth 100000 in
theorem flX3_125 : FL RX3 125 3 2 := ⟨by decide, by decide, tb3 26 rfl rfl⟩
set_option maxRecDepth 100000 in
theorem flX11_327 : FL RX11 327 3 2 := ⟨by decide, by decide, tb3 27 rfl rfl⟩
set_option maxRecDepth 100000 in
theorem flX3_106 : FL RX3 106 3 3 := ⟨by decide, by decide, tb3 28 rfl rfl⟩
set_option maxRecDepth 100000 in
theorem flX11_330 : FL RX11 330 3 3 := ⟨by decide, by decide, tb3 29 rfl rfl⟩
set_option maxRecDepth 100000 in
theorem flX3_9 : FL RX3 9 3 4 := ⟨by decide, by decide, tb3 30 rfl rfl⟩
set_option maxRecDepth 100000 in
theorem flX3_15 : FL RX3 15 3 5 := ⟨by decide, by decide, tb3 31 rfl rfl⟩
set_option maxRecDepth 100000 in
theorem flX3_18 : FL RX3 18 3 6 := ⟨by decide, by decide, tb3 32 rfl rfl⟩
set_option maxRecDepth 100000 in
theorem flX3_21 : FL RX3 21 3 7 := ⟨by decide, by decide, tb3 33 rfl rfl⟩
set_option maxRecDepth 100000 in
theorem flX3_35 : FL RX3 35 3 8 := ⟨by decide, by decide, tb3 34 rfl rfl⟩
set_option maxRecDepth 100000 in
theorem flX3_38 : FL RX3 38 3 9 := ⟨by decide, by decide, tb3 35 rfl rfl⟩
set_option maxRecDepth 100000 in
theorem flX3_24 : FL RX3 24 3 10 := ⟨by decide, by decide, tb3 36 rfl rfl⟩
set_option maxRecDepth 100000 in
theorem flX3_28 : FL RX3 28 3 11 := ⟨by decide, by decide, tb3 37 rfl rfl⟩
set_option maxRecDepth 100000 in
theorem flX11_9 : FL RX11 9 11 0 := ⟨by decide, by decide, tb3 63 rfl rfl⟩
set_option maxRecDepth 100000 in
theorem flX11_90 : FL RX11 90 11 1 := ⟨by decide, by decide, tb3 64 rfl rfl⟩
set_option maxRecDepth 100000 in
theorem flX11_33 : FL RX11 33 11 2 := ⟨by decide, by decide, tb3 65 rfl rfl⟩
set_option maxRecDepth 100000 in
theorem flX11_16 : FL RX11 16 11 3 := ⟨by decide, by decide, tb3 66 rfl rfl⟩
set_option maxRecDepth 100000 in
theorem flX11_20 : FL RX11 20 11 4 := ⟨by decide, by decide, tb3 67 rfl rfl⟩
set_option maxRecDepth 100000 in
theorem flX11_40 : FL RX11 40 11 5 := ⟨by decide, by decide, tb3 68 rfl rfl⟩
set_option maxRecDepth 100000 in
theorem flX11_51 : FL RX11 51 11 6 := ⟨by decide, by decide, tb3 69 rfl rfl⟩
set_option maxRecDepth 100000 in
theorem flX11_62 : FL RX11 62 11 7 := ⟨by decide, by decide, tb3 70 rfl rfl⟩
set_option maxRecDepth 100000 in
theorem flX11_102 : FL RX11 102 11 8 := ⟨by decide, by decide, tb3 71 rfl rfl⟩
set_option maxRecDepth 100000 in
theorem flX11_70 : FL RX11 70 11 9 := ⟨by decide, by decide, tb3 72 rfl rfl⟩
set_option maxRecDepth 100000 in
theorem flX11_79 : FL RX11 79 11 10 := ⟨by decide, by decide, tb3 73 rfl rfl⟩
set_option maxRecDepth 100000 in
theorem flX11_86 : FL RX11 86 11 11 := ⟨by decide, by decide, tb3 74 rfl rfl⟩
set_option maxRecDepth 100000 in
theorem flX12_7 : FL RX12 7 12 0 := ⟨by decide, by decide, tb6 54 rfl rfl⟩
set_option maxRecDepth 100000 in
theorem flX12_148 : FL RX12 148 12 1 := ⟨by decide, by decide, tb6 55 rfl rfl⟩
set_option maxRecDepth 100000 in
theorem flX12_188 : FL RX12 188 12 2 := ⟨by decide, by decide, tb6 56 rfl rfl⟩
set_option maxRecDepth 100000 in
theorem flX12_13 : FL RX12 13 12 3 := ⟨by decide, by decide, tb6 57 rfl rfl⟩
set_option maxRecDepth 100000 in
theorem flX12_155 : FL RX12 155 12 4 := ⟨by decide, by decide, tb6 58 rfl rfl⟩
set_option maxRecDepth 100000 in
theorem flX12_158 : FL RX12 158 12 5 := ⟨by decide, by decide, tb6 59 rfl rfl⟩
set_option maxRecDepth 100000 in
theorem flX12_175 : FL RX12 175 12 6 := ⟨by decide, by decide, tb6 60 rfl rfl⟩
set_option maxRecDepth 100000 in
theorem flX12_165 : FL RX12 165 12 7 := ⟨by decide, by decide, tb6 61 rfl rfl⟩
set_option maxRecDepth 100000 in
theorem flX12_172 : FL RX12 172 12 8 := ⟨by decide, by decide, tb6 62 rfl rfl⟩
set_option maxRecDepth 100000 in
theorem flX12_168 : FL RX12 168 12 9 := ⟨by decide, by decide, tb6 63 rfl rfl⟩
set_option maxRecDepth 100000 in
theorem flX12_17 : FL RX12 17 12 10 := ⟨by decide, by decide, tb6 64 rfl rfl⟩
set_option maxRecDepth 100000 in
theorem flX12_21 : FL RX12 21 12 11 := ⟨by decide, by decide, tb6 65 rfl rfl⟩
set_option maxRecDepth 100000 in
theorem flX12_24 : FL RX12 24 12 12 := ⟨by decide, by decide, tb6 66 rfl rfl⟩
set_option maxRecDepth 100000 in
theorem flX12_27 : FL RX12 27 12 13 := ⟨by decide, by decide, tb6 67 rfl rfl⟩
set_option maxRecDepth 100000 in
theorem flX12_30 : FL RX12 30 12 14 := ⟨by decide, by decide, tb6 68 rfl rfl⟩
set_option maxRecDepth 100000 in
theorem flX12_33 : FL RX12 33 12 15 := ⟨by decide, by decide, tb6 69 rfl rfl⟩
set_option maxRecDepth 100000 in
theorem flX12_36 : FL RX12 36 12 16 := ⟨by decide, by decide, tb6 70 rfl rfl⟩
set_option maxRecDepth 100000 in
theorem flX12_261 : FL RX12 261 12 17 := ⟨by decide, by decide, tb6 71 rfl rfl⟩
set_option maxRecDepth 100000 in
theorem flX12_317 : FL RX12 317 12 18 := ⟨by decide, by decide, tb6 72 rfl rfl⟩
set_option maxRecDepth 100000 in
theorem flX12_264 : FL RX12 264 12 19 := ⟨by decide, by decide, tb6 73 rfl rfl⟩
set_option maxRecDepth 100000 in
theorem flX12_276 : FL RX12 276 12 20 := ⟨by decide, by decide, tb6 74 rfl rfl⟩
set_option maxRecDepth 100000 in
theorem flX12_421 : FL RX12 421 12 21 := ⟨by decide, by decide, tb6 75 rfl rfl⟩
set_option maxRecDepth 100000 in
theorem flX12_279 : FL RX12 279 12 22 := ⟨by decide, by decide, tb6 76 rfl rfl⟩
set_option maxRecDepth 100000 in
theorem flX12_273 : FL RX12 273 12 23 := ⟨by decide, by decide, tb6 77 rfl rfl⟩
set_option maxRecDepth 100000 in
theorem flX12_39 : FL RX12 39 12 24 := ⟨by decide, by decide, tb6 78 rfl rfl⟩
set_option maxRecDepth 100000 in
theorem flX12_42 : FL RX12 42 12 25 := ⟨by decide, by decide, tb6 79 rfl rfl⟩
set_option maxRecDepth 100000 in
theorem flX12_45 : FL RX12 45 12 26 := ⟨by decide, by decide, tb6 80 rfl rfl⟩
set_option maxRecDepth 100000 in
theorem flX12_48 : FL RX12 48 12 27 := ⟨by decide, by decide, tb6 81 rfl rfl⟩
set_option maxRecDepth 100000 in
theorem flX12_51 : FL RX12 51 12 28 := ⟨by decide, by decide, tb6 82 rfl rfl⟩
set_option maxRecDepth 100000 in
theorem flX12_54 : FL RX12 54 12 29 := ⟨by decide, by decide, tb6 83 rfl rfl⟩
set_option maxRecDepth 100000 in
theorem flX12_57 : FL RX12 57 12 30 := ⟨by decide, by decide, tb6 84 rfl rfl⟩
set_option maxRecDepth 100000 in
theorem flX12_60 : FL RX12 60 12 31 := ⟨by decide, by decide, tb6 85 rfl rfl⟩
set_option maxRecDepth 100000 in
theorem flX12_63 : FL RX12 63 12 32 := ⟨by decide, by decide, tb6 86 rfl rfl⟩
set_option maxRecDepth 100000 in
theorem flX12_66 : FL RX12 66 12 33 := ⟨by decide, by decide, tb6 87 rfl rfl⟩
set_option maxRecDepth 100000 in
theorem flX12_69 : FL RX12 69 12 34 := ⟨by decide, by decide, tb6 88 rfl rfl⟩
set_option maxRecDepth 100000 in
theorem flX12_72 : FL RX12 72 12 35 := ⟨by decide, by decide, tb6 89 rfl rfl⟩
set_option maxRecDepth 100000 in
theorem flX12_75 : FL RX12 75 12 36 := ⟨by decide, by decide, tb6 90 rfl rfl⟩
set_option maxRecDepth 100000 in
theorem flX12_78 : FL RX12 78 12 37 := ⟨by decide, by decide, tb6 91 rfl rfl⟩
set_option maxRecDepth 100000 in
theorem flX12_81 : FL RX12 81 12 38 := ⟨by decide, by decide, tb6 92 rfl rfl⟩
set_option maxRecDepth 100000 in
theorem flX12_84 : FL RX12 84 12 39 := ⟨by decide, by decide, tb6 93 rfl rfl⟩
set_option maxRecDepth 100000 in
theorem flX12_87 : FL RX12 87 12 40 := ⟨by decide, by decide, tb6 94 rfl rfl⟩
set_option maxRecDepth 100000 in
theorem flX12_337 : FL RX12 337 12 41 := ⟨by decide, by decide, tb6 95 rfl rfl⟩
set_option maxRecDepth 100000 in
theorem flX12_340 : FL RX12 340 12 42 := ⟨by decide, by decide, tb6 96 rfl rfl⟩
set_option maxRecDepth 100000 in
theorem flX12_353 : FL RX12 353 12 43 := ⟨by decide, by decide, tb6 97 rfl rfl⟩
set_option maxRecDepth 100000 in
theorem flX12_403 : FL RX12 403 12 44 := ⟨by decide, by decide, tb6 98 rfl rfl⟩
set_option maxRecDepth 100000 in
theorem flX12_324 : FL RX12 324 12 45 := ⟨by decide, by decide, tb6 99 rfl rfl⟩
set_option maxRecDepth 100000 in
theorem flX12_327 : FL RX12 327 12 46 := ⟨by decide, by decide, tb6 100 rfl rfl⟩
set_option maxRecDepth 100000 in
theorem flX12_334 : FL RX12 334 12 47 := ⟨by decide, by decide, tb6 101 rfl rfl⟩
set_option maxRecDepth 100000 in
theorem flX12_347 : FL RX12 347 12 48 := ⟨by decide, by decide, tb6 102 rfl rfl⟩
set_option maxRecDepth 100000 in
theorem flX12_360 : FL RX12 360 12 49 := ⟨by decide, by decide, tb6 103 rfl rfl⟩
set_option maxRecDepth 100000 in
theorem flX12_363 : FL RX12 363 12 50 := ⟨by decide, by decide, tb6 104 rfl rfl⟩
set_option maxRecDepth 100000 in
theorem flX12_394 : FL RX12 394 12 51 := ⟨by decide, by decide, tb6 105 rfl rfl⟩
set_option maxRecDepth 100000 in
theorem flX12_90 : FL RX12 90 12 52 := ⟨by decide, by decide, tb6 106 rfl rfl⟩
set_option maxRecDepth 100000 in
theorem flX12_93 : FL RX12 93 12 53 := ⟨by decide, by decide, tb6 107 rfl rfl⟩
set_option maxRecDepth 100000 in
theorem flX12_406 : FL RX12 406 12 54 := ⟨by decide, by decide, tb6 108 rfl rfl⟩
set_option maxRecDepth 100000 in
theorem flX12_409 : FL RX12 409 12 55 := ⟨by decide, by decide, tb6 109 rfl rfl⟩
set_option maxRecDepth 100000 in
theorem flX12_412 : FL RX12 412 12 56 := ⟨by decide, by decide, tb6 110 rfl rfl⟩
set_option maxRecDepth 100000 in
theorem flX12_415 : FL RX12 415 12 57 := ⟨by decide, by decide, tb6 111 rfl rfl⟩
set_option maxRecDepth 100000 in
theorem flX12_418 : FL RX12 418 12 58 := ⟨by decide, by decide, tb6 112 rfl rfl⟩
set_option maxRecDepth 100000 in
theorem flX12_366 : FL RX12 366 12 59 := ⟨by decide, by decide, tb6 113 rfl rfl⟩
set_option maxRecDepth 100000 in
theorem flX12_370 : FL RX12 370 12 60 := ⟨by decide, by decide, tb6 114 rfl rfl⟩
set_option maxRecDepth 100000 in
theorem flX12_385 : FL RX12 385 12 61 := ⟨by decide, by decide, tb6 115 rfl rfl⟩
set_option maxRecDepth 100000 in
theorem flX12_391 : FL RX12 391 12 62 := ⟨by decide, by decide, tb6 116 rfl rfl⟩
set_option maxRecDepth 100000 in
theorem flX12_96 : FL RX12 96 12 63 := ⟨by decide, by decide, tb6 117 rfl rfl⟩
set_option maxRecDepth 100000 in
theorem flX12_440 : FL RX12 440 12 64 := ⟨by decide, by decide, tb6 118 rfl rfl⟩
set_option maxRecDepth 100000 in
theorem flX12_443 : FL RX12 443 12 65 := ⟨by decide, by decide, tb6 119 rfl rfl⟩
set_option maxRecDepth 100000 in
theorem flX12_446 : FL RX12 446 12 66 := ⟨by decide, by decide, tb6 120 rfl rfl⟩
set_option maxRecDepth 100000 in
theorem flX12_449 : FL RX12 449 12 67 := ⟨by decide, by decide, tb6 121 rfl rfl⟩
set_option maxRecDepth 100000 in
theorem flX12_452 : FL RX12 452 12 68 := ⟨by decide, by decide, tb6 122 rfl rfl⟩
set_option maxRecDepth 100000 in
theorem flX12_455 : FL RX12 455 12 69 := ⟨by decide, by decide, tb6 123 rfl rfl⟩
set_option maxRecDepth 100000 in
theorem flX12_99 : FL RX12 99 12 70 := ⟨by decide, by decide, tb6 124 rfl rfl⟩
set_option maxRecDepth 100000 in
theorem flX12_102 : FL RX12 102 12 71 := ⟨by decide, by decide, tb6 125 rfl rfl⟩
set_option maxRecDepth 100000 in
theorem flX12_105 : FL RX12 105 12 72 := ⟨by decide, by decide, tb6 126 rfl rfl⟩
set_option maxRecDepth 100000 in
theorem flX12_424 : FL RX12 424 12 73 := ⟨by decide, by decide, tb6 127 rfl rfl⟩
set_option maxRecDepth 100000 in
theorem flX12_427 : FL RX12 427 12 74 := ⟨by decide, by decide, tb6 128 rfl rfl⟩
set_option maxRecDepth 100000 in
theorem flX12_108 : FL RX12 108 12 75 := ⟨by decide, by decide, tb6 129 rfl rfl⟩
set_option maxRecDepth 100000 in
theorem flX12_433 : FL RX12 433 12 76 := ⟨by decide, by decide, tb6 130 rfl rfl⟩
set_option maxRecDepth 100000 in
theorem flX12_111 : FL RX12 111 12 77 := ⟨by decide, by decide, tb6 131 rfl rfl⟩
set_option maxRecDepth 100000 in
theorem flX12_114 : FL RX12 114 12 78 := ⟨by decide, by decide, tb6 132 rfl rfl⟩
set_option maxRecDepth 100000 in
theorem flX12_117 : FL RX12 117 12 79 := ⟨by decide, by decide, tb6 133 rfl rfl⟩
set_option maxRecDepth 100000 in
theorem flX12_120 : FL RX12 120 12 80 := ⟨by decide, by decide, tb6 134 rfl rfl⟩
set_option maxRecDepth 100000 in
theorem flX12_123 : FL RX12 123 12 81 := ⟨by decide, by decide, tb6 135 rfl rfl⟩
set_option maxRecDepth 100000 in
theorem flX12_126 : FL RX12 126 12 82 := ⟨by decide, by decide, tb6 136 rfl rfl⟩
set_option maxRecDepth 100000 in
theorem flX12_129 : FL RX12 129 12 83 := ⟨by decide, by decide, tb6 137 rfl rfl⟩
set_option maxRecDepth 100000 in
theorem flX12_132 : FL RX12 132 12 84 := ⟨by decide, by decide, tb6 138 rfl rfl⟩
set_option maxRecDepth 100000 in
theorem flX12_135 : FL RX12 135 12 85 := ⟨by decide, by decide, tb6 139 rfl rfl⟩
set_option maxRecDepth 100000 in
theorem flX12_430 : FL RX12 430 12 86 := ⟨by decide, by decide, tb6 140 rfl rfl⟩
set_option maxRecDepth 100000 in
theorem flX12_571 : FL RX12 571 12 87 := ⟨by decide, by decide, tb6 141 rfl rfl⟩
set_option maxRecDepth 100000 in
theorem flX12_139 : FL RX12 139 12 88 := ⟨by decide, by decide, tb6 142 rfl rfl⟩
set_option maxRecDepth 100000 in
theorem flX12_582 : FL RX12 582 12 89 := ⟨by decide, by decide, tb6 143 rfl rfl⟩
set_option maxRecDepth 100000 in
theorem flX12_142 : FL RX12 142 12 90 := ⟨by decide, by decide, tb6 144 rfl rfl⟩
set_option maxRecDepth 100000 in
theorem flX12_145 : FL RX12 145 12 91 := ⟨by decide, by decide, tb6 145 rfl rfl⟩
set_option maxRecDepth 100000 in
theorem nlL_7 : NL RL 7 11 := ⟨by decide, tb1 25 rfl rfl, tb1 26 rfl rfl, wi_X11⟩
set_option maxRecDepth 100000 in
theorem mlL_9 : Cond.methodLink RL 9 yX11_init ∈ TB := tb1 27 rfl rfl
set_option maxRecDepth 100000 in
theorem mlX11_3 : Cond.methodLink RX11 3 Lib.objectInit ∈ TB := tb1 30 rfl rfl
set_option maxRecDepth 100000 in
theorem nlX11_13 : NL RX11 13 5 := ⟨by decide, tb1 33 rfl rfl, tb1 34 rfl rfl, wi_X5⟩
set_option maxRecDepth 100000 in
theorem mlX11_15 : Cond.methodLink RX11 15 yX5_init ∈ TB := tb1 35 rfl rfl
set_option maxRecDepth 100000 in
theorem mlX5_3 : Cond.methodLink RX5 3 Lib.objectInit ∈ TB := tb1 38 rfl rfl
set_option maxRecDepth 100000 in
theorem nlX5_9 : NL RX5 9 8 := ⟨by decide, tb1 39 rfl rfl, tb1 40 rfl rfl, wi_X8⟩
set_option maxRecDepth 100000 in
theorem mlX5_11 : Cond.methodLink RX5 11 yX8_init ∈ TB := tb1 41 rfl rfl
set_option maxRecDepth 100000 in
theorem mlX8_1 : Cond.methodLink RX8 1 Lib.objectInit ∈ TB := tb1 44 rfl rfl
set_option maxRecDepth 100000 in
theorem nlX5_26 : NL RX5 26 1 := ⟨by decide, tb1 79 rfl rfl, tb1 80 rfl rfl, wi_X1⟩
set_option maxRecDepth 100000 in
theorem mlX1_3 : Cond.methodLink RX1 3 Lib.objectInit ∈ TB := tb1 84 rfl rfl
set_option maxRecDepth 100000 in
theorem mlX5_37 : Cond.methodLink RX5 37 yX5_clear ∈ TB := tb1 104 rfl rfl
set_option maxRecDepth 100000 in
theorem mlX5_43 : Cond.methodLink RX5 43 yX5_setSize ∈ TB := tb1 108 rfl rfl
set_option maxRecDepth 100000 in
theorem mlX5_55 : Cond.methodLink RX5 55 yX1_clear ∈ TB := tb1 112 rfl rfl
set_option maxRecDepth 100000 in
theorem mlX5_40 : Cond.methodLink RX5 40 yX5_settle ∈ TB := tb1 116 rfl rfl
set_option maxRecDepth 100000 in
theorem mlX5_82 : Cond.methodLink RX5 82 yX5_castBy ∈ TB := tb1 121 rfl rfl
set_option maxRecDepth 100000 in
theorem mlX5_99 : Cond.methodLink RX5 99 yX5_rowBits ∈ TB := tb1 125 rfl rfl
set_option maxRecDepth 100000 in
theorem mlX5_86 : Cond.methodLink RX5 86 yJ9_min_7cf53 ∈ TB := tb1 129 rfl rfl
set_option maxRecDepth 100000 in
theorem mlX5_92 : Cond.methodLink RX5 92 yJ9_max_7cf53 ∈ TB := tb1 132 rfl rfl
set_option maxRecDepth 100000 in
theorem mlX5_103 : Cond.methodLink RX5 103 yX5_columnBits ∈ TB := tb1 135 rfl rfl
set_option maxRecDepth 100000 in
theorem mlX5_95 : Cond.methodLink RX5 95 yJ9_abs_0f7a4 ∈ TB := tb1 139 rfl rfl
set_option maxRecDepth 100000 in
theorem nlX11_23 : NL RX11 23 6 := ⟨by decide, tb1 208 rfl rfl, tb1 209 rfl rfl, wi_X6⟩
set_option maxRecDepth 100000 in
theorem nlX11_25 : NL RX11 25 9 := ⟨by decide, tb1 210 rfl rfl, tb1 211 rfl rfl, wi_X9⟩
set_option maxRecDepth 100000 in
theorem mlX11_27 : Cond.methodLink RX11 27 yX9_init ∈ TB := tb1 212 rfl rfl
set_option maxRecDepth 100000 in
theorem mlX9_3 : Cond.methodLink RX9 3 Lib.objectInit ∈ TB := tb1 215 rfl rfl
set_option maxRecDepth 100000 in
theorem mlX9_21 : Cond.methodLink RX9 21 yJ0_length_8abf5 ∈ TB := tb1 217 rfl rfl
set_option maxRecDepth 100000 in
theorem mlJ0_335 : Cond.methodLink RJ0 335 yJ0_coder_7d493 ∈ TB := tb1 221 rfl rfl
set_option maxRecDepth 100000 in
theorem mlX9_27 : Cond.methodLink RX9 27 yJ0_charAt_5068e ∈ TB := tb1 227 rfl rfl
set_option maxRecDepth 100000 in
theorem mlJ0_492 : Cond.methodLink RJ0 492 yJ0_isLatin1_aae02 ∈ TB := tb1 231 rfl rfl
set_option maxRecDepth 100000 in
theorem mlJ0_495 : Cond.methodLink RJ0 495 yJ1_charAt_3b067 ∈ TB := tb1 235 rfl rfl
set_option maxRecDepth 100000 in
theorem mlJ1_9 : Cond.methodLink RJ1 9 yJ0_checkIndex_df160 ∈ TB := tb1 238 rfl rfl
set_option maxRecDepth 100000 in
theorem mlJ0_1059 : Cond.methodLink RJ0 1059 yJ3_checkIndex_8e157 ∈ TB := tb2 3 rfl rfl
set_option maxRecDepth 100000 in
theorem mlJ0_498 : Cond.methodLink RJ0 498 yJ2_charAt_3b067 ∈ TB := tb2 6 rfl rfl
set_option maxRecDepth 100000 in
theorem mlJ2_67 : Cond.methodLink RJ2 67 yJ2_checkIndex_2214a ∈ TB := tb2 9 rfl rfl
set_option maxRecDepth 100000 in
theorem mlJ2_48 : Cond.methodLink RJ2 48 yJ2_length_9d52b ∈ TB := tb2 12 rfl rfl
set_option maxRecDepth 100000 in
theorem mlJ2_414 : Cond.methodLink RJ2 414 yJ0_checkIndex_df160 ∈ TB := tb2 15 rfl rfl
set_option maxRecDepth 100000 in
theorem mlJ2_71 : Cond.methodLink RJ2 71 yJ2_getChar_3b067 ∈ TB := tb2 16 rfl rfl
set_option maxRecDepth 100000 in
theorem mlX9_31 : Cond.methodLink RX9 31 yX9_withLetter ∈ TB := tb2 25 rfl rfl
set_option maxRecDepth 100000 in
theorem mlX11_30 : Cond.methodLink RX11 30 yX6_init ∈ TB := tb2 60 rfl rfl
set_option maxRecDepth 100000 in
theorem mlX6_3 : Cond.methodLink RX6 3 Lib.objectInit ∈ TB := tb2 63 rfl rfl
set_option maxRecDepth 100000 in
theorem nlX6_15 : NL RX6 15 2 := ⟨by decide, tb2 64 rfl rfl, tb2 65 rfl rfl, wi_X2⟩
set_option maxRecDepth 100000 in
theorem mlX6_23 : Cond.methodLink RX6 23 yX2_init ∈ TB := tb2 66 rfl rfl
set_option maxRecDepth 100000 in
theorem mlX2_3 : Cond.methodLink RX2 3 Lib.objectInit ∈ TB := tb2 69 rfl rfl
set_option maxRecDepth 100000 in
theorem nlX11_37 : NL RX11 37 4 := ⟨by decide, tb2 110 rfl rfl, tb2 111 rfl rfl, wi_X4⟩
set_option maxRecDepth 100000 in
theorem mlX4_3 : Cond.methodLink RX4 3 Lib.objectInit ∈ TB := tb2 115 rfl rfl
set_option maxRecDepth 100000 in
theorem mlX11_44 : Cond.methodLink RX11 44 yX4_begin ∈ TB := tb2 145 rfl rfl
set_option maxRecDepth 100000 in
theorem nlX11_48 : NL RX11 48 0 := ⟨by decide, tb2 149 rfl rfl, tb2 150 rfl rfl, wi_X0⟩
set_option maxRecDepth 100000 in
theorem mlX0_3 : Cond.methodLink RX0 3 Lib.objectInit ∈ TB := tb2 154 rfl rfl
set_option maxRecDepth 100000 in
theorem mlX11_55 : Cond.methodLink RX11 55 yX4_packed ∈ TB := tb2 167 rfl rfl
set_option maxRecDepth 100000 in
theorem mlX11_59 : Cond.methodLink RX11 59 yX0_begin ∈ TB := tb2 171 rfl rfl
set_option maxRecDepth 100000 in
theorem nlX11_66 : NL RX11 66 7 := ⟨by decide, tb2 175 rfl rfl, tb2 176 rfl rfl, wi_X7⟩
set_option maxRecDepth 100000 in
theorem mlX11_68 : Cond.methodLink RX11 68 yX7_init ∈ TB := tb2 177 rfl rfl
set_option maxRecDepth 100000 in
theorem mlX7_3 : Cond.methodLink RX7 3 Lib.objectInit ∈ TB := tb2 180 rfl rfl
set_option maxRecDepth 100000 in
theorem nlX11_74 : NL RX11 74 10 := ⟨by decide, tb2 213 rfl rfl, tb2 214 rfl rfl, wi_X10⟩
set_option maxRecDepth 100000 in
theorem mlX11_76 : Cond.methodLink RX11 76 yX10_init ∈ TB := tb2 215 rfl rfl
set_option maxRecDepth 100000 in
theorem mlX10_3 : Cond.methodLink RX10 3 Lib.objectInit ∈ TB := tb2 218 rfl rfl
set_option maxRecDepth 100000 in
theorem nlX11_83 : NL RX11 83 3 := ⟨by decide, tb3 16 rfl rfl, tb3 17 rfl rfl, wi_X3⟩
set_option maxRecDepth 100000 in
theorem mlX3_3 : Cond.methodLink RX3 3 Lib.objectInit ∈ TB := tb3 21 rfl rfl
set_option maxRecDepth 100000 in
theorem mlL_13 : Cond.methodLink RL 13 yX11_feed ∈ TB := tb3 100 rfl rfl
set_option maxRecDepth 100000 in
theorem mlX11_94 : Cond.methodLink RX11 94 yX11_putOnTape ∈ TB := tb3 104 rfl rfl
set_option maxRecDepth 100000 in
theorem mlL_18 : Cond.methodLink RL 18 yX11_end ∈ TB := tb3 108 rfl rfl
set_option maxRecDepth 100000 in
theorem mlL_23 : Cond.methodLink RL 23 yX11_quarter ∈ TB := tb3 112 rfl rfl
set_option maxRecDepth 100000 in
theorem mlX11_98 : Cond.methodLink RX11 98 yX6_readInto ∈ TB := tb3 116 rfl rfl
set_option maxRecDepth 100000 in
theorem mlX6_38 : Cond.methodLink RX6 38 yX5_clear ∈ TB := tb3 120 rfl rfl
set_option maxRecDepth 100000 in
theorem mlX6_51 : Cond.methodLink RX6 51 yX9_begin ∈ TB := tb3 121 rfl rfl
set_option maxRecDepth 100000 in
theorem mlX9_35 : Cond.methodLink RX9 35 yJ9_min_7cf53 ∈ TB := tb3 125 rfl rfl
set_option maxRecDepth 100000 in
theorem mlX9_47 : Cond.methodLink RX9 47 yX9_advance ∈ TB := tb3 126 rfl rfl
set_option maxRecDepth 100000 in
theorem mlX9_60 : Cond.methodLink RX9 60 yX9_isLetter ∈ TB := tb3 130 rfl rfl
set_option maxRecDepth 100000 in
theorem mlX9_64 : Cond.methodLink RX9 64 yX9_kindOfWord ∈ TB := tb3 133 rfl rfl
set_option maxRecDepth 100000 in
theorem mlX9_70 : Cond.methodLink RX9 70 yX9_isDigit ∈ TB := tb3 137 rfl rfl
set_option maxRecDepth 100000 in
theorem mlX9_75 : Cond.methodLink RX9 75 yJ0_indexOf_0f7a4 ∈ TB := tb3 141 rfl rfl
set_option maxRecDepth 100000 in
theorem mlJ0_633 : Cond.methodLink RJ0 633 yJ0_indexOf_7cf53 ∈ TB := tb3 145 rfl rfl
set_option maxRecDepth 100000 in
theorem mlJ0_505 : Cond.methodLink RJ0 505 yJ0_length_8abf5 ∈ TB := tb3 149 rfl rfl
set_option maxRecDepth 100000 in
theorem mlJ0_637 : Cond.methodLink RJ0 637 yJ1_indexOf_4cfef ∈ TB := tb3 150 rfl rfl
set_option maxRecDepth 100000 in
theorem mlJ1_88 : Cond.methodLink RJ1 88 yJ1_canEncode_9a6ad ∈ TB := tb3 153 rfl rfl
set_option maxRecDepth 100000 in
theorem mlJ1_92 : Cond.methodLink RJ1 92 yJ9_max_7cf53 ∈ TB := tb3 156 rfl rfl
set_option maxRecDepth 100000 in
theorem mlJ1_38 : Cond.methodLink RJ1 38 yJ9_min_7cf53 ∈ TB := tb3 157 rfl rfl
set_option maxRecDepth 100000 in
theorem mlJ1_95 : Cond.methodLink RJ1 95 yJ1_indexOfChar_4cfef ∈ TB := tb3 158 rfl rfl
set_option maxRecDepth 100000 in
theorem mlJ0_640 : Cond.methodLink RJ0 640 yJ2_indexOf_4cfef ∈ TB := tb3 161 rfl rfl
set_option maxRecDepth 100000 in
theorem mlJ2_224 : Cond.methodLink RJ2 224 yJ9_max_7cf53 ∈ TB := tb3 164 rfl rfl
set_option maxRecDepth 100000 in
theorem mlJ2_183 : Cond.methodLink RJ2 183 yJ9_min_7cf53 ∈ TB := tb3 165 rfl rfl
set_option maxRecDepth 100000 in
theorem mlJ2_228 : Cond.methodLink RJ2 228 yJ2_indexOfChar_4cfef ∈ TB := tb3 167 rfl rfl
set_option maxRecDepth 100000 in
theorem mlJ2_96 : Cond.methodLink RJ2 96 yJ2_checkBoundsBeginEnd_d044e ∈ TB := tb3 170 rfl rfl
set_option maxRecDepth 100000 in
theorem mlJ2_241 : Cond.methodLink RJ2 241 yJ0_checkBoundsBeginEnd_23922 ∈ TB := tb3 173 rfl rfl
set_option maxRecDepth 100000 in
theorem mlJ0_1062 : Cond.methodLink RJ0 1062 yJ3_checkFromToIndex_8c36e ∈ TB := tb3 176 rfl rfl
set_option maxRecDepth 100000 in
theorem mlJ2_244 : Cond.methodLink RJ2 244 yJ2_indexOfCharUnsafe_4cfef ∈ TB := tb3 179 rfl rfl
set_option maxRecDepth 100000 in
theorem mlJ2_232 : Cond.methodLink RJ2 232 yJ2_indexOfSupplementary_4cfef ∈ TB := tb3 182 rfl rfl
set_option maxRecDepth 100000 in
theorem mlJ2_164 : Cond.methodLink RJ2 164 yJ11_isValidCodePoint_9a6ad ∈ TB := tb3 185 rfl rfl
set_option maxRecDepth 100000 in
theorem mlJ2_157 : Cond.methodLink RJ2 157 yJ11_highSurrogate_5068e ∈ TB := tb3 188 rfl rfl
set_option maxRecDepth 100000 in
theorem mlJ2_161 : Cond.methodLink RJ2 161 yJ11_lowSurrogate_5068e ∈ TB := tb3 192 rfl rfl
set_option maxRecDepth 100000 in
theorem mlX6_60 : Cond.methodLink RX6 60 yX6_mayBegin ∈ TB := tb3 196 rfl rfl
set_option maxRecDepth 100000 in
theorem mlX6_100 : Cond.methodLink RX6 100 yX8_isFull ∈ TB := tb3 200 rfl rfl
set_option maxRecDepth 100000 in
theorem mlX6_64 : Cond.methodLink RX6 64 yX6_refuse ∈ TB := tb3 204 rfl rfl
set_option maxRecDepth 100000 in
theorem mlX6_68 : Cond.methodLink RX6 68 yX9_advance ∈ TB := tb3 208 rfl rfl
set_option maxRecDepth 100000 in
theorem mlX6_71 : Cond.methodLink RX6 71 yX6_readSize ∈ TB := tb3 209 rfl rfl
set_option maxRecDepth 100000 in
theorem mlX6_111 : Cond.methodLink RX6 111 yX6_takeNumber ∈ TB := tb3 213 rfl rfl
set_option maxRecDepth 100000 in
theorem mlX6_117 : Cond.methodLink RX6 117 yX6_take ∈ TB := tb3 217 rfl rfl
set_option maxRecDepth 100000 in
theorem mlX6_120 : Cond.methodLink RX6 120 yX5_setSize ∈ TB := tb3 221 rfl rfl
set_option maxRecDepth 100000 in
theorem mlX6_75 : Cond.methodLink RX6 75 yX6_readWalls ∈ TB := tb3 222 rfl rfl
set_option maxRecDepth 100000 in
theorem mlX6_128 : Cond.methodLink RX6 128 yJ13_bitCount_95d88 ∈ TB := tb3 226 rfl rfl
set_option maxRecDepth 100000 in
theorem mlX6_134 : Cond.methodLink RX6 134 yX6_takeCell ∈ TB := tb3 232 rfl rfl
set_option maxRecDepth 100000 in
theorem mlX6_176 : Cond.methodLink RX6 176 yX6_isTaken ∈ TB := tb3 236 rfl rfl
set_option maxRecDepth 100000 in
theorem mlX6_179 : Cond.methodLink RX6 179 yX8_standAt ∈ TB := tb4 0 rfl rfl
set_option maxRecDepth 100000 in
theorem mlX6_78 : Cond.methodLink RX6 78 yX6_readDoor ∈ TB := tb4 4 rfl rfl
set_option maxRecDepth 100000 in
theorem mlX6_143 : Cond.methodLink RX6 143 yX6_takeName ∈ TB := tb4 8 rfl rfl
set_option maxRecDepth 100000 in
theorem mlX6_163 : Cond.methodLink RX6 163 yX8_isNamed ∈ TB := tb4 12 rfl rfl
set_option maxRecDepth 100000 in
theorem mlX6_149 : Cond.methodLink RX6 149 yX6_takeHours ∈ TB := tb4 16 rfl rfl
set_option maxRecDepth 100000 in
theorem mlX6_152 : Cond.methodLink RX6 152 yX8_add ∈ TB := tb4 20 rfl rfl
set_option maxRecDepth 100000 in
theorem mlX8_30 : Cond.methodLink RX8 30 yX8_isFull ∈ TB := tb4 24 rfl rfl
set_option maxRecDepth 100000 in
theorem mlX6_81 : Cond.methodLink RX6 81 yX6_readLamp ∈ TB := tb4 25 rfl rfl
set_option maxRecDepth 100000 in
theorem mlX6_84 : Cond.methodLink RX6 84 yX6_readPerson ∈ TB := tb4 29 rfl rfl
set_option maxRecDepth 100000 in
theorem mlX6_87 : Cond.methodLink RX6 87 yX6_readShade ∈ TB := tb4 33 rfl rfl
set_option maxRecDepth 100000 in
theorem mlX6_156 : Cond.methodLink RX6 156 yX2_readFormula ∈ TB := tb4 37 rfl rfl
set_option maxRecDepth 100000 in
theorem mlX2_19 : Cond.methodLink RX2 19 yX2_readEither ∈ TB := tb4 41 rfl rfl
set_option maxRecDepth 100000 in
theorem mlX2_23 : Cond.methodLink RX2 23 yX2_readBoth ∈ TB := tb4 45 rfl rfl
set_option maxRecDepth 100000 in
theorem mlX2_41 : Cond.methodLink RX2 41 yX2_readOne ∈ TB := tb4 49 rfl rfl
set_option maxRecDepth 100000 in
theorem mlX2_32 : Cond.methodLink RX2 32 yX9_advance ∈ TB := tb4 53 rfl rfl
set_option maxRecDepth 100000 in
theorem mlX2_35 : Cond.methodLink RX2 35 yX1_addDeed ∈ TB := tb4 54 rfl rfl
set_option maxRecDepth 100000 in
theorem mlX1_29 : Cond.methodLink RX1 29 yX1_put ∈ TB := tb4 58 rfl rfl
set_option maxRecDepth 100000 in
theorem mlX2_44 : Cond.methodLink RX2 44 yX2_readSum ∈ TB := tb4 62 rfl rfl
set_option maxRecDepth 100000 in
theorem mlX2_47 : Cond.methodLink RX2 47 yX2_readTerm ∈ TB := tb4 66 rfl rfl
set_option maxRecDepth 100000 in
theorem mlX2_50 : Cond.methodLink RX2 50 yX2_readUnit ∈ TB := tb4 70 rfl rfl
set_option maxRecDepth 100000 in
theorem mlX2_59 : Cond.methodLink RX2 59 yX1_addNumber ∈ TB := tb4 74 rfl rfl
set_option maxRecDepth 100000 in
theorem mlX2_62 : Cond.methodLink RX2 62 yX1_addUnit ∈ TB := tb4 78 rfl rfl
set_option maxRecDepth 100000 in
theorem mlX6_90 : Cond.methodLink RX6 90 yX6_readCloud ∈ TB := tb4 82 rfl rfl
set_option maxRecDepth 100000 in
theorem mlX6_93 : Cond.methodLink RX6 93 yX5_settle ∈ TB := tb4 86 rfl rfl
set_option maxRecDepth 100000 in
theorem mlX11_105 : Cond.methodLink RX11 105 yX7_forget ∈ TB := tb4 87 rfl rfl
set_option maxRecDepth 100000 in
theorem mlX11_108 : Cond.methodLink RX11 108 yX10_forget ∈ TB := tb4 91 rfl rfl
set_option maxRecDepth 100000 in
theorem mlX11_110 : Cond.methodLink RX11 110 yX3_forget ∈ TB := tb4 95 rfl rfl
set_option maxRecDepth 100000 in
theorem mlL_28 : Cond.methodLink RL 28 yX11_fault ∈ TB := tb4 99 rfl rfl
set_option maxRecDepth 100000 in
theorem mlL_32 : Cond.methodLink RL 32 yX11_door ∈ TB := tb4 103 rfl rfl
set_option maxRecDepth 100000 in
theorem mlX11_126 : Cond.methodLink RX11 126 yX8_has ∈ TB := tb4 107 rfl rfl
set_option maxRecDepth 100000 in
theorem mlX11_137 : Cond.methodLink RX11 137 yX4_hourOfDay ∈ TB := tb4 111 rfl rfl
set_option maxRecDepth 100000 in
theorem mlX11_141 : Cond.methodLink RX11 141 yX8_isInHours ∈ TB := tb4 115 rfl rfl
set_option maxRecDepth 100000 in
theorem mlX11_148 : Cond.methodLink RX11 148 yX11_isBit ∈ TB := tb4 119 rfl rfl
set_option maxRecDepth 100000 in
theorem mlL_37 : Cond.methodLink RL 37 yX11_lamp ∈ TB := tb4 122 rfl rfl
set_option maxRecDepth 100000 in
theorem mlL_41 : Cond.methodLink RL 41 yX11_person ∈ TB := tb4 126 rfl rfl
set_option maxRecDepth 100000 in
theorem mlL_45 : Cond.methodLink RL 45 yX11_shade ∈ TB := tb4 130 rfl rfl
set_option maxRecDepth 100000 in
theorem mlX11_166 : Cond.methodLink RX11 166 yX11_isAhead ∈ TB := tb4 134 rfl rfl
set_option maxRecDepth 100000 in
theorem mlX11_177 : Cond.methodLink RX11 177 yX1_valueFor ∈ TB := tb4 138 rfl rfl
set_option maxRecDepth 100000 in
theorem mlX1_33 : Cond.methodLink RX1 33 yX1_outcome ∈ TB := tb4 142 rfl rfl
set_option maxRecDepth 100000 in
theorem mlL_49 : Cond.methodLink RL 49 yX11_shadow ∈ TB := tb4 145 rfl rfl
set_option maxRecDepth 100000 in
theorem mlX11_183 : Cond.methodLink RX11 183 yX7_aimAt ∈ TB := tb4 149 rfl rfl
set_option maxRecDepth 100000 in
theorem mlX11_187 : Cond.methodLink RX11 187 yX7_shadowOf ∈ TB := tb4 153 rfl rfl
set_option maxRecDepth 100000 in
theorem mlX7_57 : Cond.methodLink RX7 57 yX7_prepare ∈ TB := tb4 157 rfl rfl
set_option maxRecDepth 100000 in
theorem mlX7_61 : Cond.methodLink RX7 61 yX7_litIn ∈ TB := tb4 161 rfl rfl
set_option maxRecDepth 100000 in
theorem mlX7_103 : Cond.methodLink RX7 103 yX8_isInHours ∈ TB := tb4 165 rfl rfl
set_option maxRecDepth 100000 in
theorem mlX7_66 : Cond.methodLink RX7 66 yJ7_fill_53178 ∈ TB := tb4 167 rfl rfl
set_option maxRecDepth 100000 in
theorem mlX7_90 : Cond.methodLink RX7 90 yX1_valueFor ∈ TB := tb4 170 rfl rfl
set_option maxRecDepth 100000 in
theorem mlX7_96 : Cond.methodLink RX7 96 yX7_cut ∈ TB := tb4 171 rfl rfl
set_option maxRecDepth 100000 in
theorem mlX7_107 : Cond.methodLink RX7 107 yJ9_min_7cf53 ∈ TB := tb4 174 rfl rfl
set_option maxRecDepth 100000 in
theorem mlX7_113 : Cond.methodLink RX7 113 yJ9_max_7cf53 ∈ TB := tb4 175 rfl rfl
set_option maxRecDepth 100000 in
theorem mlX7_99 : Cond.methodLink RX7 99 yX5_shadowBy ∈ TB := tb4 176 rfl rfl
set_option maxRecDepth 100000 in
theorem mlL_54 : Cond.methodLink RL 54 yX11_shades ∈ TB := tb4 181 rfl rfl
set_option maxRecDepth 100000 in
theorem mlX11_191 : Cond.methodLink RX11 191 yX7_openIn ∈ TB := tb4 185 rfl rfl
set_option maxRecDepth 100000 in
theorem mlL_59 : Cond.methodLink RL 59 yX11_moves ∈ TB := tb4 189 rfl rfl
set_option maxRecDepth 100000 in
theorem mlX11_195 : Cond.methodLink RX11 195 yX5_canStand ∈ TB := tb4 193 rfl rfl
set_option maxRecDepth 100000 in
theorem mlX11_198 : Cond.methodLink RX11 198 yX7_stepFrom ∈ TB := tb4 197 rfl rfl
set_option maxRecDepth 100000 in
theorem mlX7_119 : Cond.methodLink RX7 119 yX5_spread ∈ TB := tb4 201 rfl rfl
set_option maxRecDepth 100000 in
theorem mlX7_129 : Cond.methodLink RX7 129 yX7_crossed ∈ TB := tb4 206 rfl rfl
set_option maxRecDepth 100000 in
theorem mlL_63 : Cond.methodLink RL 63 yX11_go ∈ TB := tb4 210 rfl rfl
set_option maxRecDepth 100000 in
theorem mlX11_202 : Cond.methodLink RX11 202 yX0_add ∈ TB := tb4 214 rfl rfl
set_option maxRecDepth 100000 in
theorem mlX11_205 : Cond.methodLink RX11 205 yX5_spread ∈ TB := tb4 221 rfl rfl
set_option maxRecDepth 100000 in
theorem mlL_67 : Cond.methodLink RL 67 yX11_hour ∈ TB := tb4 222 rfl rfl
set_option maxRecDepth 100000 in
theorem mlL_71 : Cond.methodLink RL 71 yX11_shut ∈ TB := tb4 226 rfl rfl
set_option maxRecDepth 100000 in
theorem mlL_75 : Cond.methodLink RL 75 yX11_out ∈ TB := tb4 230 rfl rfl
set_option maxRecDepth 100000 in
theorem mlL_79 : Cond.methodLink RL 79 yX11_eclipse ∈ TB := tb4 234 rfl rfl
set_option maxRecDepth 100000 in
theorem mlL_84 : Cond.methodLink RL 84 yX11_undo ∈ TB := tb4 238 rfl rfl
set_option maxRecDepth 100000 in
theorem mlX11_213 : Cond.methodLink RX11 213 yX0_stepBack ∈ TB := tb5 2 rfl rfl
set_option maxRecDepth 100000 in
theorem mlX11_217 : Cond.methodLink RX11 217 yX0_current ∈ TB := tb5 6 rfl rfl
set_option maxRecDepth 100000 in
theorem mlX11_220 : Cond.methodLink RX11 220 yX4_unpack ∈ TB := tb5 10 rfl rfl
set_option maxRecDepth 100000 in
theorem mlL_88 : Cond.methodLink RL 88 yX11_redo ∈ TB := tb5 17 rfl rfl
set_option maxRecDepth 100000 in
theorem mlX11_223 : Cond.methodLink RX11 223 yX0_stepOn ∈ TB := tb5 21 rfl rfl
set_option maxRecDepth 100000 in
theorem mlL_92 : Cond.methodLink RL 92 yX11_soonest ∈ TB := tb5 25 rfl rfl
set_option maxRecDepth 100000 in
theorem mlX11_226 : Cond.methodLink RX11 226 yX10_layWay ∈ TB := tb5 29 rfl rfl
set_option maxRecDepth 100000 in
theorem mlX10_33 : Cond.methodLink RX10 33 yX7_stepFrom ∈ TB := tb5 33 rfl rfl
set_option maxRecDepth 100000 in
theorem mlX10_39 : Cond.methodLink RX10 39 yJ13_numberOfTrailingZeros_95d88 ∈ TB := tb5 34 rfl rfl
set_option maxRecDepth 100000 in
theorem mlJ13_311 : Cond.methodLink RJ13 311 yJ6_numberOfTrailingZeros_0f7a4 ∈ TB := tb5 37 rfl rfl
set_option maxRecDepth 100000 in
theorem mlL_96 : Cond.methodLink RL 96 yX11_reach ∈ TB := tb5 41 rfl rfl
set_option maxRecDepth 100000 in
theorem mlX11_230 : Cond.methodLink RX11 230 yX10_goOn ∈ TB := tb5 45 rfl rfl
set_option maxRecDepth 100000 in
theorem mlL_100 : Cond.methodLink RL 100 yX11_meet ∈ TB := tb5 49 rfl rfl
set_option maxRecDepth 100000 in
theorem mlX11_234 : Cond.methodLink RX11 234 yX11_isChoice ∈ TB := tb5 53 rfl rfl
set_option maxRecDepth 100000 in
theorem mlX11_237 : Cond.methodLink RX11 237 yX10_bringTogether ∈ TB := tb5 56 rfl rfl
set_option maxRecDepth 100000 in
theorem mlL_105 : Cond.methodLink RL 105 yX11_barred ∈ TB := tb5 60 rfl rfl
set_option maxRecDepth 100000 in
theorem mlX11_250 : Cond.methodLink RX11 250 yX10_comeFrom ∈ TB := tb5 64 rfl rfl
set_option maxRecDepth 100000 in
theorem mlL_109 : Cond.methodLink RL 109 yX11_longest ∈ TB := tb5 69 rfl rfl
set_option maxRecDepth 100000 in
theorem mlX11_255 : Cond.methodLink RX11 255 yJ13_bitCount_95d88 ∈ TB := tb5 73 rfl rfl
set_option maxRecDepth 100000 in
theorem mlL_113 : Cond.methodLink RL 113 yX11_cross ∈ TB := tb5 74 rfl rfl
set_option maxRecDepth 100000 in
theorem mlX11_261 : Cond.methodLink RX11 261 yJ13_numberOfTrailingZeros_95d88 ∈ TB := tb5 78 rfl rfl
set_option maxRecDepth 100000 in
theorem mlL_117 : Cond.methodLink RL 117 yX11_rooms ∈ TB := tb5 79 rfl rfl
set_option maxRecDepth 100000 in
theorem mlX11_264 : Cond.methodLink RX11 264 yX10_countJoined ∈ TB := tb5 83 rfl rfl
set_option maxRecDepth 100000 in
theorem mlX10_61 : Cond.methodLink RX10 61 yJ13_lowestOneBit_067f4 ∈ TB := tb5 87 rfl rfl
set_option maxRecDepth 100000 in
theorem mlX10_65 : Cond.methodLink RX10 65 yX10_joinedWith ∈ TB := tb5 90 rfl rfl
set_option maxRecDepth 100000 in
theorem mlL_121 : Cond.methodLink RL 121 yX11_hears ∈ TB := tb5 95 rfl rfl
set_option maxRecDepth 100000 in
theorem mlX11_267 : Cond.methodLink RX11 267 yX10_joinedWith ∈ TB := tb5 99 rfl rfl
set_option maxRecDepth 100000 in
theorem mlL_125 : Cond.methodLink RL 125 yX11_keep ∈ TB := tb5 100 rfl rfl
set_option maxRecDepth 100000 in
theorem mlX11_270 : Cond.methodLink RX11 270 yX11_isJourney ∈ TB := tb5 104 rfl rfl
set_option maxRecDepth 100000 in
theorem mlX11_274 : Cond.methodLink RX11 274 yX10_fewestShut ∈ TB := tb5 108 rfl rfl
set_option maxRecDepth 100000 in
theorem mlX10_80 : Cond.methodLink RX10 80 yJ6_bitCount_0f7a4 ∈ TB := tb5 112 rfl rfl
set_option maxRecDepth 100000 in
theorem mlX10_86 : Cond.methodLink RX10 86 yX10_canBe ∈ TB := tb5 118 rfl rfl
set_option maxRecDepth 100000 in
theorem mlX11_277 : Cond.methodLink RX11 277 yX11_toldAs ∈ TB := tb5 122 rfl rfl
set_option maxRecDepth 100000 in
theorem mlX11_352 : Cond.methodLink RX11 352 yJ6_bitCount_0f7a4 ∈ TB := tb5 125 rfl rfl
set_option maxRecDepth 100000 in
theorem mlL_130 : Cond.methodLink RL 130 yX11_free ∈ TB := tb5 126 rfl rfl
set_option maxRecDepth 100000 in
theorem mlX11_280 : Cond.methodLink RX11 280 yX10_fewestLit ∈ TB := tb5 130 rfl rfl
set_option maxRecDepth 100000 in
theorem mlX10_93 : Cond.methodLink RX10 93 yX7_burn ∈ TB := tb5 134 rfl rfl
set_option maxRecDepth 100000 in
theorem mlL_134 : Cond.methodLink RL 134 yX11_surest ∈ TB := tb5 138 rfl rfl
set_option maxRecDepth 100000 in
theorem mlX11_283 : Cond.methodLink RX11 283 yX10_weighOdds ∈ TB := tb5 142 rfl rfl
set_option maxRecDepth 100000 in
theorem mlX10_113 : Cond.methodLink RX10 113 yX7_isDark ∈ TB := tb5 146 rfl rfl
set_option maxRecDepth 100000 in
theorem mlX10_117 : Cond.methodLink RX10 117 yJ7_fill_d0a16 ∈ TB := tb5 150 rfl rfl
set_option maxRecDepth 100000 in
theorem mlX10_126 : Cond.methodLink RX10 126 yX7_darken ∈ TB := tb5 153 rfl rfl
set_option maxRecDepth 100000 in
theorem mlX10_130 : Cond.methodLink RX10 130 yX10_addBest ∈ TB := tb5 157 rfl rfl
set_option maxRecDepth 100000 in
theorem mlX10_152 : Cond.methodLink RX10 152 yX5_canStand ∈ TB := tb5 161 rfl rfl
set_option maxRecDepth 100000 in
theorem mlX10_156 : Cond.methodLink RX10 156 yX10_bestOf ∈ TB := tb5 162 rfl rfl
set_option maxRecDepth 100000 in
theorem mlX10_159 : Cond.methodLink RX10 159 yJ9_max_f86c9 ∈ TB := tb5 166 rfl rfl
set_option maxRecDepth 100000 in
theorem mlX10_145 : Cond.methodLink RX10 145 yX10_commonDivisor ∈ TB := tb5 171 rfl rfl
set_option maxRecDepth 100000 in
theorem mlL_139 : Cond.methodLink RL 139 yX11_dates ∈ TB := tb5 174 rfl rfl
set_option maxRecDepth 100000 in
theorem mlX11_293 : Cond.methodLink RX11 293 yX10_countDates ∈ TB := tb5 178 rfl rfl
set_option maxRecDepth 100000 in
theorem mlX10_107 : Cond.methodLink RX10 107 yX7_startOn ∈ TB := tb5 182 rfl rfl
set_option maxRecDepth 100000 in
theorem mlL_143 : Cond.methodLink RL 143 yX11_lies ∈ TB := tb5 186 rfl rfl
set_option maxRecDepth 100000 in
theorem mlL_147 : Cond.methodLink RL 147 yX11_look ∈ TB := tb5 190 rfl rfl
set_option maxRecDepth 100000 in
theorem mlX11_303 : Cond.methodLink RX11 303 yX3_tell ∈ TB := tb5 194 rfl rfl
set_option maxRecDepth 100000 in
theorem mlL_152 : Cond.methodLink RL 152 yX11_untell ∈ TB := tb5 198 rfl rfl
set_option maxRecDepth 100000 in
theorem mlX11_307 : Cond.methodLink RX11 307 yX3_takeBack ∈ TB := tb5 202 rfl rfl
set_option maxRecDepth 100000 in
theorem mlL_157 : Cond.methodLink RL 157 yX11_later ∈ TB := tb5 207 rfl rfl
set_option maxRecDepth 100000 in
theorem mlL_161 : Cond.methodLink RL 161 yX11_fit ∈ TB := tb5 212 rfl rfl
set_option maxRecDepth 100000 in
theorem mlX11_314 : Cond.methodLink RX11 314 yX3_findFitting ∈ TB := tb5 216 rfl rfl
set_option maxRecDepth 100000 in
theorem mlX3_54 : Cond.methodLink RX3 54 yJ7_fill_d0a16 ∈ TB := tb5 220 rfl rfl
set_option maxRecDepth 100000 in
theorem mlX3_60 : Cond.methodLink RX3 60 yX3_counts ∈ TB := tb5 221 rfl rfl
set_option maxRecDepth 100000 in
theorem mlX3_63 : Cond.methodLink RX3 63 yX3_findLengths ∈ TB := tb5 225 rfl rfl
set_option maxRecDepth 100000 in
theorem mlX3_94 : Cond.methodLink RX3 94 yX1_valueFor ∈ TB := tb5 229 rfl rfl
set_option maxRecDepth 100000 in
theorem mlX3_100 : Cond.methodLink RX3 100 yX7_cut ∈ TB := tb5 230 rfl rfl
set_option maxRecDepth 100000 in
theorem mlX3_67 : Cond.methodLink RX3 67 yX3_keepFitting ∈ TB := tb5 231 rfl rfl
set_option maxRecDepth 100000 in
theorem mlX3_74 : Cond.methodLink RX3 74 yX3_doorsShading ∈ TB := tb5 235 rfl rfl
set_option maxRecDepth 100000 in
theorem mlX3_86 : Cond.methodLink RX3 86 yX5_rowBits ∈ TB := tb5 239 rfl rfl
set_option maxRecDepth 100000 in
theorem mlX3_70 : Cond.methodLink RX3 70 yX3_countFitting ∈ TB := tb6 1 rfl rfl
set_option maxRecDepth 100000 in
theorem mlX3_80 : Cond.methodLink RX3 80 yJ13_bitCount_95d88 ∈ TB := tb6 5 rfl rfl
set_option maxRecDepth 100000 in
theorem mlL_165 : Cond.methodLink RL 165 yX11_places ∈ TB := tb6 6 rfl rfl
set_option maxRecDepth 100000 in
theorem mlX11_318 : Cond.methodLink RX11 318 yX3_fittingCells ∈ TB := tb6 10 rfl rfl
set_option maxRecDepth 100000 in
theorem mlL_170 : Cond.methodLink RL 170 yX11_heights ∈ TB := tb6 14 rfl rfl
set_option maxRecDepth 100000 in
theorem mlX11_321 : Cond.methodLink RX11 321 yX3_fittingHeights ∈ TB := tb6 18 rfl rfl
set_option maxRecDepth 100000 in
theorem mlL_174 : Cond.methodLink RL 174 yX11_ask ∈ TB := tb6 22 rfl rfl
set_option maxRecDepth 100000 in
theorem mlX11_324 : Cond.methodLink RX11 324 yX3_findQuestion ∈ TB := tb6 26 rfl rfl
set_option maxRecDepth 100000 in
theorem mlX3_111 : Cond.methodLink RX3 111 yX5_canStand ∈ TB := tb6 30 rfl rfl
set_option maxRecDepth 100000 in
theorem mlX3_115 : Cond.methodLink RX3 115 yX3_countShading ∈ TB := tb6 31 rfl rfl
set_option maxRecDepth 100000 in
theorem mlX3_119 : Cond.methodLink RX3 119 yJ9_max_7cf53 ∈ TB := tb6 35 rfl rfl
set_option maxRecDepth 100000 in
theorem mlL_178 : Cond.methodLink RL 178 yX11_image ∈ TB := tb6 36 rfl rfl
set_option maxRecDepth 100000 in
theorem mlL_182 : Cond.methodLink RL 182 yX11_back ∈ TB := tb6 40 rfl rfl
set_option maxRecDepth 100000 in
theorem mlL_186 : Cond.methodLink RL 186 yX11_about ∈ TB := tb6 44 rfl rfl
set_option maxRecDepth 100000 in
theorem nlL_10 : NL RL 10 12 := ⟨by decide, tb6 48 rfl rfl, tb6 49 rfl rfl, wi_X12⟩
set_option maxRecDepth 100000 in
theorem mlL_12 : Cond.methodLink RL 12 yX12_init ∈ TB := tb6 50 rfl rfl
set_option maxRecDepth 100000 in
theorem mlX12_1 : Cond.methodLink RX12 1 Lib.objectInit ∈ TB := tb6 53 rfl rfl
set_option maxRecDepth 100000 in
theorem mlL_17 : Cond.methodLink RL 17 yX12_feed ∈ TB := tb7 92 rfl rfl
set_option maxRecDepth 100000 in
theorem mlX12_151 : Cond.methodLink RX12 151 yX12_four ∈ TB := tb7 96 rfl rfl
set_option maxRecDepth 100000 in
theorem mlL_22 : Cond.methodLink RL 22 yX12_end ∈ TB := tb7 100 rfl rfl
set_option maxRecDepth 100000 in
theorem mlL_27 : Cond.methodLink RL 27 yX12_quarter ∈ TB := tb7 104 rfl rfl
set_option maxRecDepth 100000 in
theorem mlX12_400 : Cond.methodLink RX12 400 yX12_readAll ∈ TB := tb7 108 rfl rfl
set_option maxRecDepth 100000 in
theorem mlX12_244 : Cond.methodLink RX12 244 yX12_token ∈ TB := tb7 112 rfl rfl
set_option maxRecDepth 100000 in
theorem mlX12_161 : Cond.methodLink RX12 161 yX12_here ∈ TB := tb7 116 rfl rfl
set_option maxRecDepth 100000 in
theorem mlX12_178 : Cond.methodLink RX12 178 yX12_isLetter ∈ TB := tb7 120 rfl rfl
set_option maxRecDepth 100000 in
theorem mlX12_182 : Cond.methodLink RX12 182 yX12_isDigit ∈ TB := tb7 123 rfl rfl
set_option maxRecDepth 100000 in
theorem mlX12_185 : Cond.methodLink RX12 185 yX12_isSign ∈ TB := tb7 126 rfl rfl
set_option maxRecDepth 100000 in
theorem mlX12_397 : Cond.methodLink RX12 397 yX12_readLine ∈ TB := tb7 129 rfl rfl
set_option maxRecDepth 100000 in
theorem mlX12_237 : Cond.methodLink RX12 237 yX12_isWord ∈ TB := tb7 134 rfl rfl
set_option maxRecDepth 100000 in
theorem mlX12_356 : Cond.methodLink RX12 356 yX12_told ∈ TB := tb7 138 rfl rfl
set_option maxRecDepth 100000 in
theorem mlX12_247 : Cond.methodLink RX12 247 yX12_want ∈ TB := tb7 142 rfl rfl
set_option maxRecDepth 100000 in
theorem mlX12_241 : Cond.methodLink RX12 241 yX12_wrong ∈ TB := tb7 146 rfl rfl
set_option maxRecDepth 100000 in
theorem mlX12_191 : Cond.methodLink RX12 191 yX12_wrongAt ∈ TB := tb7 150 rfl rfl
set_option maxRecDepth 100000 in
theorem mlX12_251 : Cond.methodLink RX12 251 yX12_toldNumber ∈ TB := tb7 154 rfl rfl
set_option maxRecDepth 100000 in
theorem mlX12_373 : Cond.methodLink RX12 373 yX12_readWall ∈ TB := tb7 160 rfl rfl
set_option maxRecDepth 100000 in
theorem mlX12_343 : Cond.methodLink RX12 343 yX12_readCell ∈ TB := tb7 164 rfl rfl
set_option maxRecDepth 100000 in
theorem mlX12_330 : Cond.methodLink RX12 330 yX12_has ∈ TB := tb7 168 rfl rfl
set_option maxRecDepth 100000 in
theorem mlX12_376 : Cond.methodLink RX12 376 yX12_readDoor ∈ TB := tb7 172 rfl rfl
set_option maxRecDepth 100000 in
theorem mlX12_350 : Cond.methodLink RX12 350 yX12_newName ∈ TB := tb7 176 rfl rfl
set_option maxRecDepth 100000 in
theorem mlX12_255 : Cond.methodLink RX12 255 yX12_isName ∈ TB := tb7 180 rfl rfl
set_option maxRecDepth 100000 in
theorem mlX12_233 : Cond.methodLink RX12 233 yX12_isOwn ∈ TB := tb7 184 rfl rfl
set_option maxRecDepth 100000 in
theorem mlX12_258 : Cond.methodLink RX12 258 yX12_find ∈ TB := tb7 203 rfl rfl
set_option maxRecDepth 100000 in
theorem mlX12_379 : Cond.methodLink RX12 379 yX12_readLamp ∈ TB := tb7 207 rfl rfl
set_option maxRecDepth 100000 in
theorem mlX12_382 : Cond.methodLink RX12 382 yX12_readPerson ∈ TB := tb7 211 rfl rfl
set_option maxRecDepth 100000 in
theorem mlX12_388 : Cond.methodLink RX12 388 yX12_readShade ∈ TB := tb7 215 rfl rfl
set_option maxRecDepth 100000 in
theorem mlX12_298 : Cond.methodLink RX12 298 yX12_unit ∈ TB := tb7 219 rfl rfl
set_option maxRecDepth 100000 in
theorem mlX12_282 : Cond.methodLink RX12 282 yX12_mayNot ∈ TB := tb7 223 rfl rfl
set_option maxRecDepth 100000 in
theorem mlX12_267 : Cond.methodLink RX12 267 yX12_tight ∈ TB := tb7 227 rfl rfl
set_option maxRecDepth 100000 in
theorem mlX12_285 : Cond.methodLink RX12 285 yX12_openUp ∈ TB := tb7 230 rfl rfl
set_option maxRecDepth 100000 in
theorem mlX12_288 : Cond.methodLink RX12 288 yX12_isFull ∈ TB := tb7 234 rfl rfl
set_option maxRecDepth 100000 in
theorem mlX12_291 : Cond.methodLink RX12 291 yX12_countUnit ∈ TB := tb7 238 rfl rfl
set_option maxRecDepth 100000 in
theorem mlX12_294 : Cond.methodLink RX12 294 yX12_asked ∈ TB := tb8 2 rfl rfl
set_option maxRecDepth 100000 in
theorem mlX12_270 : Cond.methodLink RX12 270 yX12_add ∈ TB := tb8 6 rfl rfl
set_option maxRecDepth 100000 in
theorem mlX12_301 : Cond.methodLink RX12 301 yX12_sign ∈ TB := tb8 10 rfl rfl
set_option maxRecDepth 100000 in
theorem mlX12_304 : Cond.methodLink RX12 304 yX12_hasBracket ∈ TB := tb8 14 rfl rfl
set_option maxRecDepth 100000 in
theorem mlX12_307 : Cond.methodLink RX12 307 yX12_close ∈ TB := tb8 18 rfl rfl
set_option maxRecDepth 100000 in
theorem mlX12_310 : Cond.methodLink RX12 310 yX12_hasRelation ∈ TB := tb8 22 rfl rfl
set_option maxRecDepth 100000 in
theorem mlL_31 : Cond.methodLink RL 31 yX12_fault ∈ TB := tb8 26 rfl rfl
set_option maxRecDepth 100000 in
theorem mlL_36 : Cond.methodLink RL 36 yX12_door ∈ TB := tb8 30 rfl rfl
set_option maxRecDepth 100000 in
theorem mlX12_502 : Cond.methodLink RX12 502 yX12_isDoor ∈ TB := tb8 34 rfl rfl
set_option maxRecDepth 100000 in
theorem mlX12_436 : Cond.methodLink RX12 436 yX12_isIn ∈ TB := tb8 38 rfl rfl
set_option maxRecDepth 100000 in
theorem mlX12_505 : Cond.methodLink RX12 505 yX12_load ∈ TB := tb8 41 rfl rfl
set_option maxRecDepth 100000 in
theorem mlX12_487 : Cond.methodLink RX12 487 yX12_isOpen ∈ TB := tb8 45 rfl rfl
set_option maxRecDepth 100000 in
theorem mlX12_313 : Cond.methodLink RX12 313 yX12_truth ∈ TB := tb8 49 rfl rfl
set_option maxRecDepth 100000 in
theorem mlL_40 : Cond.methodLink RL 40 yX12_lamp ∈ TB := tb8 52 rfl rfl
set_option maxRecDepth 100000 in
theorem mlX12_508 : Cond.methodLink RX12 508 yX12_isLamp ∈ TB := tb8 56 rfl rfl
set_option maxRecDepth 100000 in
theorem mlX12_473 : Cond.methodLink RX12 473 yX12_isLit ∈ TB := tb8 60 rfl rfl
set_option maxRecDepth 100000 in
theorem mlL_44 : Cond.methodLink RL 44 yX12_person ∈ TB := tb8 64 rfl rfl
set_option maxRecDepth 100000 in
theorem mlX12_511 : Cond.methodLink RX12 511 yX12_isPerson ∈ TB := tb8 68 rfl rfl
set_option maxRecDepth 100000 in
theorem mlL_48 : Cond.methodLink RL 48 yX12_shade ∈ TB := tb8 72 rfl rfl
set_option maxRecDepth 100000 in
theorem mlX12_514 : Cond.methodLink RX12 514 yX12_isFar ∈ TB := tb8 76 rfl rfl
set_option maxRecDepth 100000 in
theorem mlX12_467 : Cond.methodLink RX12 467 yX12_shadeOf ∈ TB := tb8 80 rfl rfl
set_option maxRecDepth 100000 in
theorem mlX12_320 : Cond.methodLink RX12 320 yX12_done ∈ TB := tb8 84 rfl rfl
set_option maxRecDepth 100000 in
theorem mlL_53 : Cond.methodLink RL 53 yX12_shadow ∈ TB := tb8 87 rfl rfl
set_option maxRecDepth 100000 in
theorem mlX12_480 : Cond.methodLink RX12 480 yX12_shadowOf ∈ TB := tb8 91 rfl rfl
set_option maxRecDepth 100000 in
theorem mlX12_470 : Cond.methodLink RX12 470 yX12_capped ∈ TB := tb8 95 rfl rfl
set_option maxRecDepth 100000 in
theorem mlX12_463 : Cond.methodLink RX12 463 yX12_row ∈ TB := tb8 98 rfl rfl
set_option maxRecDepth 100000 in
theorem mlX12_476 : Cond.methodLink RX12 476 yX12_byLamp ∈ TB := tb8 103 rfl rfl
set_option maxRecDepth 100000 in
theorem mlX12_460 : Cond.methodLink RX12 460 yX12_toward ∈ TB := tb8 107 rfl rfl
set_option maxRecDepth 100000 in
theorem mlL_58 : Cond.methodLink RL 58 yX12_shades ∈ TB := tb8 110 rfl rfl
set_option maxRecDepth 100000 in
theorem mlX12_490 : Cond.methodLink RX12 490 yX12_layShadows ∈ TB := tb8 114 rfl rfl
set_option maxRecDepth 100000 in
theorem mlL_62 : Cond.methodLink RL 62 yX12_moves ∈ TB := tb8 118 rfl rfl
set_option maxRecDepth 100000 in
theorem mlX12_518 : Cond.methodLink RX12 518 yX12_isFree ∈ TB := tb8 122 rfl rfl
set_option maxRecDepth 100000 in
theorem mlX12_493 : Cond.methodLink RX12 493 yX12_movesFrom ∈ TB := tb8 126 rfl rfl
set_option maxRecDepth 100000 in
theorem mlX12_484 : Cond.methodLink RX12 484 yX12_nextTo ∈ TB := tb8 130 rfl rfl
set_option maxRecDepth 100000 in
theorem mlL_66 : Cond.methodLink RL 66 yX12_go ∈ TB := tb8 134 rfl rfl
set_option maxRecDepth 100000 in
theorem mlX12_521 : Cond.methodLink RX12 521 yX12_act ∈ TB := tb8 138 rfl rfl
set_option maxRecDepth 100000 in
theorem mlL_70 : Cond.methodLink RL 70 yX12_hour ∈ TB := tb8 142 rfl rfl
set_option maxRecDepth 100000 in
theorem mlL_74 : Cond.methodLink RL 74 yX12_shut ∈ TB := tb8 146 rfl rfl
set_option maxRecDepth 100000 in
theorem mlL_78 : Cond.methodLink RL 78 yX12_out ∈ TB := tb8 150 rfl rfl
set_option maxRecDepth 100000 in
theorem mlL_83 : Cond.methodLink RL 83 yX12_eclipse ∈ TB := tb8 154 rfl rfl
set_option maxRecDepth 100000 in
theorem mlL_87 : Cond.methodLink RL 87 yX12_undo ∈ TB := tb8 158 rfl rfl
set_option maxRecDepth 100000 in
theorem mlX12_524 : Cond.methodLink RX12 524 yX12_exchange ∈ TB := tb8 162 rfl rfl
set_option maxRecDepth 100000 in
theorem mlL_91 : Cond.methodLink RL 91 yX12_redo ∈ TB := tb8 166 rfl rfl
set_option maxRecDepth 100000 in
theorem mlL_95 : Cond.methodLink RL 95 yX12_soonest ∈ TB := tb8 170 rfl rfl
set_option maxRecDepth 100000 in
theorem mlX12_527 : Cond.methodLink RX12 527 yX12_layHours ∈ TB := tb8 174 rfl rfl
set_option maxRecDepth 100000 in
theorem mlX12_496 : Cond.methodLink RX12 496 yX12_setHour ∈ TB := tb8 178 rfl rfl
set_option maxRecDepth 100000 in
theorem mlX12_499 : Cond.methodLink RX12 499 yX12_layMoves ∈ TB := tb8 182 rfl rfl
set_option maxRecDepth 100000 in
theorem mlX12_530 : Cond.methodLink RX12 530 yX12_goOn ∈ TB := tb8 186 rfl rfl
set_option maxRecDepth 100000 in
theorem mlX12_534 : Cond.methodLink RX12 534 yX12_leastOf ∈ TB := tb8 190 rfl rfl
set_option maxRecDepth 100000 in
theorem mlL_99 : Cond.methodLink RL 99 yX12_reach ∈ TB := tb8 193 rfl rfl
set_option maxRecDepth 100000 in
theorem mlX12_537 : Cond.methodLink RX12 537 yX12_reachOf ∈ TB := tb8 197 rfl rfl
set_option maxRecDepth 100000 in
theorem mlL_104 : Cond.methodLink RL 104 yX12_meet ∈ TB := tb8 201 rfl rfl
set_option maxRecDepth 100000 in
theorem mlL_108 : Cond.methodLink RL 108 yX12_barred ∈ TB := tb8 205 rfl rfl
set_option maxRecDepth 100000 in
theorem mlL_112 : Cond.methodLink RL 112 yX12_longest ∈ TB := tb8 209 rfl rfl
set_option maxRecDepth 100000 in
theorem mlX12_540 : Cond.methodLink RX12 540 yX12_members ∈ TB := tb8 213 rfl rfl
set_option maxRecDepth 100000 in
theorem mlL_116 : Cond.methodLink RL 116 yX12_cross ∈ TB := tb8 216 rfl rfl
set_option maxRecDepth 100000 in
theorem mlL_120 : Cond.methodLink RL 120 yX12_rooms ∈ TB := tb8 220 rfl rfl
set_option maxRecDepth 100000 in
theorem mlX12_546 : Cond.methodLink RX12 546 yX12_layRooms ∈ TB := tb8 224 rfl rfl
set_option maxRecDepth 100000 in
theorem mlX12_543 : Cond.methodLink RX12 543 yX12_join ∈ TB := tb8 228 rfl rfl
set_option maxRecDepth 100000 in
theorem mlL_124 : Cond.methodLink RL 124 yX12_hears ∈ TB := tb8 232 rfl rfl
set_option maxRecDepth 100000 in
theorem mlL_129 : Cond.methodLink RL 129 yX12_keep ∈ TB := tb8 236 rfl rfl
set_option maxRecDepth 100000 in
theorem mlX12_553 : Cond.methodLink RX12 553 yX12_isAsked ∈ TB := tb9 0 rfl rfl
set_option maxRecDepth 100000 in
theorem mlX12_556 : Cond.methodLink RX12 556 yX12_keeps ∈ TB := tb9 4 rfl rfl
set_option maxRecDepth 100000 in
theorem mlX12_549 : Cond.methodLink RX12 549 yX12_comes ∈ TB := tb9 8 rfl rfl
set_option maxRecDepth 100000 in
theorem mlL_133 : Cond.methodLink RL 133 yX12_free ∈ TB := tb9 12 rfl rfl
set_option maxRecDepth 100000 in
theorem mlX12_559 : Cond.methodLink RX12 559 yX12_frees ∈ TB := tb9 16 rfl rfl
set_option maxRecDepth 100000 in
theorem mlL_138 : Cond.methodLink RL 138 yX12_surest ∈ TB := tb9 20 rfl rfl
set_option maxRecDepth 100000 in
theorem mlX12_564 : Cond.methodLink RX12 564 yX12_bestOf ∈ TB := tb9 25 rfl rfl
set_option maxRecDepth 100000 in
theorem mlX12_567 : Cond.methodLink RX12 567 yX12_common ∈ TB := tb9 29 rfl rfl
set_option maxRecDepth 100000 in
theorem mlL_142 : Cond.methodLink RL 142 yX12_dates ∈ TB := tb9 32 rfl rfl
set_option maxRecDepth 100000 in
theorem mlL_146 : Cond.methodLink RL 146 yX12_lies ∈ TB := tb9 36 rfl rfl
set_option maxRecDepth 100000 in
theorem mlL_151 : Cond.methodLink RL 151 yX12_look ∈ TB := tb9 40 rfl rfl
set_option maxRecDepth 100000 in
theorem mlL_156 : Cond.methodLink RL 156 yX12_untell ∈ TB := tb9 44 rfl rfl
set_option maxRecDepth 100000 in
theorem mlL_160 : Cond.methodLink RL 160 yX12_later ∈ TB := tb9 48 rfl rfl
set_option maxRecDepth 100000 in
theorem mlL_164 : Cond.methodLink RL 164 yX12_fit ∈ TB := tb9 53 rfl rfl
set_option maxRecDepth 100000 in
theorem mlX12_588 : Cond.methodLink RX12 588 yX12_layFits ∈ TB := tb9 57 rfl rfl
set_option maxRecDepth 100000 in
theorem mlX12_585 : Cond.methodLink RX12 585 yX12_fits ∈ TB := tb9 61 rfl rfl
set_option maxRecDepth 100000 in
theorem mlX12_575 : Cond.methodLink RX12 575 yX12_counts ∈ TB := tb9 65 rfl rfl
set_option maxRecDepth 100000 in
theorem mlX12_579 : Cond.methodLink RX12 579 yX12_wouldBe ∈ TB := tb9 69 rfl rfl
set_option maxRecDepth 100000 in
theorem mlL_169 : Cond.methodLink RL 169 yX12_places ∈ TB := tb9 73 rfl rfl
set_option maxRecDepth 100000 in
theorem mlL_173 : Cond.methodLink RL 173 yX12_heights ∈ TB := tb9 77 rfl rfl
set_option maxRecDepth 100000 in
theorem mlL_177 : Cond.methodLink RL 177 yX12_ask ∈ TB := tb9 81 rfl rfl
set_option maxRecDepth 100000 in
theorem mlX12_591 : Cond.methodLink RX12 591 yX12_leftBy ∈ TB := tb9 85 rfl rfl
set_option maxRecDepth 100000 in
theorem mlL_181 : Cond.methodLink RL 181 yX12_image ∈ TB := tb9 89 rfl rfl
set_option maxRecDepth 100000 in
theorem mlX12_594 : Cond.methodLink RX12 594 yX12_isBox ∈ TB := tb9 93 rfl rfl
set_option maxRecDepth 100000 in
theorem mlL_185 : Cond.methodLink RL 185 yX12_back ∈ TB := tb9 96 rfl rfl
set_option maxRecDepth 100000 in
theorem mlL_189 : Cond.methodLink RL 189 yX12_about ∈ TB := tb9 100 rfl rfl
set_option maxRecDepth 100000 in
theorem kcJ2_227 : Cond.constant RJ2 227 (65536) ∈ TB := tb3 166 rfl rfl
set_option maxRecDepth 100000 in
theorem kcJ11_110 : Cond.constant RJ11 110 (55232) ∈ TB := tb3 191 rfl rfl
set_option maxRecDepth 100000 in
theorem kcJ11_76 : Cond.constant RJ11 76 (56320) ∈ TB := tb3 195 rfl rfl
set_option maxRecDepth 100000 in
theorem kcX11_169 : Cond.constant RX11 169 (-1000000) ∈ TB := tb4 137 rfl rfl
set_option maxRecDepth 100000 in
theorem kcX7_65 : Cond.constant RX7 65 (-1000000) ∈ TB := tb4 166 rfl rfl
set_option maxRecDepth 100000 in
theorem kcJ6_264 : Cond.constant RJ6 264 (65536) ∈ TB := tb5 40 rfl rfl
set_option maxRecDepth 100000 in
theorem kcJ6_265 : Cond.constant RJ6 265 (1431655765) ∈ TB := tb5 115 rfl rfl
set_option maxRecDepth 100000 in
theorem kcJ6_266 : Cond.constant RJ6 266 (858993459) ∈ TB := tb5 116 rfl rfl
set_option maxRecDepth 100000 in
theorem kcJ6_267 : Cond.constant RJ6 267 (252645135) ∈ TB := tb5 117 rfl rfl
set_option maxRecDepth 100000 in
theorem kcX11_313 : Cond.constant RX11 313 (100000) ∈ TB := tb5 211 rfl rfl
set_option maxRecDepth 100000 in
theorem kcX12_517 : Cond.constant RX12 517 (-1000000) ∈ TB := tb8 79 rfl rfl
set_option maxRecDepth 100000 in
theorem kcX12_574 : Cond.constant RX12 574 (100000) ∈ TB := tb9 52 rfl rfl
set_option maxRecDepth 100000 in
theorem klX5_68 : Cond.constantLong RX5 68 (-1) ∈ TB := tb1 120 rfl rfl
set_option maxRecDepth 100000 in
theorem klX9_79 : Cond.constantLong RX9 79 (32) ∈ TB := tb2 28 rfl rfl
set_option maxRecDepth 100000 in
theorem klJ13_314 : Cond.constantLong RJ13 314 (6148914691236517205) ∈ TB := tb3 229 rfl rfl
set_option maxRecDepth 100000 in
theorem klJ13_316 : Cond.constantLong RJ13 316 (3689348814741910323) ∈ TB := tb3 230 rfl rfl
set_option maxRecDepth 100000 in
theorem klJ13_318 : Cond.constantLong RJ13 318 (1085102592571150095) ∈ TB := tb3 231 rfl rfl
set_option maxRecDepth 100000 in
theorem klX4_46 : Cond.constantLong RX4 46 (63) ∈ TB := tb5 14 rfl rfl
set_option maxRecDepth 100000 in
theorem klX4_48 : Cond.constantLong RX4 48 (15) ∈ TB := tb5 15 rfl rfl
set_option maxRecDepth 100000 in
theorem klX4_50 : Cond.constantLong RX4 50 (255) ∈ TB := tb5 16 rfl rfl
set_option maxRecDepth 100000 in
theorem klX11_253 : Cond.constantLong RX11 253 (-1) ∈ TB := tb5 68 rfl rfl
set_option maxRecDepth 100000 in
theorem klX10_69 : Cond.constantLong RX10 69 (-1) ∈ TB := tb5 94 rfl rfl
set_option maxRecDepth 100000 in
theorem klX10_140 : Cond.constantLong RX10 140 (100) ∈ TB := tb5 170 rfl rfl
set_option maxRecDepth 100000 in
theorem klX3_78 : Cond.constantLong RX3 78 (-1) ∈ TB := tb6 0 rfl rfl
set_option maxRecDepth 100000 in
theorem klX12_195 : Cond.constantLong RX12 195 (1936292453) ∈ TB := tb7 133 rfl rfl
set_option maxRecDepth 100000 in
theorem klX12_197 : Cond.constantLong RX12 197 (25209) ∈ TB := tb7 158 rfl rfl
set_option maxRecDepth 100000 in
theorem klX12_199 : Cond.constantLong RX12 199 (2002873452) ∈ TB := tb7 159 rfl rfl
set_option maxRecDepth 100000 in
theorem klX12_201 : Cond.constantLong RX12 201 (1685024626) ∈ TB := tb7 171 rfl rfl
set_option maxRecDepth 100000 in
theorem klX12_203 : Cond.constantLong RX12 203 (24948) ∈ TB := tb7 188 rfl rfl
set_option maxRecDepth 100000 in
theorem klX12_205 : Cond.constantLong RX12 205 (1751738216) ∈ TB := tb7 189 rfl rfl
set_option maxRecDepth 100000 in
theorem klX12_207 : Cond.constantLong RX12 207 (1869636974) ∈ TB := tb7 190 rfl rfl
set_option maxRecDepth 100000 in
theorem klX12_209 : Cond.constantLong RX12 209 (29807) ∈ TB := tb7 191 rfl rfl
set_option maxRecDepth 100000 in
theorem klX12_211 : Cond.constantLong RX12 211 (1818324336) ∈ TB := tb7 192 rfl rfl
set_option maxRecDepth 100000 in
theorem klX12_213 : Cond.constantLong RX12 213 (7104884) ∈ TB := tb7 193 rfl rfl
set_option maxRecDepth 100000 in
theorem klX12_215 : Cond.constantLong RX12 215 (123581014175598) ∈ TB := tb7 194 rfl rfl
set_option maxRecDepth 100000 in
theorem klX12_217 : Cond.constantLong RX12 217 (495672452197) ∈ TB := tb7 195 rfl rfl
set_option maxRecDepth 100000 in
theorem klX12_219 : Cond.constantLong RX12 219 (427021006180) ∈ TB := tb7 196 rfl rfl
set_option maxRecDepth 100000 in
theorem klX12_221 : Cond.constantLong RX12 221 (114784769370228) ∈ TB := tb7 197 rfl rfl
set_option maxRecDepth 100000 in
theorem klX12_223 : Cond.constantLong RX12 223 (1752135026) ∈ TB := tb7 198 rfl rfl
set_option maxRecDepth 100000 in
theorem klX12_225 : Cond.constantLong RX12 225 (1684108389) ∈ TB := tb7 199 rfl rfl
set_option maxRecDepth 100000 in
theorem klX12_227 : Cond.constantLong RX12 227 (6385252) ∈ TB := tb7 200 rfl rfl
set_option maxRecDepth 100000 in
theorem klX12_229 : Cond.constantLong RX12 229 (28530) ∈ TB := tb7 201 rfl rfl
set_option maxRecDepth 100000 in
theorem klX12_231 : Cond.constantLong RX12 231 (7237492) ∈ TB := tb7 202 rfl rfl
set_option maxRecDepth 100000 in
theorem klX12_458 : Cond.constantLong RX12 458 (-1) ∈ TB := tb8 102 rfl rfl
set_option maxRecDepth 100000 in
theorem klX12_562 : Cond.constantLong RX12 562 (100) ∈ TB := tb9 24 rfl rfl
set_option maxRecDepth 100000 in
theorem wobj : Cond.instanceMethod Lib.objectInit ∈ TB ∧ Cond.code Lib.objectInit ⟨#[0xb1]⟩ 1 none ∈ TB := ⟨tb1 31 rfl rfl, tb1 32 rfl rfl⟩
set_option maxRecDepth 100000 in
theorem wa_int : Cond.arrayClass .int ∈ TB := tb1 78 rfl rfl
set_option maxRecDepth 100000 in
theorem wa_long : Cond.arrayClass .long ∈ TB := tb1 77 rfl rfl
set_option maxRecDepth 100000 in
theorem wa_byte : Cond.arrayClass .byte ∈ TB := tb1 76 rfl rfl
set_option maxRecDepth 100000 in
theorem wa_boolean : Cond.arrayClass .boolean ∈ TB := tb7 91 rfl rfl
