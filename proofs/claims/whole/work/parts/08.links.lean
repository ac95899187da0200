/-! ===== methods, constants, links ===== -/
def mX0_forget : zz_M := (yX0_forget, cX0_forget, 1, none)
def mX0_isOpen : zz_M := (yX0_isOpen, cX0_isOpen, 4, (some .boolean))
def mX0_isOpenByRule : zz_M := (yX0_isOpenByRule, cX0_isOpenByRule, 5, (some .boolean))
def mX0_putOff : zz_M := (yX0_putOff, cX0_putOff, 3, (some .int))
def mX1_copyFrom : zz_M := (yX1_copyFrom, cX1_copyFrom, 2, none)
def mX1_countRates : zz_M := (yX1_countRates, cX1_countRates, 4, none)
def mX1_rateByRule : zz_M := (yX1_rateByRule, cX1_rateByRule, 5, (some .int))
def mX1_solve : zz_M := (yX1_solve, cX1_solve, 4, none)
def mX1_askLoan : zz_M := (yX1_askLoan, cX1_askLoan, 4, none)
def mX1_askSwap : zz_M := (yX1_askSwap, cX1_askSwap, 4, none)
def mX1_takeIn : zz_M := (yX1_takeIn, cX1_takeIn, 6, none)
def mX1_greatestAtOnce : zz_M := (yX1_greatestAtOnce, cX1_greatestAtOnce, 1, (some .long))
def mX1_inFactorBounds : zz_M := (yX1_inFactorBounds, cX1_inFactorBounds, 2, (some .long))
def mX1_guess : zz_M := (yX1_guess, cX1_guess, 6, (some .long))
def mX1_holds : zz_M := (yX1_holds, cX1_holds, 6, (some .boolean))
def mX1_greatestFrom : zz_M := (yX1_greatestFrom, cX1_greatestFrom, 10, (some .long))
def mX1_lastFactor : zz_M := (yX1_lastFactor, cX1_lastFactor, 1, (some .int))
def mX1_factorAt : zz_M := (yX1_factorAt, cX1_factorAt, 7, (some .int))
def mX1_rateBetween : zz_M := (yX1_rateBetween, cX1_rateBetween, 7, (some .int))
def mX1_swapRate : zz_M := (yX1_swapRate, cX1_swapRate, 6, (some .int))
def mX1_bookWorth : zz_M := (yX1_bookWorth, cX1_bookWorth, 4, (some .long))
def mX2_bookHang : zz_M := (yX2_bookHang, cX2_bookHang, 5, (some .long))
def mX2_pieceHang : zz_M := (yX2_pieceHang, cX2_pieceHang, 7, (some .long))
def mX2_dueHang : zz_M := (yX2_dueHang, cX2_dueHang, 8, (some .long))
def mX2_flatten : zz_M := (yX2_flatten, cX2_flatten, 2, none)
def mX2_takePieces : zz_M := (yX2_takePieces, cX2_takePieces, 6, none)
def mX3_clear : zz_M := (yX3_clear, cX3_clear, 1, none)
def mX3_copyFrom : zz_M := (yX3_copyFrom, cX3_copyFrom, 2, none)
def mX3_add : zz_M := (yX3_add, cX3_add, 2, none)
def mX3_hasRates : zz_M := (yX3_hasRates, cX3_hasRates, 1, (some .boolean))
def mX3_hasOpens : zz_M := (yX3_hasOpens, cX3_hasOpens, 1, (some .boolean))
def mX3_value : zz_M := (yX3_value, cX3_value, 6, (some .int))
def mX3_joined : zz_M := (yX3_joined, cX3_joined, 7, (some .int))
def mX4_tally : zz_M := (yX4_tally, cX4_tally, 8, none)
def mX4_drawInOrder : zz_M := (yX4_drawInOrder, cX4_drawInOrder, 6, (some .boolean))
def mX4_addDraw : zz_M := (yX4_addDraw, cX4_addDraw, 9, none)
def mX4_orders : zz_M := (yX4_orders, cX4_orders, 4, (some .long))
def mX4_inLowestTerms : zz_M := (yX4_inLowestTerms, cX4_inLowestTerms, 12, (some .long))
def mX5_clear : zz_M := (yX5_clear, cX5_clear, 1, none)
def mX5_push : zz_M := (yX5_push, cX5_push, 2, none)
def mX5_back : zz_M := (yX5_back, cX5_back, 3, none)
def mX6_clear : zz_M := (yX6_clear, cX6_clear, 1, none)
def mX6_copyFrom : zz_M := (yX6_copyFrom, cX6_copyFrom, 2, none)
def mX6_hasInput : zz_M := (yX6_hasInput, cX6_hasInput, 2, (some .boolean))
def mX6_hasFlow : zz_M := (yX6_hasFlow, cX6_hasFlow, 2, (some .boolean))
def mX6_isHoliday : zz_M := (yX6_isHoliday, cX6_isHoliday, 3, (some .boolean))
def mX6_rateSum : zz_M := (yX6_rateSum, cX6_rateSum, 4, (some .int))
def mX6_doBump : zz_M := (yX6_doBump, cX6_doBump, 5, (some .int))
def mX6_doShift : zz_M := (yX6_doShift, cX6_doShift, 3, (some .int))
def mX6_doAmount : zz_M := (yX6_doAmount, cX6_doAmount, 4, (some .int))
def mX6_doDeed : zz_M := (yX6_doDeed, cX6_doDeed, 5, (some .int))
def mX7_read : zz_M := (yX7_read, cX7_read, 4, none)
def mX7_fail : zz_M := (yX7_fail, cX7_fail, 2, none)
def mX7_byteAt : zz_M := (yX7_byteAt, cX7_byteAt, 2, (some .int))
def mX7_next : zz_M := (yX7_next, cX7_next, 2, none)
def mX7_isLetter : zz_M := (yX7_isLetter, cX7_isLetter, 1, (some .boolean))
def mX7_isDigit : zz_M := (yX7_isDigit, cX7_isDigit, 1, (some .boolean))
def mX7_nextWord : zz_M := (yX7_nextWord, cX7_nextWord, 1, none)
def mX7_nextNumber : zz_M := (yX7_nextNumber, cX7_nextNumber, 1, none)
def mX7_isWord : zz_M := (yX7_isWord, cX7_isWord, 3, (some .boolean))
def mX7_takeWord : zz_M := (yX7_takeWord, cX7_takeWord, 2, none)
def mX7_takeSign : zz_M := (yX7_takeSign, cX7_takeSign, 2, none)
def mX7_takeNumber : zz_M := (yX7_takeNumber, cX7_takeNumber, 4, (some .int))
def mX7_readHead : zz_M := (yX7_readHead, cX7_readHead, 1, none)
def mX7_readLine : zz_M := (yX7_readLine, cX7_readLine, 1, none)
def mX7_readHoliday : zz_M := (yX7_readHoliday, cX7_readHoliday, 2, none)
def mX7_readInput : zz_M := (yX7_readInput, cX7_readInput, 3, none)
def mX7_readFlow : zz_M := (yX7_readFlow, cX7_readFlow, 4, none)
def mX7_readRates : zz_M := (yX7_readRates, cX7_readRates, 1, none)
def mX7_readOpens : zz_M := (yX7_readOpens, cX7_readOpens, 1, none)
def mX7_readSum : zz_M := (yX7_readSum, cX7_readSum, 4, none)
def mX7_readTerm : zz_M := (yX7_readTerm, cX7_readTerm, 3, none)
def mX7_readAtom : zz_M := (yX7_readAtom, cX7_readAtom, 2, none)
def mX7_goDeeper : zz_M := (yX7_goDeeper, cX7_goDeeper, 2, none)
def mX7_readChoice : zz_M := (yX7_readChoice, cX7_readChoice, 2, none)
def mX7_readVariable : zz_M := (yX7_readVariable, cX7_readVariable, 2, none)
def mX7_ratesVariable : zz_M := (yX7_ratesVariable, cX7_ratesVariable, 1, (some .int))
def mX7_opensVariable : zz_M := (yX7_opensVariable, cX7_opensVariable, 1, (some .int))
def mX7_readTruth : zz_M := (yX7_readTruth, cX7_readTruth, 3, none)
def mX7_readBoth : zz_M := (yX7_readBoth, cX7_readBoth, 3, none)
def mX7_readUnit : zz_M := (yX7_readUnit, cX7_readUnit, 2, none)
def mX7_readComparison : zz_M := (yX7_readComparison, cX7_readComparison, 3, none)
def mX8_lay : zz_M := (yX8_lay, cX8_lay, 2, none)
def mX8_layPeriods : zz_M := (yX8_layPeriods, cX8_layPeriods, 5, none)
def mX8_sortByEnds : zz_M := (yX8_sortByEnds, cX8_sortByEnds, 3, none)
def mX8_layPillars : zz_M := (yX8_layPillars, cX8_layPillars, 4, none)
def mX8_hasPillar : zz_M := (yX8_hasPillar, cX8_hasPillar, 2, (some .boolean))
def mX8_periodEnd : zz_M := (yX8_periodEnd, cX8_periodEnd, 3, (some .int))
def mX8_periodDays : zz_M := (yX8_periodDays, cX8_periodDays, 3, (some .int))
def mX8_daysOf : zz_M := (yX8_daysOf, cX8_daysOf, 2, (some .int))
def mX8_pillarAt : zz_M := (yX8_pillarAt, cX8_pillarAt, 3, (some .int))
def mX8_weight : zz_M := (yX8_weight, cX8_weight, 6, (some .int))
def mX9_copyFrom : zz_M := (yX9_copyFrom, cX9_copyFrom, 2, none)
def mX10_isMissing : zz_M := (yX10_isMissing, cX10_isMissing, 1, (some .boolean))
def mX10_renew : zz_M := (yX10_renew, cX10_renew, 3, none)
def mX10_put : zz_M := (yX10_put, cX10_put, 4, none)
def mX11_feed : zz_M := (yX11_feed, cX11_feed, 6, (some .int))
def mX11_feedWord : zz_M := (yX11_feedWord, cX11_feedWord, 3, none)
def mX11_desk : zz_M := (yX11_desk, cX11_desk, 2, (some .int))
def mX11_fault : zz_M := (yX11_fault, cX11_fault, 2, (some .int))
def mX11_input : zz_M := (yX11_input, cX11_input, 3, (some .int))
def mX11_flow : zz_M := (yX11_flow, cX11_flow, 3, (some .long))
def mX11_open : zz_M := (yX11_open, cX11_open, 2, (some .int))
def mX11_off : zz_M := (yX11_off, cX11_off, 2, (some .int))
def mX11_opens : zz_M := (yX11_opens, cX11_opens, 5, (some .int))
def mX11_business : zz_M := (yX11_business, cX11_business, 5, (some .int))
def mX11_period : zz_M := (yX11_period, cX11_period, 3, (some .int))
def mX11_bump : zz_M := (yX11_bump, cX11_bump, 4, (some .int))
def mX11_shift : zz_M := (yX11_shift, cX11_shift, 3, (some .int))
def mX11_amount : zz_M := (yX11_amount, cX11_amount, 4, (some .int))
def mX11_remember : zz_M := (yX11_remember, cX11_remember, 2, none)
def mX11_undo : zz_M := (yX11_undo, cX11_undo, 2, (some .int))
def mX11_judge : zz_M := (yX11_judge, cX11_judge, 4, (some .int))
def mX11_doAll : zz_M := (yX11_doAll, cX11_doAll, 5, (some .int))
def mX11_lastFactorTried : zz_M := (yX11_lastFactorTried, cX11_lastFactorTried, 1, (some .int))
def mX11_perform : zz_M := (yX11_perform, cX11_perform, 3, (some .int))
def mX11_week : zz_M := (yX11_week, cX11_week, 5, (some .int))
def mX11_drawn : zz_M := (yX11_drawn, cX11_drawn, 1, (some .int))
def mX11_drawnDeed : zz_M := (yX11_drawnDeed, cX11_drawnDeed, 3, (some .int))
def mX11_solvedNow : zz_M := (yX11_solvedNow, cX11_solvedNow, 1, (some (.object "PillarDesk$Curve")))
def mX11_bumpedTrial : zz_M := (yX11_bumpedTrial, cX11_bumpedTrial, 3, (some (.object "PillarDesk$Curve")))
def mX11_inRateBounds : zz_M := (yX11_inRateBounds, cX11_inRateBounds, 1, (some .int))
def mX11_pillars : zz_M := (yX11_pillars, cX11_pillars, 1, (some .int))
def mX11_pillar : zz_M := (yX11_pillar, cX11_pillar, 3, (some .int))
def mX11_factor : zz_M := (yX11_factor, cX11_factor, 2, (some .int))
def mX11_forward : zz_M := (yX11_forward, cX11_forward, 3, (some .int))
def mX11_implied : zz_M := (yX11_implied, cX11_implied, 2, (some .int))
def mX11_sound : zz_M := (yX11_sound, cX11_sound, 3, (some .int))
def mX11_falls : zz_M := (yX11_falls, cX11_falls, 3, (some .int))
def mX11_moves : zz_M := (yX11_moves, cX11_moves, 5, (some .int))
def mX11_worth : zz_M := (yX11_worth, cX11_worth, 1, (some .long))
def mX11_move : zz_M := (yX11_move, cX11_move, 2, (some .long))
def mX11_bumped : zz_M := (yX11_bumped, cX11_bumped, 3, (some .long))
def mX11_mover : zz_M := (yX11_mover, cX11_mover, 7, (some .int))
def mX11_breaks : zz_M := (yX11_breaks, cX11_breaks, 8, (some .int))
def mX11_hang : zz_M := (yX11_hang, cX11_hang, 2, (some .long))
def mX11_flat : zz_M := (yX11_flat, cX11_flat, 2, (some .long))
def mX11_left : zz_M := (yX11_left, cX11_left, 2, (some .long))
def mX11_shifts : zz_M := (yX11_shifts, cX11_shifts, 3, (some .int))
def mX11_toldRefusal : zz_M := (yX11_toldRefusal, cX11_toldRefusal, 3, (some .int))
def mX11_shiftsTold : zz_M := (yX11_shiftsTold, cX11_shiftsTold, 5, (some .int))
def mX11_trialIsTold : zz_M := (yX11_trialIsTold, cX11_trialIsTold, 4, (some .boolean))
def mX11_ask : zz_M := (yX11_ask, cX11_ask, 8, (some .int))
def mX11_mostAlike : zz_M := (yX11_mostAlike, cX11_mostAlike, 8, (some .int))
def mX11_chance : zz_M := (yX11_chance, cX11_chance, 6, (some .int))
def mX11_mean : zz_M := (yX11_mean, cX11_mean, 4, (some .long))
def mX11_noTray : zz_M := (yX11_noTray, cX11_noTray, 2, (some .boolean))
def mX11_numbers : zz_M := (yX11_numbers, cX11_numbers, 4, (some .int))
def mX11_write : zz_M := (yX11_write, cX11_write, 5, (some .long))
def mX11_lists : zz_M := (yX11_lists, cX11_lists, 5, (some .int))
def mX11_count : zz_M := (yX11_count, cX11_count, 2, (some .int))
def mX12_within : zz_M := (yX12_within, cX12_within, 6, (some .boolean))
def mX12_plain : zz_M := (yX12_plain, cX12_plain, 2, none)
def mX12_feed : zz_M := (yX12_feed, cX12_feed, 8, (some .int))
def mX12_see : zz_M := (yX12_see, cX12_see, 2, (some .int))
def mX12_isSmall : zz_M := (yX12_isSmall, cX12_isSmall, 1, (some .boolean))
def mX12_isDigit : zz_M := (yX12_isDigit, cX12_isDigit, 1, (some .boolean))
def mX12_keyAt : zz_M := (yX12_keyAt, cX12_keyAt, 4, (some .int))
def mX12_next : zz_M := (yX12_next, cX12_next, 2, none)
def mX12_fails : zz_M := (yX12_fails, cX12_fails, 2, none)
def mX12_is : zz_M := (yX12_is, cX12_is, 2, (some .boolean))
def mX12_eats : zz_M := (yX12_eats, cX12_eats, 2, (some .boolean))
def mX12_takes : zz_M := (yX12_takes, cX12_takes, 4, (some .int))
def mX12_isIn : zz_M := (yX12_isIn, cX12_isIn, 3, (some .boolean))
def mX12_wordOf : zz_M := (yX12_wordOf, cX12_wordOf, 3, (some .int))
def mX12_codes : zz_M := (yX12_codes, cX12_codes, 2, none)
def mX12_goesIn : zz_M := (yX12_goesIn, cX12_goesIn, 2, (some .boolean))
def mX12_readAtom : zz_M := (yX12_readAtom, cX12_readAtom, 2, none)
def mX12_readIf : zz_M := (yX12_readIf, cX12_readIf, 2, none)
def mX12_readTerm : zz_M := (yX12_readTerm, cX12_readTerm, 2, none)
def mX12_readSum : zz_M := (yX12_readSum, cX12_readSum, 3, none)
def mX12_readUnit : zz_M := (yX12_readUnit, cX12_readUnit, 3, none)
def mX12_readBoth : zz_M := (yX12_readBoth, cX12_readBoth, 2, none)
def mX12_readTruth : zz_M := (yX12_readTruth, cX12_readTruth, 2, none)
def mX12_named : zz_M := (yX12_named, cX12_named, 4, (some .int))
def mX12_readHoliday : zz_M := (yX12_readHoliday, cX12_readHoliday, 2, none)
def mX12_readInput : zz_M := (yX12_readInput, cX12_readInput, 7, none)
def mX12_readFlow : zz_M := (yX12_readFlow, cX12_readFlow, 4, none)
def mX12_readLaw : zz_M := (yX12_readLaw, cX12_readLaw, 3, none)
def mX12_readLine : zz_M := (yX12_readLine, cX12_readLine, 1, none)
def mX12_closes : zz_M := (yX12_closes, cX12_closes, 1, none)
def mX12_desk : zz_M := (yX12_desk, cX12_desk, 3, (some .int))
def mX12_fault : zz_M := (yX12_fault, cX12_fault, 2, (some .int))
def mX12_isInput : zz_M := (yX12_isInput, cX12_isInput, 3, (some .boolean))
def mX12_isFlow : zz_M := (yX12_isFlow, cX12_isFlow, 3, (some .boolean))
def mX12_kept : zz_M := (yX12_kept, cX12_kept, 3, (some .int))
def mX12_between : zz_M := (yX12_between, cX12_between, 5, (some .int))
def mX12_reckons : zz_M := (yX12_reckons, cX12_reckons, 5, (some .int))
def mX12_isOpen : zz_M := (yX12_isOpen, cX12_isOpen, 4, (some .boolean))
def mX12_offOf : zz_M := (yX12_offOf, cX12_offOf, 3, (some .int))
def mX12_laysDays : zz_M := (yX12_laysDays, cX12_laysDays, 3, none)
def mX12_laysPeriods : zz_M := (yX12_laysPeriods, cX12_laysPeriods, 4, none)
def mX12_endOf : zz_M := (yX12_endOf, cX12_endOf, 3, (some .int))
def mX12_lengthOf : zz_M := (yX12_lengthOf, cX12_lengthOf, 3, (some .int))
def mX12_isDay : zz_M := (yX12_isDay, cX12_isDay, 2, (some .boolean))
def mX12_open : zz_M := (yX12_open, cX12_open, 2, (some .int))
def mX12_off : zz_M := (yX12_off, cX12_off, 2, (some .int))
def mX12_opens : zz_M := (yX12_opens, cX12_opens, 5, (some .int))
def mX12_business : zz_M := (yX12_business, cX12_business, 5, (some .int))
def mX12_period : zz_M := (yX12_period, cX12_period, 3, (some .int))
def mX12_countOf : zz_M := (yX12_countOf, cX12_countOf, 4, (some .int))
def mX12_laysCounts : zz_M := (yX12_laysCounts, cX12_laysCounts, 3, none)
def mX12_floorOf : zz_M := (yX12_floorOf, cX12_floorOf, 6, (some .long))
def mX12_pillarAt : zz_M := (yX12_pillarAt, cX12_pillarAt, 3, (some .int))
def mX12_factorAt : zz_M := (yX12_factorAt, cX12_factorAt, 5, (some .int))
def mX12_dueOf : zz_M := (yX12_dueOf, cX12_dueOf, 3, (some .long))
def mX12_fits : zz_M := (yX12_fits, cX12_fits, 9, (some .boolean))
def mX12_solves : zz_M := (yX12_solves, cX12_solves, 6, none)
def mX12_laysPillars : zz_M := (yX12_laysPillars, cX12_laysPillars, 3, none)
def mX12_laysCurve : zz_M := (yX12_laysCurve, cX12_laysCurve, 1, none)
def mX12_laysWith : zz_M := (yX12_laysWith, cX12_laysWith, 3, none)
def mX12_input : zz_M := (yX12_input, cX12_input, 3, (some .int))
def mX12_flow : zz_M := (yX12_flow, cX12_flow, 3, (some .long))
def mX12_stores : zz_M := (yX12_stores, cX12_stores, 2, none)
def mX12_isAgain : zz_M := (yX12_isAgain, cX12_isAgain, 2, none)
def mX12_notes : zz_M := (yX12_notes, cX12_notes, 2, none)
def mX12_whyBump : zz_M := (yX12_whyBump, cX12_whyBump, 5, (some .int))
def mX12_whyAmount : zz_M := (yX12_whyAmount, cX12_whyAmount, 5, (some .int))
def mX12_bump : zz_M := (yX12_bump, cX12_bump, 4, (some .int))
def mX12_shift : zz_M := (yX12_shift, cX12_shift, 2, (some .int))
def mX12_amount : zz_M := (yX12_amount, cX12_amount, 3, (some .int))
def mX12_undo : zz_M := (yX12_undo, cX12_undo, 3, (some .int))
def mX12_whyNot : zz_M := (yX12_whyNot, cX12_whyNot, 3, (some .int))
def mX12_does : zz_M := (yX12_does, cX12_does, 2, none)
def mX12_tells : zz_M := (yX12_tells, cX12_tells, 3, (some .int))
def mX12_noTray : zz_M := (yX12_noTray, cX12_noTray, 2, (some .int))
def mX12_ratesSum : zz_M := (yX12_ratesSum, cX12_ratesSum, 3, (some .int))
def mX12_judge : zz_M := (yX12_judge, cX12_judge, 7, (some .int))
def mX12_perform : zz_M := (yX12_perform, cX12_perform, 4, (some .int))
def mX12_draw : zz_M := (yX12_draw, cX12_draw, 2, (some .int))
def mX12_drawn : zz_M := (yX12_drawn, cX12_drawn, 3, (some .int))
def mX12_week : zz_M := (yX12_week, cX12_week, 6, (some .int))
def mX12_isPillar : zz_M := (yX12_isPillar, cX12_isPillar, 2, (some .boolean))
def mX12_pillars : zz_M := (yX12_pillars, cX12_pillars, 1, (some .int))
def mX12_pillar : zz_M := (yX12_pillar, cX12_pillar, 3, (some .int))
def mX12_factor : zz_M := (yX12_factor, cX12_factor, 2, (some .int))
def mX12_rateOf : zz_M := (yX12_rateOf, cX12_rateOf, 5, (some .int))
def mX12_forward : zz_M := (yX12_forward, cX12_forward, 3, (some .int))
def mX12_implied : zz_M := (yX12_implied, cX12_implied, 5, (some .int))
def mX12_sound : zz_M := (yX12_sound, cX12_sound, 2, (some .int))
def mX12_falls : zz_M := (yX12_falls, cX12_falls, 4, (some .int))
def mX12_moves : zz_M := (yX12_moves, cX12_moves, 4, (some .int))
def mX12_worthBy : zz_M := (yX12_worthBy, cX12_worthBy, 4, (some .long))
def mX12_worthNow : zz_M := (yX12_worthNow, cX12_worthNow, 1, (some .long))
def mX12_worthWith : zz_M := (yX12_worthWith, cX12_worthWith, 3, (some .long))
def mX12_worth : zz_M := (yX12_worth, cX12_worth, 1, (some .long))
def mX12_move : zz_M := (yX12_move, cX12_move, 2, (some .long))
def mX12_bumped : zz_M := (yX12_bumped, cX12_bumped, 3, (some .long))
def mX12_mover : zz_M := (yX12_mover, cX12_mover, 9, (some .int))
def mX12_breaks : zz_M := (yX12_breaks, cX12_breaks, 7, (some .int))
def mX12_weightAt : zz_M := (yX12_weightAt, cX12_weightAt, 5, (some .int))
def mX12_hangOf : zz_M := (yX12_hangOf, cX12_hangOf, 5, (some .long))
def mX12_pieceOn : zz_M := (yX12_pieceOn, cX12_pieceOn, 6, (some .long))
def mX12_laysFlat : zz_M := (yX12_laysFlat, cX12_laysFlat, 5, none)
def mX12_hang : zz_M := (yX12_hang, cX12_hang, 2, (some .long))
def mX12_flat : zz_M := (yX12_flat, cX12_flat, 2, (some .long))
def mX12_left : zz_M := (yX12_left, cX12_left, 2, (some .long))
def mX12_noTold : zz_M := (yX12_noTold, cX12_noTold, 4, (some .int))
def mX12_shiftsOf : zz_M := (yX12_shiftsOf, cX12_shiftsOf, 6, (some .int))
def mX12_shifts : zz_M := (yX12_shifts, cX12_shifts, 3, (some .int))
def mX12_mostAlike : zz_M := (yX12_mostAlike, cX12_mostAlike, 7, (some .int))
def mX12_ask : zz_M := (yX12_ask, cX12_ask, 8, (some .int))
def mX12_goesLots : zz_M := (yX12_goesLots, cX12_goesLots, 12, none)
def mX12_laysLots : zz_M := (yX12_laysLots, cX12_laysLots, 5, none)
def mX12_wholeOf : zz_M := (yX12_wholeOf, cX12_wholeOf, 4, (some .long))
def mX12_common : zz_M := (yX12_common, cX12_common, 4, (some .long))
def mX12_isLots : zz_M := (yX12_isLots, cX12_isLots, 2, (some .boolean))
def mX12_chance : zz_M := (yX12_chance, cX12_chance, 6, (some .int))
def mX12_mean : zz_M := (yX12_mean, cX12_mean, 4, (some .long))
def mX12_cut : zz_M := (yX12_cut, cX12_cut, 3, (some .long))
def mX12_numbers : zz_M := (yX12_numbers, cX12_numbers, 5, (some .int))
def mX12_write : zz_M := (yX12_write, cX12_write, 6, (some .long))
def mX12_lists : zz_M := (yX12_lists, cX12_lists, 5, (some .int))
def mX12_image : zz_M := (yX12_image, cX12_image, 3, (some .int))
def mX12_restore : zz_M := (yX12_restore, cX12_restore, 3, (some .int))
def mX12_count : zz_M := (yX12_count, cX12_count, 2, (some .int))
def mJ9_floorDiv_f86c9 : zz_M := (yJ9_floorDiv_f86c9, cJ9_floorDiv_f86c9, 6, (some .long))
def mJ9_floorMod_7cf53 : zz_M := (yJ9_floorMod_7cf53, cJ9_floorMod_7cf53, 3, (some .int))
def mJ9_abs_067f4 : zz_M := (yJ9_abs_067f4, cJ9_abs_067f4, 2, (some .long))
def mJ9_max_7cf53 : zz_M := (yJ9_max_7cf53, cJ9_max_7cf53, 2, (some .int))
def mJ9_max_f86c9 : zz_M := (yJ9_max_f86c9, cJ9_max_f86c9, 4, (some .long))
def mJ9_min_7cf53 : zz_M := (yJ9_min_7cf53, cJ9_min_7cf53, 2, (some .int))
def mJ9_min_f86c9 : zz_M := (yJ9_min_f86c9, cJ9_min_f86c9, 4, (some .long))
def mJ0_length_8abf5 : zz_M := (yJ0_length_8abf5, cJ0_length_8abf5, 1, (some .int))
def mJ0_charAt_5068e : zz_M := (yJ0_charAt_5068e, cJ0_charAt_5068e, 2, (some .char))
def mJ0_indexOf_0f7a4 : zz_M := (yJ0_indexOf_0f7a4, cJ0_indexOf_0f7a4, 2, (some .int))
def mJ0_indexOf_7cf53 : zz_M := (yJ0_indexOf_7cf53, cJ0_indexOf_7cf53, 3, (some .int))
def mJ0_coder_7d493 : zz_M := (yJ0_coder_7d493, cJ0_coder_7d493, 1, (some .byte))
def mJ0_isLatin1_aae02 : zz_M := (yJ0_isLatin1_aae02, cJ0_isLatin1_aae02, 1, (some .boolean))
def mJ1_charAt_3b067 : zz_M := (yJ1_charAt_3b067, cJ1_charAt_3b067, 2, (some .char))
def mJ1_canEncode_9a6ad : zz_M := (yJ1_canEncode_9a6ad, cJ1_canEncode_9a6ad, 1, (some .boolean))
def mJ1_indexOf_4cfef : zz_M := (yJ1_indexOf_4cfef, cJ1_indexOf_4cfef, 4, (some .int))
def mJ1_indexOfChar_4cfef : zz_M := (yJ1_indexOfChar_4cfef, cJ1_indexOfChar_4cfef, 6, (some .int))
def mJ7_fill_d0a16 : zz_M := (yJ7_fill_d0a16, cJ7_fill_d0a16, 5, none)
def mJ7_fill_031fb : zz_M := (yJ7_fill_031fb, cJ7_fill_031fb, 4, none)
theorem ci_m8 : Int32.ofInt (-8) = (-8 : Int32) := by decide
theorem ci_m2 : Int32.ofInt (-2) = (-2 : Int32) := by decide
theorem ci_m1 : Int32.ofInt (-1) = (-1 : Int32) := by decide
theorem ci_0 : Int32.ofInt (0) = (0 : Int32) := by decide
theorem ci_1 : Int32.ofInt (1) = (1 : Int32) := by decide
theorem ci_2 : Int32.ofInt (2) = (2 : Int32) := by decide
theorem ci_3 : Int32.ofInt (3) = (3 : Int32) := by decide
theorem ci_4 : Int32.ofInt (4) = (4 : Int32) := by decide
theorem ci_5 : Int32.ofInt (5) = (5 : Int32) := by decide
theorem cb_m99 : (Int8.ofInt (-99)).toInt32 = (-99 : Int32) := by decide
theorem cb_m30 : (Int8.ofInt (-30)).toInt32 = (-30 : Int32) := by decide
theorem cb_m11 : (Int8.ofInt (-11)).toInt32 = (-11 : Int32) := by decide
theorem cb_m10 : (Int8.ofInt (-10)).toInt32 = (-10 : Int32) := by decide
theorem cb_m6 : (Int8.ofInt (-6)).toInt32 = (-6 : Int32) := by decide
theorem cb_m5 : (Int8.ofInt (-5)).toInt32 = (-5 : Int32) := by decide
theorem cb_m4 : (Int8.ofInt (-4)).toInt32 = (-4 : Int32) := by decide
theorem cb_m3 : (Int8.ofInt (-3)).toInt32 = (-3 : Int32) := by decide
theorem cb_m2 : (Int8.ofInt (-2)).toInt32 = (-2 : Int32) := by decide
theorem cb_6 : (Int8.ofInt (6)).toInt32 = (6 : Int32) := by decide
theorem cb_7 : (Int8.ofInt (7)).toInt32 = (7 : Int32) := by decide
theorem cb_8 : (Int8.ofInt (8)).toInt32 = (8 : Int32) := by decide
theorem cb_9 : (Int8.ofInt (9)).toInt32 = (9 : Int32) := by decide
theorem cb_10 : (Int8.ofInt (10)).toInt32 = (10 : Int32) := by decide
theorem cb_11 : (Int8.ofInt (11)).toInt32 = (11 : Int32) := by decide
theorem cb_12 : (Int8.ofInt (12)).toInt32 = (12 : Int32) := by decide
theorem cb_13 : (Int8.ofInt (13)).toInt32 = (13 : Int32) := by decide
theorem cb_14 : (Int8.ofInt (14)).toInt32 = (14 : Int32) := by decide
theorem cb_15 : (Int8.ofInt (15)).toInt32 = (15 : Int32) := by decide
theorem cb_16 : (Int8.ofInt (16)).toInt32 = (16 : Int32) := by decide
theorem cb_17 : (Int8.ofInt (17)).toInt32 = (17 : Int32) := by decide
theorem cb_18 : (Int8.ofInt (18)).toInt32 = (18 : Int32) := by decide
theorem cb_19 : (Int8.ofInt (19)).toInt32 = (19 : Int32) := by decide
theorem cb_20 : (Int8.ofInt (20)).toInt32 = (20 : Int32) := by decide
theorem cb_24 : (Int8.ofInt (24)).toInt32 = (24 : Int32) := by decide
theorem cb_25 : (Int8.ofInt (25)).toInt32 = (25 : Int32) := by decide
theorem cb_26 : (Int8.ofInt (26)).toInt32 = (26 : Int32) := by decide
theorem cb_27 : (Int8.ofInt (27)).toInt32 = (27 : Int32) := by decide
theorem cb_28 : (Int8.ofInt (28)).toInt32 = (28 : Int32) := by decide
theorem cb_29 : (Int8.ofInt (29)).toInt32 = (29 : Int32) := by decide
theorem cb_30 : (Int8.ofInt (30)).toInt32 = (30 : Int32) := by decide
theorem cb_31 : (Int8.ofInt (31)).toInt32 = (31 : Int32) := by decide
theorem cb_32 : (Int8.ofInt (32)).toInt32 = (32 : Int32) := by decide
theorem cb_33 : (Int8.ofInt (33)).toInt32 = (33 : Int32) := by decide
theorem cb_34 : (Int8.ofInt (34)).toInt32 = (34 : Int32) := by decide
theorem cb_35 : (Int8.ofInt (35)).toInt32 = (35 : Int32) := by decide
theorem cb_36 : (Int8.ofInt (36)).toInt32 = (36 : Int32) := by decide
theorem cb_37 : (Int8.ofInt (37)).toInt32 = (37 : Int32) := by decide
theorem cb_38 : (Int8.ofInt (38)).toInt32 = (38 : Int32) := by decide
theorem cb_39 : (Int8.ofInt (39)).toInt32 = (39 : Int32) := by decide
theorem cb_40 : (Int8.ofInt (40)).toInt32 = (40 : Int32) := by decide
theorem cb_41 : (Int8.ofInt (41)).toInt32 = (41 : Int32) := by decide
theorem cb_42 : (Int8.ofInt (42)).toInt32 = (42 : Int32) := by decide
theorem cb_43 : (Int8.ofInt (43)).toInt32 = (43 : Int32) := by decide
theorem cb_45 : (Int8.ofInt (45)).toInt32 = (45 : Int32) := by decide
theorem cb_48 : (Int8.ofInt (48)).toInt32 = (48 : Int32) := by decide
theorem cb_56 : (Int8.ofInt (56)).toInt32 = (56 : Int32) := by decide
theorem cb_57 : (Int8.ofInt (57)).toInt32 = (57 : Int32) := by decide
theorem cb_58 : (Int8.ofInt (58)).toInt32 = (58 : Int32) := by decide
theorem cb_59 : (Int8.ofInt (59)).toInt32 = (59 : Int32) := by decide
theorem cb_60 : (Int8.ofInt (60)).toInt32 = (60 : Int32) := by decide
theorem cb_61 : (Int8.ofInt (61)).toInt32 = (61 : Int32) := by decide
theorem cb_62 : (Int8.ofInt (62)).toInt32 = (62 : Int32) := by decide
theorem cb_66 : (Int8.ofInt (66)).toInt32 = (66 : Int32) := by decide
theorem cb_74 : (Int8.ofInt (74)).toInt32 = (74 : Int32) := by decide
theorem cb_75 : (Int8.ofInt (75)).toInt32 = (75 : Int32) := by decide
theorem cb_85 : (Int8.ofInt (85)).toInt32 = (85 : Int32) := by decide
theorem cb_86 : (Int8.ofInt (86)).toInt32 = (86 : Int32) := by decide
theorem cb_91 : (Int8.ofInt (91)).toInt32 = (91 : Int32) := by decide
theorem cb_93 : (Int8.ofInt (93)).toInt32 = (93 : Int32) := by decide
theorem cb_97 : (Int8.ofInt (97)).toInt32 = (97 : Int32) := by decide
theorem cb_99 : (Int8.ofInt (99)).toInt32 = (99 : Int32) := by decide
theorem cb_100 : (Int8.ofInt (100)).toInt32 = (100 : Int32) := by decide
theorem cb_105 : (Int8.ofInt (105)).toInt32 = (105 : Int32) := by decide
theorem cb_122 : (Int8.ofInt (122)).toInt32 = (122 : Int32) := by decide
theorem cs_m999 : (Int16.ofInt (-999)).toInt32 = (-999 : Int32) := by decide
theorem cs_128 : (Int16.ofInt (128)).toInt32 = (128 : Int32) := by decide
theorem cs_171 : (Int16.ofInt (171)).toInt32 = (171 : Int32) := by decide
theorem cs_199 : (Int16.ofInt (199)).toInt32 = (199 : Int32) := by decide
theorem cs_255 : (Int16.ofInt (255)).toInt32 = (255 : Int32) := by decide
theorem cs_276 : (Int16.ofInt (276)).toInt32 = (276 : Int32) := by decide
theorem cs_277 : (Int16.ofInt (277)).toInt32 = (277 : Int32) := by decide
theorem cs_900 : (Int16.ofInt (900)).toInt32 = (900 : Int32) := by decide
theorem cs_998 : (Int16.ofInt (998)).toInt32 = (998 : Int32) := by decide
theorem cs_999 : (Int16.ofInt (999)).toInt32 = (999 : Int32) := by decide
theorem cs_1000 : (Int16.ofInt (1000)).toInt32 = (1000 : Int32) := by decide
theorem cs_1177 : (Int16.ofInt (1177)).toInt32 = (1177 : Int32) := by decide
theorem cs_1999 : (Int16.ofInt (1999)).toInt32 = (1999 : Int32) := by decide
theorem cs_2000 : (Int16.ofInt (2000)).toInt32 = (2000 : Int32) := by decide
theorem cs_2001 : (Int16.ofInt (2001)).toInt32 = (2001 : Int32) := by decide
theorem cs_2002 : (Int16.ofInt (2002)).toInt32 = (2002 : Int32) := by decide
theorem cs_2003 : (Int16.ofInt (2003)).toInt32 = (2003 : Int32) := by decide
theorem cs_2004 : (Int16.ofInt (2004)).toInt32 = (2004 : Int32) := by decide
theorem cs_2005 : (Int16.ofInt (2005)).toInt32 = (2005 : Int32) := by decide
theorem cs_2006 : (Int16.ofInt (2006)).toInt32 = (2006 : Int32) := by decide
theorem cs_2007 : (Int16.ofInt (2007)).toInt32 = (2007 : Int32) := by decide
theorem cs_2008 : (Int16.ofInt (2008)).toInt32 = (2008 : Int32) := by decide
theorem cs_2009 : (Int16.ofInt (2009)).toInt32 = (2009 : Int32) := by decide
theorem cs_3000 : (Int16.ofInt (3000)).toInt32 = (3000 : Int32) := by decide
theorem cs_3001 : (Int16.ofInt (3001)).toInt32 = (3001 : Int32) := by decide
theorem cs_3002 : (Int16.ofInt (3002)).toInt32 = (3002 : Int32) := by decide
theorem cs_3003 : (Int16.ofInt (3003)).toInt32 = (3003 : Int32) := by decide
theorem cs_3004 : (Int16.ofInt (3004)).toInt32 = (3004 : Int32) := by decide
theorem cs_3005 : (Int16.ofInt (3005)).toInt32 = (3005 : Int32) := by decide
theorem cs_3006 : (Int16.ofInt (3006)).toInt32 = (3006 : Int32) := by decide
theorem cs_3007 : (Int16.ofInt (3007)).toInt32 = (3007 : Int32) := by decide
theorem cs_3008 : (Int16.ofInt (3008)).toInt32 = (3008 : Int32) := by decide
theorem cs_3009 : (Int16.ofInt (3009)).toInt32 = (3009 : Int32) := by decide
theorem cs_9998 : (Int16.ofInt (9998)).toInt32 = (9998 : Int32) := by decide
theorem cs_9999 : (Int16.ofInt (9999)).toInt32 = (9999 : Int32) := by decide
theorem cs_10000 : (Int16.ofInt (10000)).toInt32 = (10000 : Int32) := by decide
theorem cs_12345 : (Int16.ofInt (12345)).toInt32 = (12345 : Int32) := by decide
theorem zz_vin {i : Int32} {n : Nat} (h1 : ¬ i < 0) (h2 : i.toNatClampNeg < n) : vp_in i n := fun h => h.elim h1 (fun h3 => Nat.not_le.mpr h2 h3)
theorem vin_0_5 : vp_in (0 : Int32) 5 := zz_vin (by decide) (by decide)
theorem vin_0_8 : vp_in (0 : Int32) 8 := zz_vin (by decide) (by decide)
theorem vin_0_9 : vp_in (0 : Int32) 9 := zz_vin (by decide) (by decide)
theorem vin_0_64 : vp_in (0 : Int32) 64 := zz_vin (by decide) (by decide)
theorem vin_0_900 : vp_in (0 : Int32) 900 := zz_vin (by decide) (by decide)
theorem vin_0_1177 : vp_in (0 : Int32) 1177 := zz_vin (by decide) (by decide)
theorem vin_0_3531 : vp_in (0 : Int32) 3531 := zz_vin (by decide) (by decide)
theorem vin_1_5 : vp_in (1 : Int32) 5 := zz_vin (by decide) (by decide)
theorem vin_1_8 : vp_in (1 : Int32) 8 := zz_vin (by decide) (by decide)
theorem vin_1_1177 : vp_in (1 : Int32) 1177 := zz_vin (by decide) (by decide)
theorem vin_1_3531 : vp_in (1 : Int32) 3531 := zz_vin (by decide) (by decide)
theorem vin_2_5 : vp_in (2 : Int32) 5 := zz_vin (by decide) (by decide)
theorem vin_2_8 : vp_in (2 : Int32) 8 := zz_vin (by decide) (by decide)
theorem vin_2_1177 : vp_in (2 : Int32) 1177 := zz_vin (by decide) (by decide)
theorem vin_2_3531 : vp_in (2 : Int32) 3531 := zz_vin (by decide) (by decide)
theorem vin_3_5 : vp_in (3 : Int32) 5 := zz_vin (by decide) (by decide)
theorem vin_3_8 : vp_in (3 : Int32) 8 := zz_vin (by decide) (by decide)
theorem vin_3_1177 : vp_in (3 : Int32) 1177 := zz_vin (by decide) (by decide)
theorem vin_3_3531 : vp_in (3 : Int32) 3531 := zz_vin (by decide) (by decide)
theorem vin_4_5 : vp_in (4 : Int32) 5 := zz_vin (by decide) (by decide)
theorem vin_4_8 : vp_in (4 : Int32) 8 := zz_vin (by decide) (by decide)
theorem vin_4_1177 : vp_in (4 : Int32) 1177 := zz_vin (by decide) (by decide)
theorem vin_4_3531 : vp_in (4 : Int32) 3531 := zz_vin (by decide) (by decide)
theorem vin_5_8 : vp_in (5 : Int32) 8 := zz_vin (by decide) (by decide)
theorem vin_5_1177 : vp_in (5 : Int32) 1177 := zz_vin (by decide) (by decide)
theorem vin_5_3531 : vp_in (5 : Int32) 3531 := zz_vin (by decide) (by decide)
theorem vin_6_3531 : vp_in (6 : Int32) 3531 := zz_vin (by decide) (by decide)
theorem vin_7_8 : vp_in (7 : Int32) 8 := zz_vin (by decide) (by decide)
theorem vin_7_3531 : vp_in (7 : Int32) 3531 := zz_vin (by decide) (by decide)
theorem vin_8_19 : vp_in (8 : Int32) 19 := zz_vin (by decide) (by decide)
theorem vin_74_1177 : vp_in (74 : Int32) 1177 := zz_vin (by decide) (by decide)
theorem vin_74_3531 : vp_in (74 : Int32) 3531 := zz_vin (by decide) (by decide)
theorem vin_85_3531 : vp_in (85 : Int32) 3531 := zz_vin (by decide) (by decide)
theorem vin_276_1177 : vp_in (276 : Int32) 1177 := zz_vin (by decide) (by decide)
theorem clp_0 : (0 : Int32).toNatClampNeg = 0 := by decide
theorem clp_1 : (1 : Int32).toNatClampNeg = 1 := by decide
theorem clp_2 : (2 : Int32).toNatClampNeg = 2 := by decide
theorem clp_3 : (3 : Int32).toNatClampNeg = 3 := by decide
theorem clp_4 : (4 : Int32).toNatClampNeg = 4 := by decide
theorem clp_5 : (5 : Int32).toNatClampNeg = 5 := by decide
theorem clp_6 : (6 : Int32).toNatClampNeg = 6 := by decide
theorem clp_7 : (7 : Int32).toNatClampNeg = 7 := by decide
theorem clp_8 : (8 : Int32).toNatClampNeg = 8 := by decide
theorem clp_9 : (9 : Int32).toNatClampNeg = 9 := by decide
theorem clp_10 : (10 : Int32).toNatClampNeg = 10 := by decide
theorem clp_12 : (12 : Int32).toNatClampNeg = 12 := by decide
theorem clp_74 : (74 : Int32).toNatClampNeg = 74 := by decide
theorem clp_85 : (85 : Int32).toNatClampNeg = 85 := by decide
theorem clp_276 : (276 : Int32).toNatClampNeg = 276 := by decide
theorem clp_900 : (900 : Int32).toNatClampNeg = 900 := by decide
theorem al_4 : Int32.ofNat 4 = (4 : Int32) := by decide
theorem al_5 : Int32.ofNat 5 = (5 : Int32) := by decide
theorem al_8 : Int32.ofNat 8 = (8 : Int32) := by decide
theorem al_9 : Int32.ofNat 9 = (9 : Int32) := by decide
theorem al_10 : Int32.ofNat 10 = (10 : Int32) := by decide
theorem al_12 : Int32.ofNat 12 = (12 : Int32) := by decide
theorem al_40 : Int32.ofNat 40 = (40 : Int32) := by decide
theorem al_64 : Int32.ofNat 64 = (64 : Int32) := by decide
theorem al_900 : Int32.ofNat 900 = (900 : Int32) := by decide
theorem al_2048 : Int32.ofNat 2048 = (2048 : Int32) := by decide
theorem fs_J0_38 : Cond.fieldLink RJ0 38 "java/lang/String" "COMPACT_STRINGS" "Z" ∈ zz_tbl := zz_mem 765 (by decide +kernel) rfl
theorem fs_J0_15 : Cond.fieldLink RJ0 15 "java/lang/String" "coder" "B" ∈ zz_tbl := zz_mem 2134 (by decide +kernel) rfl
theorem fs_J0_9 : Cond.fieldLink RJ0 9 "java/lang/String" "value" "[B" ∈ zz_tbl := zz_mem 2135 (by decide +kernel) rfl
theorem lv_J0_335 : zz_LV RJ0 335 mJ0_coder_7d493 := ⟨zz_mem 771 (by decide +kernel) rfl, zz_mem 772 (by decide +kernel) rfl, zz_mem 773 (by decide +kernel) rfl⟩
theorem ok_J0_coder_7d493 : zz_ok mJ0_coder_7d493 0 := ⟨zz_mem 774 (by decide +kernel) rfl, zz_mem 144 (by decide +kernel) rfl, ⟨by decide +kernel, by decide +kernel, by decide +kernel⟩, (Nat.le_of_ble_eq_true rfl)⟩
theorem ls_J1_88 : zz_LS RJ1 88 mJ1_canEncode_9a6ad := ⟨zz_mem 778 (by decide +kernel) rfl, zz_mem 779 (by decide +kernel) rfl⟩
theorem ok_J1_canEncode_9a6ad : zz_ok mJ1_canEncode_9a6ad 1 := ⟨zz_mem 780 (by decide +kernel) rfl, zz_mem 145 (by decide +kernel) rfl, ⟨by decide +kernel, by decide +kernel, by decide +kernel⟩, (Nat.le_of_ble_eq_true rfl)⟩
theorem ls_J1_92 : zz_LS RJ1 92 mJ9_max_7cf53 := ⟨zz_mem 781 (by decide +kernel) rfl, zz_mem 716 (by decide +kernel) rfl⟩
theorem ok_J9_max_7cf53 : zz_ok mJ9_max_7cf53 2 := ⟨zz_mem 717 (by decide +kernel) rfl, zz_mem 142 (by decide +kernel) rfl, ⟨by decide +kernel, by decide +kernel, by decide +kernel⟩, (Nat.le_of_ble_eq_true rfl)⟩
theorem ls_J1_38 : zz_LS RJ1 38 mJ9_min_7cf53 := ⟨zz_mem 782 (by decide +kernel) rfl, zz_mem 617 (by decide +kernel) rfl⟩
theorem ok_J9_min_7cf53 : zz_ok mJ9_min_7cf53 2 := ⟨zz_mem 618 (by decide +kernel) rfl, zz_mem 142 (by decide +kernel) rfl, ⟨by decide +kernel, by decide +kernel, by decide +kernel⟩, (Nat.le_of_ble_eq_true rfl)⟩
theorem ls_J1_95 : zz_LS RJ1 95 mJ1_indexOfChar_4cfef := ⟨zz_mem 783 (by decide +kernel) rfl, zz_mem 784 (by decide +kernel) rfl⟩
theorem ok_J1_indexOfChar_4cfef : zz_ok mJ1_indexOfChar_4cfef 4 := ⟨zz_mem 785 (by decide +kernel) rfl, zz_mem 145 (by decide +kernel) rfl, ⟨by decide +kernel, by decide +kernel, by decide +kernel⟩, (Nat.le_of_ble_eq_true rfl)⟩
theorem lv_J0_492 : zz_LV RJ0 492 mJ0_isLatin1_aae02 := ⟨zz_mem 761 (by decide +kernel) rfl, zz_mem 762 (by decide +kernel) rfl, zz_mem 763 (by decide +kernel) rfl⟩
theorem ok_J0_isLatin1_aae02 : zz_ok mJ0_isLatin1_aae02 0 := ⟨zz_mem 764 (by decide +kernel) rfl, zz_mem 144 (by decide +kernel) rfl, ⟨by decide +kernel, by decide +kernel, by decide +kernel⟩, (Nat.le_of_ble_eq_true rfl)⟩
theorem lv_J0_505 : zz_LV RJ0 505 mJ0_length_8abf5 := ⟨zz_mem 767 (by decide +kernel) rfl, zz_mem 768 (by decide +kernel) rfl, zz_mem 769 (by decide +kernel) rfl⟩
theorem ok_J0_length_8abf5 : zz_ok mJ0_length_8abf5 0 := ⟨zz_mem 770 (by decide +kernel) rfl, zz_mem 144 (by decide +kernel) rfl, ⟨by decide +kernel, by decide +kernel, by decide +kernel⟩, (Nat.le_of_ble_eq_true rfl)⟩
theorem ls_J0_637 : zz_LS RJ0 637 mJ1_indexOf_4cfef := ⟨zz_mem 775 (by decide +kernel) rfl, zz_mem 776 (by decide +kernel) rfl⟩
theorem ok_J1_indexOf_4cfef : zz_ok mJ1_indexOf_4cfef 4 := ⟨zz_mem 777 (by decide +kernel) rfl, zz_mem 145 (by decide +kernel) rfl, ⟨by decide +kernel, by decide +kernel, by decide +kernel⟩, (Nat.le_of_ble_eq_true rfl)⟩
theorem lv_J0_633 : zz_LV RJ0 633 mJ0_indexOf_7cf53 := ⟨zz_mem 757 (by decide +kernel) rfl, zz_mem 758 (by decide +kernel) rfl, zz_mem 759 (by decide +kernel) rfl⟩
theorem ok_J0_indexOf_7cf53 : zz_ok mJ0_indexOf_7cf53 2 := ⟨zz_mem 760 (by decide +kernel) rfl, zz_mem 144 (by decide +kernel) rfl, ⟨by decide +kernel, by decide +kernel, by decide +kernel⟩, (Nat.le_of_ble_eq_true rfl)⟩
theorem ls_J0_495 : zz_LS RJ0 495 mJ1_charAt_3b067 := ⟨zz_mem 853 (by decide +kernel) rfl, zz_mem 854 (by decide +kernel) rfl⟩
theorem ok_J1_charAt_3b067 : zz_ok mJ1_charAt_3b067 2 := ⟨zz_mem 855 (by decide +kernel) rfl, zz_mem 145 (by decide +kernel) rfl, ⟨by decide +kernel, by decide +kernel, by decide +kernel⟩, (Nat.le_of_ble_eq_true rfl)⟩
theorem fl_X9_9 : zz_FL RX9 9 9 0 (.array .int) true := ⟨RX9, TX9, 3, rfl, (Nat.le_of_ble_eq_true rfl), zz_mem 214 (by decide +kernel) rfl, inX9, ⟨tyX9, tyX9_ok, rfl⟩, nmX9, rfl⟩
theorem ac_X9_18 : Cond.methodLink RX9 18 arraycopyName ∈ zz_tbl := zz_mem 996 (by decide +kernel) rfl
theorem fl_X9_15 : zz_FL RX9 15 9 1 (.array .int) true := ⟨RX9, TX9, 3, rfl, (Nat.le_of_ble_eq_true rfl), zz_mem 219 (by decide +kernel) rfl, inX9, ⟨tyX9, tyX9_ok, rfl⟩, nmX9, rfl⟩
theorem fl_X9_24 : zz_FL RX9 24 9 2 (.int) false := ⟨RX9, TX9, 3, rfl, (Nat.le_of_ble_eq_true rfl), zz_mem 225 (by decide +kernel) rfl, inX9, ⟨tyX9, tyX9_ok, rfl⟩, nmX9, rfl⟩
theorem fl_X10_15 : zz_FL RX10 15 10 2 (.int) false := ⟨RX10, TX10, 3, rfl, (Nat.le_of_ble_eq_true rfl), zz_mem 569 (by decide +kernel) rfl, inX10, ⟨tyX10, tyX10_ok, rfl⟩, nmX10, rfl⟩
theorem fl_X10_19 : zz_FL RX10 19 10 1 (.int) false := ⟨RX10, TX10, 3, rfl, (Nat.le_of_ble_eq_true rfl), zz_mem 568 (by decide +kernel) rfl, inX10, ⟨tyX10, tyX10_ok, rfl⟩, nmX10, rfl⟩
theorem fl_X10_9 : zz_FL RX10 9 10 0 (.array .long) true := ⟨RX10, TX10, 3, rfl, (Nat.le_of_ble_eq_true rfl), zz_mem 566 (by decide +kernel) rfl, inX10, ⟨tyX10, tyX10_ok, rfl⟩, nmX10, rfl⟩
theorem ls_X10_22 : zz_LS RX10 22 mJ7_fill_d0a16 := ⟨zz_mem 1447 (by decide +kernel) rfl, zz_mem 1448 (by decide +kernel) rfl⟩
theorem ok_J7_fill_d0a16 : zz_ok mJ7_fill_d0a16 2 := ⟨zz_mem 1449 (by decide +kernel) rfl, zz_mem 141 (by decide +kernel) rfl, ⟨by decide +kernel, by decide +kernel, by decide +kernel⟩, (Nat.le_of_ble_eq_true rfl)⟩
theorem fl_X3_21 : zz_FL RX3 21 3 3 (.int) false := ⟨RX3, TX3, 8, rfl, (Nat.le_of_ble_eq_true rfl), zz_mem 175 (by decide +kernel) rfl, inX3, ⟨tyX3, tyX3_ok, rfl⟩, nmX3, rfl⟩
theorem fl_X3_25 : zz_FL RX3 25 3 4 (.int) false := ⟨RX3, TX3, 8, rfl, (Nat.le_of_ble_eq_true rfl), zz_mem 177 (by decide +kernel) rfl, inX3, ⟨tyX3, tyX3_ok, rfl⟩, nmX3, rfl⟩
theorem fl_X3_28 : zz_FL RX3 28 3 5 (.int) false := ⟨RX3, TX3, 8, rfl, (Nat.le_of_ble_eq_true rfl), zz_mem 180 (by decide +kernel) rfl, inX3, ⟨tyX3, tyX3_ok, rfl⟩, nmX3, rfl⟩
theorem fl_X3_31 : zz_FL RX3 31 3 6 (.int) false := ⟨RX3, TX3, 8, rfl, (Nat.le_of_ble_eq_true rfl), zz_mem 183 (by decide +kernel) rfl, inX3, ⟨tyX3, tyX3_ok, rfl⟩, nmX3, rfl⟩
theorem fl_X3_34 : zz_FL RX3 34 3 7 (.int) false := ⟨RX3, TX3, 8, rfl, (Nat.le_of_ble_eq_true rfl), zz_mem 186 (by decide +kernel) rfl, inX3, ⟨tyX3, tyX3_ok, rfl⟩, nmX3, rfl⟩
theorem fl_X3_9 : zz_FL RX3 9 3 0 (.array .int) true := ⟨RX3, TX3, 8, rfl, (Nat.le_of_ble_eq_true rfl), zz_mem 170 (by decide +kernel) rfl, inX3, ⟨tyX3, tyX3_ok, rfl⟩, nmX3, rfl⟩
theorem ac_X3_37 : Cond.methodLink RX3 37 arraycopyName ∈ zz_tbl := zz_mem 991 (by decide +kernel) rfl
theorem kc_X3_53 : Cond.constantLong RX3 53 (1000000 : Int64) ∈ zz_tbl := zz_mem 622 (by decide +kernel) rfl
theorem kc_X3_55 : Cond.constantLong RX3 55 (-1000000 : Int64) ∈ zz_tbl := zz_mem 623 (by decide +kernel) rfl
theorem fl_X3_18 : zz_FL RX3 18 3 2 (.array .int) true := ⟨RX3, TX3, 8, rfl, (Nat.le_of_ble_eq_true rfl), zz_mem 174 (by decide +kernel) rfl, inX3, ⟨tyX3, tyX3_ok, rfl⟩, nmX3, rfl⟩
theorem ls_X3_49 : zz_LS RX3 49 mX3_joined := ⟨zz_mem 619 (by decide +kernel) rfl, zz_mem 620 (by decide +kernel) rfl⟩
theorem ok_X3_joined : zz_ok mX3_joined 3 := ⟨zz_mem 621 (by decide +kernel) rfl, zz_mem 131 (by decide +kernel) rfl, ⟨by decide +kernel, by decide +kernel, by decide +kernel⟩, (Nat.le_of_ble_eq_true rfl)⟩
theorem fl_X3_15 : zz_FL RX3 15 3 1 (.array .int) true := ⟨RX3, TX3, 8, rfl, (Nat.le_of_ble_eq_true rfl), zz_mem 171 (by decide +kernel) rfl, inX3, ⟨tyX3, tyX3_ok, rfl⟩, nmX3, rfl⟩
theorem ls_X3_43 : zz_LS RX3 43 mJ9_min_7cf53 := ⟨zz_mem 616 (by decide +kernel) rfl, zz_mem 617 (by decide +kernel) rfl⟩
theorem fl_X5_18 : zz_FL RX5 18 5 2 (.int) false := ⟨RX5, TX5, 3, rfl, (Nat.le_of_ble_eq_true rfl), zz_mem 378 (by decide +kernel) rfl, inX5, ⟨tyX5, tyX5_ok, rfl⟩, nmX5, rfl⟩
theorem fl_X5_11 : zz_FL RX5 11 5 0 (.array (.object "PillarDesk$Stand")) true := ⟨RX5, TX5, 3, rfl, (Nat.le_of_ble_eq_true rfl), zz_mem 376 (by decide +kernel) rfl, inX5, ⟨tyX5, tyX5_ok, rfl⟩, nmX5, rfl⟩
theorem fl_X5_22 : zz_FL RX5 22 5 1 (.int) false := ⟨RX5, TX5, 3, rfl, (Nat.le_of_ble_eq_true rfl), zz_mem 377 (by decide +kernel) rfl, inX5, ⟨tyX5, tyX5_ok, rfl⟩, nmX5, rfl⟩
theorem lv_X5_25 : zz_LV RX5 25 mX9_copyFrom := ⟨zz_mem 1159 (by decide +kernel) rfl, zz_mem 993 (by decide +kernel) rfl, zz_mem 994 (by decide +kernel) rfl⟩
theorem ok_X9_copyFrom : zz_ok mX9_copyFrom 1 := ⟨zz_mem 995 (by decide +kernel) rfl, zz_mem 132 (by decide +kernel) rfl, ⟨by decide +kernel, by decide +kernel, by decide +kernel⟩, (Nat.le_of_ble_eq_true rfl)⟩
theorem ls_X5_29 : zz_LS RX5 29 mJ9_min_7cf53 := ⟨zz_mem 1160 (by decide +kernel) rfl, zz_mem 617 (by decide +kernel) rfl⟩
theorem ls_X5_35 : zz_LS RX5 35 mJ9_floorMod_7cf53 := ⟨zz_mem 1186 (by decide +kernel) rfl, zz_mem 602 (by decide +kernel) rfl⟩
theorem ok_J9_floorMod_7cf53 : zz_ok mJ9_floorMod_7cf53 2 := ⟨zz_mem 603 (by decide +kernel) rfl, zz_mem 142 (by decide +kernel) rfl, ⟨by decide +kernel, by decide +kernel, by decide +kernel⟩, (Nat.le_of_ble_eq_true rfl)⟩
theorem ls_X5_38 : zz_LS RX5 38 mJ9_max_7cf53 := ⟨zz_mem 1187 (by decide +kernel) rfl, zz_mem 716 (by decide +kernel) rfl⟩
theorem fl_X6_44 : zz_FL RX6 44 6 0 (.int) false := ⟨RX6, TX6, 14, rfl, (Nat.le_of_ble_eq_true rfl), zz_mem 236 (by decide +kernel) rfl, inX6, ⟨tyX6, tyX6_ok, rfl⟩, nmX6, rfl⟩
theorem fl_X6_48 : zz_FL RX6 48 6 1 (.int) false := ⟨RX6, TX6, 14, rfl, (Nat.le_of_ble_eq_true rfl), zz_mem 240 (by decide +kernel) rfl, inX6, ⟨tyX6, tyX6_ok, rfl⟩, nmX6, rfl⟩
theorem fl_X6_51 : zz_FL RX6 51 6 2 (.int) false := ⟨RX6, TX6, 14, rfl, (Nat.le_of_ble_eq_true rfl), zz_mem 245 (by decide +kernel) rfl, inX6, ⟨tyX6, tyX6_ok, rfl⟩, nmX6, rfl⟩
theorem fl_X6_54 : zz_FL RX6 54 6 3 (.int) false := ⟨RX6, TX6, 14, rfl, (Nat.le_of_ble_eq_true rfl), zz_mem 248 (by decide +kernel) rfl, inX6, ⟨tyX6, tyX6_ok, rfl⟩, nmX6, rfl⟩
theorem fl_X6_57 : zz_FL RX6 57 6 5 (.int) false := ⟨RX6, TX6, 14, rfl, (Nat.le_of_ble_eq_true rfl), zz_mem 255 (by decide +kernel) rfl, inX6, ⟨tyX6, tyX6_ok, rfl⟩, nmX6, rfl⟩
theorem fl_X6_60 : zz_FL RX6 60 6 10 (.int) false := ⟨RX6, TX6, 14, rfl, (Nat.le_of_ble_eq_true rfl), zz_mem 278 (by decide +kernel) rfl, inX6, ⟨tyX6, tyX6_ok, rfl⟩, nmX6, rfl⟩
theorem fl_X6_33 : zz_FL RX6 33 6 12 (.object "PillarDesk$Laws") true := ⟨RX6, TX6, 14, rfl, (Nat.le_of_ble_eq_true rfl), zz_mem 287 (by decide +kernel) rfl, inX6, ⟨tyX6, tyX6_ok, rfl⟩, nmX6, rfl⟩
theorem lv_X6_63 : zz_LV RX6 63 mX3_clear := ⟨zz_mem 722 (by decide +kernel) rfl, zz_mem 723 (by decide +kernel) rfl, zz_mem 724 (by decide +kernel) rfl⟩
theorem ok_X3_clear : zz_ok mX3_clear 0 := ⟨zz_mem 725 (by decide +kernel) rfl, zz_mem 131 (by decide +kernel) rfl, ⟨by decide +kernel, by decide +kernel, by decide +kernel⟩, (Nat.le_of_ble_eq_true rfl)⟩
theorem fl_X6_9 : zz_FL RX6 9 6 4 (.array .int) true := ⟨RX6, TX6, 14, rfl, (Nat.le_of_ble_eq_true rfl), zz_mem 251 (by decide +kernel) rfl, inX6, ⟨tyX6, tyX6_ok, rfl⟩, nmX6, rfl⟩
theorem ac_X6_66 : Cond.methodLink RX6 66 arraycopyName ∈ zz_tbl := zz_mem 984 (by decide +kernel) rfl
theorem fl_X6_15 : zz_FL RX6 15 6 6 (.array .int) true := ⟨RX6, TX6, 14, rfl, (Nat.le_of_ble_eq_true rfl), zz_mem 259 (by decide +kernel) rfl, inX6, ⟨tyX6, tyX6_ok, rfl⟩, nmX6, rfl⟩
theorem fl_X6_18 : zz_FL RX6 18 6 7 (.array .int) true := ⟨RX6, TX6, 14, rfl, (Nat.le_of_ble_eq_true rfl), zz_mem 265 (by decide +kernel) rfl, inX6, ⟨tyX6, tyX6_ok, rfl⟩, nmX6, rfl⟩
theorem fl_X6_21 : zz_FL RX6 21 6 8 (.array .int) true := ⟨RX6, TX6, 14, rfl, (Nat.le_of_ble_eq_true rfl), zz_mem 269 (by decide +kernel) rfl, inX6, ⟨tyX6, tyX6_ok, rfl⟩, nmX6, rfl⟩
theorem fl_X6_24 : zz_FL RX6 24 6 9 (.array .int) true := ⟨RX6, TX6, 14, rfl, (Nat.le_of_ble_eq_true rfl), zz_mem 273 (by decide +kernel) rfl, inX6, ⟨tyX6, tyX6_ok, rfl⟩, nmX6, rfl⟩
theorem fl_X6_27 : zz_FL RX6 27 6 11 (.array .int) true := ⟨RX6, TX6, 14, rfl, (Nat.le_of_ble_eq_true rfl), zz_mem 282 (by decide +kernel) rfl, inX6, ⟨tyX6, tyX6_ok, rfl⟩, nmX6, rfl⟩
theorem lv_X6_72 : zz_LV RX6 72 mX3_copyFrom := ⟨zz_mem 987 (by decide +kernel) rfl, zz_mem 988 (by decide +kernel) rfl, zz_mem 989 (by decide +kernel) rfl⟩
theorem ok_X3_copyFrom : zz_ok mX3_copyFrom 1 := ⟨zz_mem 990 (by decide +kernel) rfl, zz_mem 131 (by decide +kernel) rfl, ⟨by decide +kernel, by decide +kernel, by decide +kernel⟩, (Nat.le_of_ble_eq_true rfl)⟩
theorem fl_X6_40 : zz_FL RX6 40 6 13 (.object "PillarDesk$Stand") true := ⟨RX6, TX6, 14, rfl, (Nat.le_of_ble_eq_true rfl), zz_mem 291 (by decide +kernel) rfl, inX6, ⟨tyX6, tyX6_ok, rfl⟩, nmX6, rfl⟩
theorem lv_X6_76 : zz_LV RX6 76 mX9_copyFrom := ⟨zz_mem 992 (by decide +kernel) rfl, zz_mem 993 (by decide +kernel) rfl, zz_mem 994 (by decide +kernel) rfl⟩
theorem fl_X6_79 : zz_FL RX6 79 9 0 (.array .int) true := ⟨RX9, TX9, 3, rfl, (Nat.le_of_ble_eq_true rfl), zz_mem 217 (by decide +kernel) rfl, inX9, ⟨tyX9, tyX9_ok, rfl⟩, nmX9, rfl⟩
theorem lv_X6_82 : zz_LV RX6 82 mX6_hasInput := ⟨zz_mem 1150 (by decide +kernel) rfl, zz_mem 1010 (by decide +kernel) rfl, zz_mem 1011 (by decide +kernel) rfl⟩
theorem ok_X6_hasInput : zz_ok mX6_hasInput 1 := ⟨zz_mem 1012 (by decide +kernel) rfl, zz_mem 130 (by decide +kernel) rfl, ⟨by decide +kernel, by decide +kernel, by decide +kernel⟩, (Nat.le_of_ble_eq_true rfl)⟩
theorem fl_X6_86 : zz_FL RX6 86 9 2 (.int) false := ⟨RX9, TX9, 3, rfl, (Nat.le_of_ble_eq_true rfl), zz_mem 226 (by decide +kernel) rfl, inX9, ⟨tyX9, tyX9_ok, rfl⟩, nmX9, rfl⟩
theorem lv_X6_89 : zz_LV RX6 89 mX6_hasFlow := ⟨zz_mem 1177 (by decide +kernel) rfl, zz_mem 1114 (by decide +kernel) rfl, zz_mem 1115 (by decide +kernel) rfl⟩
theorem ok_X6_hasFlow : zz_ok mX6_hasFlow 1 := ⟨zz_mem 1116 (by decide +kernel) rfl, zz_mem 130 (by decide +kernel) rfl, ⟨by decide +kernel, by decide +kernel, by decide +kernel⟩, (Nat.le_of_ble_eq_true rfl)⟩
theorem fl_X6_92 : zz_FL RX6 92 9 1 (.array .int) true := ⟨RX9, TX9, 3, rfl, (Nat.le_of_ble_eq_true rfl), zz_mem 222 (by decide +kernel) rfl, inX9, ⟨tyX9, tyX9_ok, rfl⟩, nmX9, rfl⟩
theorem kc_X6_95 : Cond.constantLong RX6 95 (10 : Int64) ∈ zz_tbl := zz_mem 1208 (by decide +kernel) rfl
theorem kc_X6_97 : Cond.constantLong RX6 97 (19 : Int64) ∈ zz_tbl := zz_mem 1209 (by decide +kernel) rfl
theorem lv_X6_99 : zz_LV RX6 99 mX6_doShift := ⟨zz_mem 1210 (by decide +kernel) rfl, zz_mem 1166 (by decide +kernel) rfl, zz_mem 1167 (by decide +kernel) rfl⟩
theorem ok_X6_doShift : zz_ok mX6_doShift 2 := ⟨zz_mem 1168 (by decide +kernel) rfl, zz_mem 130 (by decide +kernel) rfl, ⟨by decide +kernel, by decide +kernel, by decide +kernel⟩, (Nat.le_of_ble_eq_true rfl)⟩
theorem kc_X6_103 : Cond.constantLong RX6 103 (1000 : Int64) ∈ zz_tbl := zz_mem 1211 (by decide +kernel) rfl
theorem kc_X6_105 : Cond.constantLong RX6 105 (8999 : Int64) ∈ zz_tbl := zz_mem 1212 (by decide +kernel) rfl
theorem lv_X6_107 : zz_LV RX6 107 mX6_doBump := ⟨zz_mem 1213 (by decide +kernel) rfl, zz_mem 1147 (by decide +kernel) rfl, zz_mem 1148 (by decide +kernel) rfl⟩
theorem ok_X6_doBump : zz_ok mX6_doBump 3 := ⟨zz_mem 1149 (by decide +kernel) rfl, zz_mem 130 (by decide +kernel) rfl, ⟨by decide +kernel, by decide +kernel, by decide +kernel⟩, (Nat.le_of_ble_eq_true rfl)⟩
theorem kc_X6_111 : Cond.constantLong RX6 111 (10000 : Int64) ∈ zz_tbl := zz_mem 1214 (by decide +kernel) rfl
theorem kc_X6_113 : Cond.constantLong RX6 113 (29999 : Int64) ∈ zz_tbl := zz_mem 1215 (by decide +kernel) rfl
theorem lv_X6_115 : zz_LV RX6 115 mX6_doAmount := ⟨zz_mem 1216 (by decide +kernel) rfl, zz_mem 1174 (by decide +kernel) rfl, zz_mem 1175 (by decide +kernel) rfl⟩
theorem ok_X6_doAmount : zz_ok mX6_doAmount 3 := ⟨zz_mem 1176 (by decide +kernel) rfl, zz_mem 130 (by decide +kernel) rfl, ⟨by decide +kernel, by decide +kernel, by decide +kernel⟩, (Nat.le_of_ble_eq_true rfl)⟩
theorem ls_X11_294 : zz_LS RX11 294 mJ9_min_7cf53 := ⟨zz_mem 1037 (by decide +kernel) rfl, zz_mem 617 (by decide +kernel) rfl⟩
theorem ls_X11_299 : zz_LS RX11 299 mJ9_max_7cf53 := ⟨zz_mem 1038 (by decide +kernel) rfl, zz_mem 716 (by decide +kernel) rfl⟩
theorem fl_X11_42 : zz_FL RX11 42 11 8 (.array (.object "PillarDesk$Tray")) true := ⟨RX11, TX11, 20, rfl, (Nat.le_of_ble_eq_true rfl), zz_mem 645 (by decide +kernel) rfl, inX11, ⟨tyX11, tyX11_ok, rfl⟩, nmX11, rfl⟩
theorem fl_X0_7 : zz_FL RX0 7 0 1 (.array .byte) true := ⟨RX0, TX0, 2, rfl, (Nat.le_of_ble_eq_true rfl), zz_mem 402 (by decide +kernel) rfl, inX0, ⟨tyX0, tyX0_ok, rfl⟩, nmX0, rfl⟩
theorem ls_X0_17 : zz_LS RX0 17 mJ7_fill_031fb := ⟨zz_mem 586 (by decide +kernel) rfl, zz_mem 587 (by decide +kernel) rfl⟩
theorem ok_J7_fill_031fb : zz_ok mJ7_fill_031fb 2 := ⟨zz_mem 588 (by decide +kernel) rfl, zz_mem 141 (by decide +kernel) rfl, ⟨by decide +kernel, by decide +kernel, by decide +kernel⟩, (Nat.le_of_ble_eq_true rfl)⟩
theorem fl_X0_13 : zz_FL RX0 13 0 0 (.object "PillarDesk$Plan") true := ⟨RX0, TX0, 2, rfl, (Nat.le_of_ble_eq_true rfl), zz_mem 401 (by decide +kernel) rfl, inX0, ⟨tyX0, tyX0_ok, rfl⟩, nmX0, rfl⟩
theorem fl_X0_27 : zz_FL RX0 27 6 0 (.int) false := ⟨RX6, TX6, 14, rfl, (Nat.le_of_ble_eq_true rfl), zz_mem 237 (by decide +kernel) rfl, inX6, ⟨tyX6, tyX6_ok, rfl⟩, nmX6, rfl⟩
theorem ls_X0_33 : zz_LS RX0 33 mJ9_floorMod_7cf53 := ⟨zz_mem 601 (by decide +kernel) rfl, zz_mem 602 (by decide +kernel) rfl⟩
theorem lv_X0_39 : zz_LV RX0 39 mX6_isHoliday := ⟨zz_mem 604 (by decide +kernel) rfl, zz_mem 605 (by decide +kernel) rfl, zz_mem 606 (by decide +kernel) rfl⟩
theorem ok_X6_isHoliday : zz_ok mX6_isHoliday 1 := ⟨zz_mem 607 (by decide +kernel) rfl, zz_mem 130 (by decide +kernel) rfl, ⟨by decide +kernel, by decide +kernel, by decide +kernel⟩, (Nat.le_of_ble_eq_true rfl)⟩
theorem fl_X0_42 : zz_FL RX0 42 6 12 (.object "PillarDesk$Laws") true := ⟨RX6, TX6, 14, rfl, (Nat.le_of_ble_eq_true rfl), zz_mem 289 (by decide +kernel) rfl, inX6, ⟨tyX6, tyX6_ok, rfl⟩, nmX6, rfl⟩
theorem lv_X0_46 : zz_LV RX0 46 mX3_hasOpens := ⟨zz_mem 608 (by decide +kernel) rfl, zz_mem 609 (by decide +kernel) rfl, zz_mem 610 (by decide +kernel) rfl⟩
theorem ok_X3_hasOpens : zz_ok mX3_hasOpens 0 := ⟨zz_mem 611 (by decide +kernel) rfl, zz_mem 131 (by decide +kernel) rfl, ⟨by decide +kernel, by decide +kernel, by decide +kernel⟩, (Nat.le_of_ble_eq_true rfl)⟩
theorem fl_X0_52 : zz_FL RX0 52 3 1 (.array .int) true := ⟨RX3, TX3, 8, rfl, (Nat.le_of_ble_eq_true rfl), zz_mem 173 (by decide +kernel) rfl, inX3, ⟨tyX3, tyX3_ok, rfl⟩, nmX3, rfl⟩
theorem fl_X0_56 : zz_FL RX0 56 3 6 (.int) false := ⟨RX3, TX3, 8, rfl, (Nat.le_of_ble_eq_true rfl), zz_mem 184 (by decide +kernel) rfl, inX3, ⟨tyX3, tyX3_ok, rfl⟩, nmX3, rfl⟩
theorem fl_X0_59 : zz_FL RX0 59 3 7 (.int) false := ⟨RX3, TX3, 8, rfl, (Nat.le_of_ble_eq_true rfl), zz_mem 187 (by decide +kernel) rfl, inX3, ⟨tyX3, tyX3_ok, rfl⟩, nmX3, rfl⟩
theorem lv_X0_62 : zz_LV RX0 62 mX3_value := ⟨zz_mem 612 (by decide +kernel) rfl, zz_mem 613 (by decide +kernel) rfl, zz_mem 614 (by decide +kernel) rfl⟩
theorem ok_X3_value : zz_ok mX3_value 2 := ⟨zz_mem 615 (by decide +kernel) rfl, zz_mem 131 (by decide +kernel) rfl, ⟨by decide +kernel, by decide +kernel, by decide +kernel⟩, (Nat.le_of_ble_eq_true rfl)⟩
theorem lv_X0_23 : zz_LV RX0 23 mX0_isOpenByRule := ⟨zz_mem 597 (by decide +kernel) rfl, zz_mem 599 (by decide +kernel) rfl, zz_mem 0 (by decide +kernel) rfl⟩
theorem ok_X0_isOpenByRule : zz_ok mX0_isOpenByRule 1 := ⟨zz_mem 600 (by decide +kernel) rfl, zz_mem 136 (by decide +kernel) rfl, ⟨by decide +kernel, by decide +kernel, by decide +kernel⟩, (Nat.le_of_ble_eq_true rfl)⟩
theorem lv_X0_65 : zz_LV RX0 65 mX0_isOpen := ⟨zz_mem 593 (by decide +kernel) rfl, zz_mem 594 (by decide +kernel) rfl, zz_mem 595 (by decide +kernel) rfl⟩
theorem ok_X0_isOpen : zz_ok mX0_isOpen 1 := ⟨zz_mem 596 (by decide +kernel) rfl, zz_mem 136 (by decide +kernel) rfl, ⟨by decide +kernel, by decide +kernel, by decide +kernel⟩, (Nat.le_of_ble_eq_true rfl)⟩
theorem fl_X8_36 : zz_FL RX8 36 8 0 (.object "PillarDesk$Plan") true := ⟨RX8, TX8, 11, rfl, (Nat.le_of_ble_eq_true rfl), zz_mem 408 (by decide +kernel) rfl, inX8, ⟨tyX8, tyX8_ok, rfl⟩, nmX8, rfl⟩
theorem fl_X8_81 : zz_FL RX8 81 6 9 (.array .int) true := ⟨RX6, TX6, 14, rfl, (Nat.le_of_ble_eq_true rfl), zz_mem 274 (by decide +kernel) rfl, inX6, ⟨tyX6, tyX6_ok, rfl⟩, nmX6, rfl⟩
theorem fl_X8_68 : zz_FL RX8 68 6 8 (.array .int) true := ⟨RX6, TX6, 14, rfl, (Nat.le_of_ble_eq_true rfl), zz_mem 270 (by decide +kernel) rfl, inX6, ⟨tyX6, tyX6_ok, rfl⟩, nmX6, rfl⟩
theorem ls_X8_84 : zz_LS RX8 84 mJ9_min_7cf53 := ⟨zz_mem 628 (by decide +kernel) rfl, zz_mem 617 (by decide +kernel) rfl⟩
theorem fl_X8_18 : zz_FL RX8 18 8 4 (.array .int) true := ⟨RX8, TX8, 11, rfl, (Nat.le_of_ble_eq_true rfl), zz_mem 419 (by decide +kernel) rfl, inX8, ⟨tyX8, tyX8_ok, rfl⟩, nmX8, rfl⟩
theorem fl_X8_21 : zz_FL RX8 21 8 5 (.array .int) true := ⟨RX8, TX8, 11, rfl, (Nat.le_of_ble_eq_true rfl), zz_mem 423 (by decide +kernel) rfl, inX8, ⟨tyX8, tyX8_ok, rfl⟩, nmX8, rfl⟩
theorem fl_X8_45 : zz_FL RX8 45 8 1 (.object "PillarDesk$Calendar") true := ⟨RX8, TX8, 11, rfl, (Nat.le_of_ble_eq_true rfl), zz_mem 409 (by decide +kernel) rfl, inX8, ⟨tyX8, tyX8_ok, rfl⟩, nmX8, rfl⟩
theorem lv_X8_64 : zz_LV RX8 64 mX0_putOff := ⟨zz_mem 589 (by decide +kernel) rfl, zz_mem 590 (by decide +kernel) rfl, zz_mem 591 (by decide +kernel) rfl⟩
theorem ok_X0_putOff : zz_ok mX0_putOff 1 := ⟨zz_mem 592 (by decide +kernel) rfl, zz_mem 136 (by decide +kernel) rfl, ⟨by decide +kernel, by decide +kernel, by decide +kernel⟩, (Nat.le_of_ble_eq_true rfl)⟩
theorem fl_X8_52 : zz_FL RX8 52 6 5 (.int) false := ⟨RX6, TX6, 14, rfl, (Nat.le_of_ble_eq_true rfl), zz_mem 253 (by decide +kernel) rfl, inX6, ⟨tyX6, tyX6_ok, rfl⟩, nmX6, rfl⟩
theorem fl_X8_15 : zz_FL RX8 15 8 3 (.array .int) true := ⟨RX8, TX8, 11, rfl, (Nat.le_of_ble_eq_true rfl), zz_mem 415 (by decide +kernel) rfl, inX8, ⟨tyX8, tyX8_ok, rfl⟩, nmX8, rfl⟩
theorem fl_X8_27 : zz_FL RX8 27 8 7 (.array .int) true := ⟨RX8, TX8, 11, rfl, (Nat.le_of_ble_eq_true rfl), zz_mem 426 (by decide +kernel) rfl, inX8, ⟨tyX8, tyX8_ok, rfl⟩, nmX8, rfl⟩
theorem fl_X8_30 : zz_FL RX8 30 8 9 (.array .int) true := ⟨RX8, TX8, 11, rfl, (Nat.le_of_ble_eq_true rfl), zz_mem 431 (by decide +kernel) rfl, inX8, ⟨tyX8, tyX8_ok, rfl⟩, nmX8, rfl⟩
theorem fl_X8_33 : zz_FL RX8 33 8 10 (.array .int) true := ⟨RX8, TX8, 11, rfl, (Nat.le_of_ble_eq_true rfl), zz_mem 434 (by decide +kernel) rfl, inX8, ⟨tyX8, tyX8_ok, rfl⟩, nmX8, rfl⟩
theorem fl_X8_90 : zz_FL RX8 90 8 8 (.int) false := ⟨RX8, TX8, 11, rfl, (Nat.le_of_ble_eq_true rfl), zz_mem 428 (by decide +kernel) rfl, inX8, ⟨tyX8, tyX8_ok, rfl⟩, nmX8, rfl⟩
theorem fl_X8_9 : zz_FL RX8 9 8 2 (.array .int) true := ⟨RX8, TX8, 11, rfl, (Nat.le_of_ble_eq_true rfl), zz_mem 411 (by decide +kernel) rfl, inX8, ⟨tyX8, tyX8_ok, rfl⟩, nmX8, rfl⟩
theorem fl_X8_24 : zz_FL RX8 24 8 6 (.array .int) true := ⟨RX8, TX8, 11, rfl, (Nat.le_of_ble_eq_true rfl), zz_mem 424 (by decide +kernel) rfl, inX8, ⟨tyX8, tyX8_ok, rfl⟩, nmX8, rfl⟩
theorem lv_X8_49 : zz_LV RX8 49 mX0_forget := ⟨zz_mem 582 (by decide +kernel) rfl, zz_mem 583 (by decide +kernel) rfl, zz_mem 584 (by decide +kernel) rfl⟩
theorem ok_X0_forget : zz_ok mX0_forget 0 := ⟨zz_mem 585 (by decide +kernel) rfl, zz_mem 136 (by decide +kernel) rfl, ⟨by decide +kernel, by decide +kernel, by decide +kernel⟩, (Nat.le_of_ble_eq_true rfl)⟩
theorem fl_X8_58 : zz_FL RX8 58 6 6 (.array .int) true := ⟨RX6, TX6, 14, rfl, (Nat.le_of_ble_eq_true rfl), zz_mem 260 (by decide +kernel) rfl, inX6, ⟨tyX6, tyX6_ok, rfl⟩, nmX6, rfl⟩
theorem fl_X8_61 : zz_FL RX8 61 6 7 (.array .int) true := ⟨RX6, TX6, 14, rfl, (Nat.le_of_ble_eq_true rfl), zz_mem 266 (by decide +kernel) rfl, inX6, ⟨tyX6, tyX6_ok, rfl⟩, nmX6, rfl⟩
theorem lv_X8_71 : zz_LV RX8 71 mX8_layPeriods := ⟨zz_mem 624 (by decide +kernel) rfl, zz_mem 626 (by decide +kernel) rfl, zz_mem 1 (by decide +kernel) rfl⟩
theorem ok_X8_layPeriods : zz_ok mX8_layPeriods 1 := ⟨zz_mem 627 (by decide +kernel) rfl, zz_mem 135 (by decide +kernel) rfl, ⟨by decide +kernel, by decide +kernel, by decide +kernel⟩, (Nat.le_of_ble_eq_true rfl)⟩
theorem lv_X8_75 : zz_LV RX8 75 mX8_sortByEnds := ⟨zz_mem 629 (by decide +kernel) rfl, zz_mem 631 (by decide +kernel) rfl, zz_mem 2 (by decide +kernel) rfl⟩
theorem ok_X8_sortByEnds : zz_ok mX8_sortByEnds 0 := ⟨zz_mem 632 (by decide +kernel) rfl, zz_mem 135 (by decide +kernel) rfl, ⟨by decide +kernel, by decide +kernel, by decide +kernel⟩, (Nat.le_of_ble_eq_true rfl)⟩
theorem lv_X8_78 : zz_LV RX8 78 mX8_layPillars := ⟨zz_mem 633 (by decide +kernel) rfl, zz_mem 635 (by decide +kernel) rfl, zz_mem 3 (by decide +kernel) rfl⟩
theorem ok_X8_layPillars : zz_ok mX8_layPillars 0 := ⟨zz_mem 636 (by decide +kernel) rfl, zz_mem 135 (by decide +kernel) rfl, ⟨by decide +kernel, by decide +kernel, by decide +kernel⟩, (Nat.le_of_ble_eq_true rfl)⟩
theorem lv_X8_93 : zz_LV RX8 93 mX8_periodEnd := ⟨zz_mem 1055 (by decide +kernel) rfl, zz_mem 1056 (by decide +kernel) rfl, zz_mem 1057 (by decide +kernel) rfl⟩
theorem ok_X8_periodEnd : zz_ok mX8_periodEnd 2 := ⟨zz_mem 1058 (by decide +kernel) rfl, zz_mem 135 (by decide +kernel) rfl, ⟨by decide +kernel, by decide +kernel, by decide +kernel⟩, (Nat.le_of_ble_eq_true rfl)⟩
theorem lv_X8_96 : zz_LV RX8 96 mX8_pillarAt := ⟨zz_mem 1342 (by decide +kernel) rfl, zz_mem 1069 (by decide +kernel) rfl, zz_mem 1070 (by decide +kernel) rfl⟩
theorem ok_X8_pillarAt : zz_ok mX8_pillarAt 1 := ⟨zz_mem 1071 (by decide +kernel) rfl, zz_mem 135 (by decide +kernel) rfl, ⟨by decide +kernel, by decide +kernel, by decide +kernel⟩, (Nat.le_of_ble_eq_true rfl)⟩
theorem fl_X8_99 : zz_FL RX8 99 6 1 (.int) false := ⟨RX6, TX6, 14, rfl, (Nat.le_of_ble_eq_true rfl), zz_mem 242 (by decide +kernel) rfl, inX6, ⟨tyX6, tyX6_ok, rfl⟩, nmX6, rfl⟩
theorem fl_X1_9 : zz_FL RX1 9 1 2 (.array .int) true := ⟨RX1, TX1, 11, rfl, (Nat.le_of_ble_eq_true rfl), zz_mem 469 (by decide +kernel) rfl, inX1, ⟨tyX1, tyX1_ok, rfl⟩, nmX1, rfl⟩
theorem ac_X1_33 : Cond.methodLink RX1 33 arraycopyName ∈ zz_tbl := zz_mem 1295 (by decide +kernel) rfl
theorem fl_X1_15 : zz_FL RX1 15 1 3 (.array .int) true := ⟨RX1, TX1, 11, rfl, (Nat.le_of_ble_eq_true rfl), zz_mem 473 (by decide +kernel) rfl, inX1, ⟨tyX1, tyX1_ok, rfl⟩, nmX1, rfl⟩
theorem fl_X1_25 : zz_FL RX1 25 1 0 (.object "PillarDesk$Plan") true := ⟨RX1, TX1, 11, rfl, (Nat.le_of_ble_eq_true rfl), zz_mem 467 (by decide +kernel) rfl, inX1, ⟨tyX1, tyX1_ok, rfl⟩, nmX1, rfl⟩
theorem fl_X1_58 : zz_FL RX1 58 6 12 (.object "PillarDesk$Laws") true := ⟨RX6, TX6, 14, rfl, (Nat.le_of_ble_eq_true rfl), zz_mem 288 (by decide +kernel) rfl, inX6, ⟨tyX6, tyX6_ok, rfl⟩, nmX6, rfl⟩
theorem lv_X1_62 : zz_LV RX1 62 mX3_hasRates := ⟨zz_mem 1025 (by decide +kernel) rfl, zz_mem 1026 (by decide +kernel) rfl, zz_mem 1027 (by decide +kernel) rfl⟩
theorem ok_X3_hasRates : zz_ok mX3_hasRates 0 := ⟨zz_mem 1028 (by decide +kernel) rfl, zz_mem 131 (by decide +kernel) rfl, ⟨by decide +kernel, by decide +kernel, by decide +kernel⟩, (Nat.le_of_ble_eq_true rfl)⟩
theorem fl_X1_68 : zz_FL RX1 68 3 1 (.array .int) true := ⟨RX3, TX3, 8, rfl, (Nat.le_of_ble_eq_true rfl), zz_mem 172 (by decide +kernel) rfl, inX3, ⟨tyX3, tyX3_ok, rfl⟩, nmX3, rfl⟩
theorem fl_X1_29 : zz_FL RX1 29 1 1 (.object "PillarDesk$Schedule") true := ⟨RX1, TX1, 11, rfl, (Nat.le_of_ble_eq_true rfl), zz_mem 468 (by decide +kernel) rfl, inX1, ⟨tyX1, tyX1_ok, rfl⟩, nmX1, rfl⟩
theorem lv_X1_71 : zz_LV RX1 71 mX8_daysOf := ⟨zz_mem 1029 (by decide +kernel) rfl, zz_mem 1030 (by decide +kernel) rfl, zz_mem 1031 (by decide +kernel) rfl⟩
theorem ok_X8_daysOf : zz_ok mX8_daysOf 1 := ⟨zz_mem 1032 (by decide +kernel) rfl, zz_mem 135 (by decide +kernel) rfl, ⟨by decide +kernel, by decide +kernel, by decide +kernel⟩, (Nat.le_of_ble_eq_true rfl)⟩
theorem fl_X1_76 : zz_FL RX1 76 6 6 (.array .int) true := ⟨RX6, TX6, 14, rfl, (Nat.le_of_ble_eq_true rfl), zz_mem 262 (by decide +kernel) rfl, inX6, ⟨tyX6, tyX6_ok, rfl⟩, nmX6, rfl⟩
theorem fl_X1_79 : zz_FL RX1 79 3 4 (.int) false := ⟨RX3, TX3, 8, rfl, (Nat.le_of_ble_eq_true rfl), zz_mem 178 (by decide +kernel) rfl, inX3, ⟨tyX3, tyX3_ok, rfl⟩, nmX3, rfl⟩
theorem fl_X1_82 : zz_FL RX1 82 3 5 (.int) false := ⟨RX3, TX3, 8, rfl, (Nat.le_of_ble_eq_true rfl), zz_mem 181 (by decide +kernel) rfl, inX3, ⟨tyX3, tyX3_ok, rfl⟩, nmX3, rfl⟩
theorem lv_X1_85 : zz_LV RX1 85 mX3_value := ⟨zz_mem 1033 (by decide +kernel) rfl, zz_mem 613 (by decide +kernel) rfl, zz_mem 614 (by decide +kernel) rfl⟩
theorem fl_X1_39 : zz_FL RX1 39 6 5 (.int) false := ⟨RX6, TX6, 14, rfl, (Nat.le_of_ble_eq_true rfl), zz_mem 256 (by decide +kernel) rfl, inX6, ⟨tyX6, tyX6_ok, rfl⟩, nmX6, rfl⟩
theorem fl_X1_45 : zz_FL RX1 45 9 0 (.array .int) true := ⟨RX9, TX9, 3, rfl, (Nat.le_of_ble_eq_true rfl), zz_mem 215 (by decide +kernel) rfl, inX9, ⟨tyX9, tyX9_ok, rfl⟩, nmX9, rfl⟩
theorem lv_X1_50 : zz_LV RX1 50 mX1_rateByRule := ⟨zz_mem 1021 (by decide +kernel) rfl, zz_mem 1023 (by decide +kernel) rfl, zz_mem 34 (by decide +kernel) rfl⟩
theorem ok_X1_rateByRule : zz_ok mX1_rateByRule 3 := ⟨zz_mem 1024 (by decide +kernel) rfl, zz_mem 137 (by decide +kernel) rfl, ⟨by decide +kernel, by decide +kernel, by decide +kernel⟩, (Nat.le_of_ble_eq_true rfl)⟩
theorem ln_X1_54 : zz_LN RX1 54 mX11_inRateBounds := ⟨by decide +kernel, zz_mem 1035 (by decide +kernel) rfl⟩
theorem ok_X11_inRateBounds : zz_ok mX11_inRateBounds 1 := ⟨zz_mem 1036 (by decide +kernel) rfl, zz_mem 129 (by decide +kernel) rfl, ⟨by decide +kernel, by decide +kernel, by decide +kernel⟩, (Nat.le_of_ble_eq_true rfl)⟩
theorem lv_X1_190 : zz_LV RX1 190 mX8_pillarAt := ⟨zz_mem 1068 (by decide +kernel) rfl, zz_mem 1069 (by decide +kernel) rfl, zz_mem 1070 (by decide +kernel) rfl⟩
theorem fl_X1_95 : zz_FL RX1 95 8 8 (.int) false := ⟨RX8, TX8, 11, rfl, (Nat.le_of_ble_eq_true rfl), zz_mem 429 (by decide +kernel) rfl, inX8, ⟨tyX8, tyX8_ok, rfl⟩, nmX8, rfl⟩
theorem fl_X1_163 : zz_FL RX1 163 6 1 (.int) false := ⟨RX6, TX6, 14, rfl, (Nat.le_of_ble_eq_true rfl), zz_mem 241 (by decide +kernel) rfl, inX6, ⟨tyX6, tyX6_ok, rfl⟩, nmX6, rfl⟩
theorem fl_X1_102 : zz_FL RX1 102 8 9 (.array .int) true := ⟨RX8, TX8, 11, rfl, (Nat.le_of_ble_eq_true rfl), zz_mem 432 (by decide +kernel) rfl, inX8, ⟨tyX8, tyX8_ok, rfl⟩, nmX8, rfl⟩
theorem ls_X1_166 : zz_LS RX1 166 mJ9_floorDiv_f86c9 := ⟨zz_mem 1072 (by decide +kernel) rfl, zz_mem 1073 (by decide +kernel) rfl⟩
theorem ok_J9_floorDiv_f86c9 : zz_ok mJ9_floorDiv_f86c9 2 := ⟨zz_mem 1074 (by decide +kernel) rfl, zz_mem 142 (by decide +kernel) rfl, ⟨by decide +kernel, by decide +kernel, by decide +kernel⟩, (Nat.le_of_ble_eq_true rfl)⟩
theorem fl_X1_108 : zz_FL RX1 108 1 6 (.int) false := ⟨RX1, TX1, 11, rfl, (Nat.le_of_ble_eq_true rfl), zz_mem 477 (by decide +kernel) rfl, inX1, ⟨tyX1, tyX1_ok, rfl⟩, nmX1, rfl⟩
theorem fl_X1_18 : zz_FL RX1 18 1 4 (.array .long) true := ⟨RX1, TX1, 11, rfl, (Nat.le_of_ble_eq_true rfl), zz_mem 475 (by decide +kernel) rfl, inX1, ⟨tyX1, tyX1_ok, rfl⟩, nmX1, rfl⟩
theorem fl_X1_22 : zz_FL RX1 22 1 5 (.array .int) true := ⟨RX1, TX1, 11, rfl, (Nat.le_of_ble_eq_true rfl), zz_mem 476 (by decide +kernel) rfl, inX1, ⟨tyX1, tyX1_ok, rfl⟩, nmX1, rfl⟩
theorem fl_X1_140 : zz_FL RX1 140 1 8 (.long) false := ⟨RX1, TX1, 11, rfl, (Nat.le_of_ble_eq_true rfl), zz_mem 479 (by decide +kernel) rfl, inX1, ⟨tyX1, tyX1_ok, rfl⟩, nmX1, rfl⟩
theorem fl_X1_98 : zz_FL RX1 98 1 9 (.long) false := ⟨RX1, TX1, 11, rfl, (Nat.le_of_ble_eq_true rfl), zz_mem 480 (by decide +kernel) rfl, inX1, ⟨tyX1, tyX1_ok, rfl⟩, nmX1, rfl⟩
theorem lv_X1_160 : zz_LV RX1 160 mX1_factorAt := ⟨zz_mem 1064 (by decide +kernel) rfl, zz_mem 1065 (by decide +kernel) rfl, zz_mem 1066 (by decide +kernel) rfl⟩
theorem ok_X1_factorAt : zz_ok mX1_factorAt 1 := ⟨zz_mem 1067 (by decide +kernel) rfl, zz_mem 137 (by decide +kernel) rfl, ⟨by decide +kernel, by decide +kernel, by decide +kernel⟩, (Nat.le_of_ble_eq_true rfl)⟩
theorem fl_X1_137 : zz_FL RX1 137 1 7 (.long) false := ⟨RX1, TX1, 11, rfl, (Nat.le_of_ble_eq_true rfl), zz_mem 478 (by decide +kernel) rfl, inX1, ⟨tyX1, tyX1_ok, rfl⟩, nmX1, rfl⟩
theorem fl_X1_132 : zz_FL RX1 132 8 2 (.array .int) true := ⟨RX8, TX8, 11, rfl, (Nat.le_of_ble_eq_true rfl), zz_mem 413 (by decide +kernel) rfl, inX8, ⟨tyX8, tyX8_ok, rfl⟩, nmX8, rfl⟩
theorem kc_X1_135 : Cond.constantLong RX1 135 (3600000 : Int64) ∈ zz_tbl := zz_mem 1049 (by decide +kernel) rfl
theorem kc_X1_143 : Cond.constantLong RX1 143 (-3600000 : Int64) ∈ zz_tbl := zz_mem 1079 (by decide +kernel) rfl
theorem lv_X1_145 : zz_LV RX1 145 mX1_takeIn := ⟨zz_mem 1060 (by decide +kernel) rfl, zz_mem 1062 (by decide +kernel) rfl, zz_mem 36 (by decide +kernel) rfl⟩
theorem ok_X1_takeIn : zz_ok mX1_takeIn 3 := ⟨zz_mem 1063 (by decide +kernel) rfl, zz_mem 137 (by decide +kernel) rfl, ⟨by decide +kernel, by decide +kernel, by decide +kernel⟩, (Nat.le_of_ble_eq_true rfl)⟩
theorem kc_X1_149 : Cond.constantLong RX1 149 (3600000003599999 : Int64) ∈ zz_tbl := zz_mem 1050 (by decide +kernel) rfl
theorem fl_X1_151 : zz_FL RX1 151 8 4 (.array .int) true := ⟨RX8, TX8, 11, rfl, (Nat.le_of_ble_eq_true rfl), zz_mem 421 (by decide +kernel) rfl, inX8, ⟨tyX8, tyX8_ok, rfl⟩, nmX8, rfl⟩
theorem lv_X1_154 : zz_LV RX1 154 mX8_periodDays := ⟨zz_mem 1051 (by decide +kernel) rfl, zz_mem 1052 (by decide +kernel) rfl, zz_mem 1053 (by decide +kernel) rfl⟩
theorem ok_X8_periodDays : zz_ok mX8_periodDays 2 := ⟨zz_mem 1054 (by decide +kernel) rfl, zz_mem 135 (by decide +kernel) rfl, ⟨by decide +kernel, by decide +kernel, by decide +kernel⟩, (Nat.le_of_ble_eq_true rfl)⟩
theorem lv_X1_157 : zz_LV RX1 157 mX8_periodEnd := ⟨zz_mem 1059 (by decide +kernel) rfl, zz_mem 1056 (by decide +kernel) rfl, zz_mem 1057 (by decide +kernel) rfl⟩
theorem kc_X1_173 : Cond.constantLong RX1 173 (1000000000 : Int64) ∈ zz_tbl := zz_mem 1087 (by decide +kernel) rfl
theorem ls_X1_175 : zz_LS RX1 175 mJ9_min_f86c9 := ⟨zz_mem 1088 (by decide +kernel) rfl, zz_mem 1089 (by decide +kernel) rfl⟩
theorem ok_J9_min_f86c9 : zz_ok mJ9_min_f86c9 2 := ⟨zz_mem 1090 (by decide +kernel) rfl, zz_mem 142 (by decide +kernel) rfl, ⟨by decide +kernel, by decide +kernel, by decide +kernel⟩, (Nat.le_of_ble_eq_true rfl)⟩
theorem ls_X1_178 : zz_LS RX1 178 mJ9_max_f86c9 := ⟨zz_mem 1091 (by decide +kernel) rfl, zz_mem 1092 (by decide +kernel) rfl⟩
theorem ok_J9_max_f86c9 : zz_ok mJ9_max_f86c9 2 := ⟨zz_mem 1093 (by decide +kernel) rfl, zz_mem 142 (by decide +kernel) rfl, ⟨by decide +kernel, by decide +kernel, by decide +kernel⟩, (Nat.le_of_ble_eq_true rfl)⟩
theorem ls_X1_170 : zz_LS RX1 170 mX1_inFactorBounds := ⟨zz_mem 1084 (by decide +kernel) rfl, zz_mem 1085 (by decide +kernel) rfl⟩
theorem ok_X1_inFactorBounds : zz_ok mX1_inFactorBounds 1 := ⟨zz_mem 1086 (by decide +kernel) rfl, zz_mem 137 (by decide +kernel) rfl, ⟨by decide +kernel, by decide +kernel, by decide +kernel⟩, (Nat.le_of_ble_eq_true rfl)⟩
theorem fl_X1_105 : zz_FL RX1 105 1 10 (.int) false := ⟨RX1, TX1, 11, rfl, (Nat.le_of_ble_eq_true rfl), zz_mem 481 (by decide +kernel) rfl, inX1, ⟨tyX1, tyX1_ok, rfl⟩, nmX1, rfl⟩
theorem kc_X1_180 : Cond.constantLong RX1 180 (2000000000 : Int64) ∈ zz_tbl := zz_mem 1102 (by decide +kernel) rfl
theorem lv_X1_182 : zz_LV RX1 182 mX1_holds := ⟨zz_mem 1103 (by decide +kernel) rfl, zz_mem 1105 (by decide +kernel) rfl, zz_mem 41 (by decide +kernel) rfl⟩
theorem ok_X1_holds : zz_ok mX1_holds 1 := ⟨zz_mem 1106 (by decide +kernel) rfl, zz_mem 137 (by decide +kernel) rfl, ⟨by decide +kernel, by decide +kernel, by decide +kernel⟩, (Nat.le_of_ble_eq_true rfl)⟩
theorem kc_X1_186 : Cond.constantLong RX1 186 (1000000001 : Int64) ∈ zz_tbl := zz_mem 1107 (by decide +kernel) rfl
theorem kc_X1_188 : Cond.constantLong RX1 188 (2 : Int64) ∈ zz_tbl := zz_mem 1108 (by decide +kernel) rfl
theorem kc_X1_89 : Cond.constant RX1 89 (1000000000 : Int32) ∈ zz_tbl := zz_mem 1043 (by decide +kernel) rfl
theorem ls_X1_90 : zz_LS RX1 90 mJ9_max_7cf53 := ⟨zz_mem 1044 (by decide +kernel) rfl, zz_mem 716 (by decide +kernel) rfl⟩
theorem fl_X1_111 : zz_FL RX1 111 8 10 (.array .int) true := ⟨RX8, TX8, 11, rfl, (Nat.le_of_ble_eq_true rfl), zz_mem 435 (by decide +kernel) rfl, inX8, ⟨tyX8, tyX8_ok, rfl⟩, nmX8, rfl⟩
theorem lv_X1_118 : zz_LV RX1 118 mX1_askLoan := ⟨zz_mem 1075 (by decide +kernel) rfl, zz_mem 1077 (by decide +kernel) rfl, zz_mem 37 (by decide +kernel) rfl⟩
theorem ok_X1_askLoan : zz_ok mX1_askLoan 2 := ⟨zz_mem 1078 (by decide +kernel) rfl, zz_mem 137 (by decide +kernel) rfl, ⟨by decide +kernel, by decide +kernel, by decide +kernel⟩, (Nat.le_of_ble_eq_true rfl)⟩
theorem lv_X1_114 : zz_LV RX1 114 mX1_askSwap := ⟨zz_mem 1045 (by decide +kernel) rfl, zz_mem 1047 (by decide +kernel) rfl, zz_mem 35 (by decide +kernel) rfl⟩
theorem ok_X1_askSwap : zz_ok mX1_askSwap 2 := ⟨zz_mem 1048 (by decide +kernel) rfl, zz_mem 137 (by decide +kernel) rfl, ⟨by decide +kernel, by decide +kernel, by decide +kernel⟩, (Nat.le_of_ble_eq_true rfl)⟩
theorem lv_X1_125 : zz_LV RX1 125 mX1_guess := ⟨zz_mem 1094 (by decide +kernel) rfl, zz_mem 1096 (by decide +kernel) rfl, zz_mem 39 (by decide +kernel) rfl⟩
theorem ok_X1_guess : zz_ok mX1_guess 0 := ⟨zz_mem 1097 (by decide +kernel) rfl, zz_mem 137 (by decide +kernel) rfl, ⟨by decide +kernel, by decide +kernel, by decide +kernel⟩, (Nat.le_of_ble_eq_true rfl)⟩
theorem lv_X1_128 : zz_LV RX1 128 mX1_greatestFrom := ⟨zz_mem 1098 (by decide +kernel) rfl, zz_mem 1100 (by decide +kernel) rfl, zz_mem 40 (by decide +kernel) rfl⟩
theorem ok_X1_greatestFrom : zz_ok mX1_greatestFrom 1 := ⟨zz_mem 1101 (by decide +kernel) rfl, zz_mem 137 (by decide +kernel) rfl, ⟨by decide +kernel, by decide +kernel, by decide +kernel⟩, (Nat.le_of_ble_eq_true rfl)⟩
theorem lv_X1_121 : zz_LV RX1 121 mX1_greatestAtOnce := ⟨zz_mem 1080 (by decide +kernel) rfl, zz_mem 1082 (by decide +kernel) rfl, zz_mem 38 (by decide +kernel) rfl⟩
theorem ok_X1_greatestAtOnce : zz_ok mX1_greatestAtOnce 0 := ⟨zz_mem 1083 (by decide +kernel) rfl, zz_mem 137 (by decide +kernel) rfl, ⟨by decide +kernel, by decide +kernel, by decide +kernel⟩, (Nat.le_of_ble_eq_true rfl)⟩
theorem fl_X1_193 : zz_FL RX1 193 8 3 (.array .int) true := ⟨RX8, TX8, 11, rfl, (Nat.le_of_ble_eq_true rfl), zz_mem 418 (by decide +kernel) rfl, inX8, ⟨tyX8, tyX8_ok, rfl⟩, nmX8, rfl⟩
theorem fl_X1_196 : zz_FL RX1 196 6 10 (.int) false := ⟨RX6, TX6, 14, rfl, (Nat.le_of_ble_eq_true rfl), zz_mem 280 (by decide +kernel) rfl, inX6, ⟨tyX6, tyX6_ok, rfl⟩, nmX6, rfl⟩
theorem fl_X1_199 : zz_FL RX1 199 6 13 (.object "PillarDesk$Stand") true := ⟨RX6, TX6, 14, rfl, (Nat.le_of_ble_eq_true rfl), zz_mem 295 (by decide +kernel) rfl, inX6, ⟨tyX6, tyX6_ok, rfl⟩, nmX6, rfl⟩
theorem fl_X1_203 : zz_FL RX1 203 9 1 (.array .int) true := ⟨RX9, TX9, 3, rfl, (Nat.le_of_ble_eq_true rfl), zz_mem 223 (by decide +kernel) rfl, inX9, ⟨tyX9, tyX9_ok, rfl⟩, nmX9, rfl⟩
theorem fl_X1_206 : zz_FL RX1 206 6 11 (.array .int) true := ⟨RX6, TX6, 14, rfl, (Nat.le_of_ble_eq_true rfl), zz_mem 286 (by decide +kernel) rfl, inX6, ⟨tyX6, tyX6_ok, rfl⟩, nmX6, rfl⟩
theorem fl_X2_18 : zz_FL RX2 18 2 0 (.object "PillarDesk$Plan") true := ⟨RX2, TX2, 5, rfl, (Nat.le_of_ble_eq_true rfl), zz_mem 512 (by decide +kernel) rfl, inX2, ⟨tyX2, tyX2_ok, rfl⟩, nmX2, rfl⟩
theorem fl_X2_30 : zz_FL RX2 30 6 10 (.int) false := ⟨RX6, TX6, 14, rfl, (Nat.le_of_ble_eq_true rfl), zz_mem 277 (by decide +kernel) rfl, inX6, ⟨tyX6, tyX6_ok, rfl⟩, nmX6, rfl⟩
theorem fl_X2_36 : zz_FL RX2 36 6 13 (.object "PillarDesk$Stand") true := ⟨RX6, TX6, 14, rfl, (Nat.le_of_ble_eq_true rfl), zz_mem 292 (by decide +kernel) rfl, inX6, ⟨tyX6, tyX6_ok, rfl⟩, nmX6, rfl⟩
theorem fl_X2_40 : zz_FL RX2 40 9 1 (.array .int) true := ⟨RX9, TX9, 3, rfl, (Nat.le_of_ble_eq_true rfl), zz_mem 220 (by decide +kernel) rfl, inX9, ⟨tyX9, tyX9_ok, rfl⟩, nmX9, rfl⟩
theorem fl_X2_22 : zz_FL RX2 22 2 1 (.object "PillarDesk$Schedule") true := ⟨RX2, TX2, 5, rfl, (Nat.le_of_ble_eq_true rfl), zz_mem 513 (by decide +kernel) rfl, inX2, ⟨tyX2, tyX2_ok, rfl⟩, nmX2, rfl⟩
theorem fl_X2_46 : zz_FL RX2 46 6 11 (.array .int) true := ⟨RX6, TX6, 14, rfl, (Nat.le_of_ble_eq_true rfl), zz_mem 283 (by decide +kernel) rfl, inX6, ⟨tyX6, tyX6_ok, rfl⟩, nmX6, rfl⟩
theorem lv_X2_49 : zz_LV RX2 49 mX8_weight := ⟨zz_mem 1338 (by decide +kernel) rfl, zz_mem 1339 (by decide +kernel) rfl, zz_mem 1340 (by decide +kernel) rfl⟩
theorem ok_X8_weight : zz_ok mX8_weight 2 := ⟨zz_mem 1341 (by decide +kernel) rfl, zz_mem 135 (by decide +kernel) rfl, ⟨by decide +kernel, by decide +kernel, by decide +kernel⟩, (Nat.le_of_ble_eq_true rfl)⟩
theorem fl_X2_79 : zz_FL RX2 79 8 4 (.array .int) true := ⟨RX8, TX8, 11, rfl, (Nat.le_of_ble_eq_true rfl), zz_mem 420 (by decide +kernel) rfl, inX8, ⟨tyX8, tyX8_ok, rfl⟩, nmX8, rfl⟩
theorem fl_X2_26 : zz_FL RX2 26 2 2 (.object "PillarDesk$Curve") true := ⟨RX2, TX2, 5, rfl, (Nat.le_of_ble_eq_true rfl), zz_mem 514 (by decide +kernel) rfl, inX2, ⟨tyX2, tyX2_ok, rfl⟩, nmX2, rfl⟩
theorem fl_X2_67 : zz_FL RX2 67 1 2 (.array .int) true := ⟨RX1, TX1, 11, rfl, (Nat.le_of_ble_eq_true rfl), zz_mem 470 (by decide +kernel) rfl, inX1, ⟨tyX1, tyX1_ok, rfl⟩, nmX1, rfl⟩
theorem lv_X2_82 : zz_LV RX2 82 mX8_periodDays := ⟨zz_mem 1366 (by decide +kernel) rfl, zz_mem 1052 (by decide +kernel) rfl, zz_mem 1053 (by decide +kernel) rfl⟩
theorem lv_X2_85 : zz_LV RX2 85 mX8_periodEnd := ⟨zz_mem 1367 (by decide +kernel) rfl, zz_mem 1056 (by decide +kernel) rfl, zz_mem 1057 (by decide +kernel) rfl⟩
theorem kc_X2_55 : Cond.constantLong RX2 55 (3600000 : Int64) ∈ zz_tbl := zz_mem 1352 (by decide +kernel) rfl
theorem fl_X2_57 : zz_FL RX2 57 8 3 (.array .int) true := ⟨RX8, TX8, 11, rfl, (Nat.le_of_ble_eq_true rfl), zz_mem 416 (by decide +kernel) rfl, inX8, ⟨tyX8, tyX8_ok, rfl⟩, nmX8, rfl⟩
theorem fl_X2_60 : zz_FL RX2 60 6 6 (.array .int) true := ⟨RX6, TX6, 14, rfl, (Nat.le_of_ble_eq_true rfl), zz_mem 261 (by decide +kernel) rfl, inX6, ⟨tyX6, tyX6_ok, rfl⟩, nmX6, rfl⟩
theorem lv_X2_72 : zz_LV RX2 72 mX8_daysOf := ⟨zz_mem 1368 (by decide +kernel) rfl, zz_mem 1030 (by decide +kernel) rfl, zz_mem 1031 (by decide +kernel) rfl⟩
theorem fl_X2_76 : zz_FL RX2 76 8 2 (.array .int) true := ⟨RX8, TX8, 11, rfl, (Nat.le_of_ble_eq_true rfl), zz_mem 412 (by decide +kernel) rfl, inX8, ⟨tyX8, tyX8_ok, rfl⟩, nmX8, rfl⟩
theorem lv_X2_63 : zz_LV RX2 63 mX2_dueHang := ⟨zz_mem 1362 (by decide +kernel) rfl, zz_mem 1364 (by decide +kernel) rfl, zz_mem 51 (by decide +kernel) rfl⟩
theorem ok_X2_dueHang : zz_ok mX2_dueHang 2 := ⟨zz_mem 1365 (by decide +kernel) rfl, zz_mem 138 (by decide +kernel) rfl, ⟨by decide +kernel, by decide +kernel, by decide +kernel⟩, (Nat.le_of_ble_eq_true rfl)⟩
theorem fl_X2_101 : zz_FL RX2 101 8 10 (.array .int) true := ⟨RX8, TX8, 11, rfl, (Nat.le_of_ble_eq_true rfl), zz_mem 436 (by decide +kernel) rfl, inX8, ⟨tyX8, tyX8_ok, rfl⟩, nmX8, rfl⟩
theorem lv_X2_104 : zz_LV RX2 104 mX2_pieceHang := ⟨zz_mem 1358 (by decide +kernel) rfl, zz_mem 1360 (by decide +kernel) rfl, zz_mem 50 (by decide +kernel) rfl⟩
theorem ok_X2_pieceHang : zz_ok mX2_pieceHang 2 := ⟨zz_mem 1361 (by decide +kernel) rfl, zz_mem 138 (by decide +kernel) rfl, ⟨by decide +kernel, by decide +kernel, by decide +kernel⟩, (Nat.le_of_ble_eq_true rfl)⟩
theorem fl_X2_9 : zz_FL RX2 9 2 3 (.array .long) true := ⟨RX2, TX2, 5, rfl, (Nat.le_of_ble_eq_true rfl), zz_mem 515 (by decide +kernel) rfl, inX2, ⟨tyX2, tyX2_ok, rfl⟩, nmX2, rfl⟩
theorem kc_X2_107 : Cond.constantLong RX2 107 (2 : Int64) ∈ zz_tbl := zz_mem 1369 (by decide +kernel) rfl
theorem fl_X2_15 : zz_FL RX2 15 2 4 (.array .long) true := ⟨RX2, TX2, 5, rfl, (Nat.le_of_ble_eq_true rfl), zz_mem 517 (by decide +kernel) rfl, inX2, ⟨tyX2, tyX2_ok, rfl⟩, nmX2, rfl⟩
theorem ls_X2_109 : zz_LS RX2 109 mJ9_floorDiv_f86c9 := ⟨zz_mem 1370 (by decide +kernel) rfl, zz_mem 1073 (by decide +kernel) rfl⟩
theorem fl_X2_88 : zz_FL RX2 88 8 8 (.int) false := ⟨RX8, TX8, 11, rfl, (Nat.le_of_ble_eq_true rfl), zz_mem 427 (by decide +kernel) rfl, inX8, ⟨tyX8, tyX8_ok, rfl⟩, nmX8, rfl⟩
theorem lv_X2_91 : zz_LV RX2 91 mX2_bookHang := ⟨zz_mem 1351 (by decide +kernel) rfl, zz_mem 1335 (by decide +kernel) rfl, zz_mem 1336 (by decide +kernel) rfl⟩
theorem ok_X2_bookHang : zz_ok mX2_bookHang 1 := ⟨zz_mem 1337 (by decide +kernel) rfl, zz_mem 138 (by decide +kernel) rfl, ⟨by decide +kernel, by decide +kernel, by decide +kernel⟩, (Nat.le_of_ble_eq_true rfl)⟩
theorem kc_X2_95 : Cond.constantLong RX2 95 (1000 : Int64) ∈ zz_tbl := zz_mem 1353 (by decide +kernel) rfl
theorem lv_X2_97 : zz_LV RX2 97 mX2_takePieces := ⟨zz_mem 1354 (by decide +kernel) rfl, zz_mem 1356 (by decide +kernel) rfl, zz_mem 49 (by decide +kernel) rfl⟩
theorem ok_X2_takePieces : zz_ok mX2_takePieces 1 := ⟨zz_mem 1357 (by decide +kernel) rfl, zz_mem 138 (by decide +kernel) rfl, ⟨by decide +kernel, by decide +kernel, by decide +kernel⟩, (Nat.le_of_ble_eq_true rfl)⟩
theorem fl_X4_9 : zz_FL RX4 9 4 3 (.array .int) true := ⟨RX4, TX4, 7, rfl, (Nat.le_of_ble_eq_true rfl), zz_mem 539 (by decide +kernel) rfl, inX4, ⟨tyX4, tyX4_ok, rfl⟩, nmX4, rfl⟩
theorem kc_X4_79 : Cond.constantLong RX4 79 (6 : Int64) ∈ zz_tbl := zz_mem 1427 (by decide +kernel) rfl
theorem kc_X4_77 : Cond.constantLong RX4 77 (3 : Int64) ∈ zz_tbl := zz_mem 1426 (by decide +kernel) rfl
theorem kc_X4_75 : Cond.constantLong RX4 75 (2 : Int64) ∈ zz_tbl := zz_mem 1425 (by decide +kernel) rfl
theorem fl_X4_23 : zz_FL RX4 23 4 2 (.object "PillarDesk$Curve") true := ⟨RX4, TX4, 7, rfl, (Nat.le_of_ble_eq_true rfl), zz_mem 538 (by decide +kernel) rfl, inX4, ⟨tyX4, tyX4_ok, rfl⟩, nmX4, rfl⟩
theorem fl_X4_19 : zz_FL RX4 19 4 1 (.object "PillarDesk$Curve") true := ⟨RX4, TX4, 7, rfl, (Nat.le_of_ble_eq_true rfl), zz_mem 537 (by decide +kernel) rfl, inX4, ⟨tyX4, tyX4_ok, rfl⟩, nmX4, rfl⟩
theorem lv_X4_50 : zz_LV RX4 50 mX1_copyFrom := ⟨zz_mem 1420 (by decide +kernel) rfl, zz_mem 1292 (by decide +kernel) rfl, zz_mem 1293 (by decide +kernel) rfl⟩
theorem ok_X1_copyFrom : zz_ok mX1_copyFrom 1 := ⟨zz_mem 1294 (by decide +kernel) rfl, zz_mem 137 (by decide +kernel) rfl, ⟨by decide +kernel, by decide +kernel, by decide +kernel⟩, (Nat.le_of_ble_eq_true rfl)⟩
theorem lv_X4_56 : zz_LV RX4 56 mX4_orders := ⟨zz_mem 1421 (by decide +kernel) rfl, zz_mem 1423 (by decide +kernel) rfl, zz_mem 58 (by decide +kernel) rfl⟩
theorem ok_X4_orders : zz_ok mX4_orders 1 := ⟨zz_mem 1424 (by decide +kernel) rfl, zz_mem 139 (by decide +kernel) rfl, ⟨by decide +kernel, by decide +kernel, by decide +kernel⟩, (Nat.le_of_ble_eq_true rfl)⟩
theorem fl_X4_15 : zz_FL RX4 15 4 0 (.object "PillarDesk$Plan") true := ⟨RX4, TX4, 7, rfl, (Nat.le_of_ble_eq_true rfl), zz_mem 536 (by decide +kernel) rfl, inX4, ⟨tyX4, tyX4_ok, rfl⟩, nmX4, rfl⟩
theorem fl_X4_36 : zz_FL RX4 36 6 5 (.int) false := ⟨RX6, TX6, 14, rfl, (Nat.le_of_ble_eq_true rfl), zz_mem 254 (by decide +kernel) rfl, inX6, ⟨tyX6, tyX6_ok, rfl⟩, nmX6, rfl⟩
theorem fl_X4_60 : zz_FL RX4 60 1 2 (.array .int) true := ⟨RX1, TX1, 11, rfl, (Nat.le_of_ble_eq_true rfl), zz_mem 471 (by decide +kernel) rfl, inX1, ⟨tyX1, tyX1_ok, rfl⟩, nmX1, rfl⟩
theorem ln_X4_63 : zz_LN RX4 63 mX11_inRateBounds := ⟨by decide +kernel, zz_mem 1035 (by decide +kernel) rfl⟩
theorem lv_X4_67 : zz_LV RX4 67 mX1_solve := ⟨zz_mem 1429 (by decide +kernel) rfl, zz_mem 1040 (by decide +kernel) rfl, zz_mem 1041 (by decide +kernel) rfl⟩
theorem ok_X1_solve : zz_ok mX1_solve 1 := ⟨zz_mem 1042 (by decide +kernel) rfl, zz_mem 137 (by decide +kernel) rfl, ⟨by decide +kernel, by decide +kernel, by decide +kernel⟩, (Nat.le_of_ble_eq_true rfl)⟩
theorem lv_X4_71 : zz_LV RX4 71 mX1_bookWorth := ⟨zz_mem 1430 (by decide +kernel) rfl, zz_mem 1306 (by decide +kernel) rfl, zz_mem 1307 (by decide +kernel) rfl⟩
theorem ok_X1_bookWorth : zz_ok mX1_bookWorth 0 := ⟨zz_mem 1308 (by decide +kernel) rfl, zz_mem 137 (by decide +kernel) rfl, ⟨by decide +kernel, by decide +kernel, by decide +kernel⟩, (Nat.le_of_ble_eq_true rfl)⟩
theorem fl_X4_30 : zz_FL RX4 30 4 5 (.long) false := ⟨RX4, TX4, 7, rfl, (Nat.le_of_ble_eq_true rfl), zz_mem 542 (by decide +kernel) rfl, inX4, ⟨tyX4, tyX4_ok, rfl⟩, nmX4, rfl⟩
theorem fl_X4_33 : zz_FL RX4 33 4 6 (.long) false := ⟨RX4, TX4, 7, rfl, (Nat.le_of_ble_eq_true rfl), zz_mem 544 (by decide +kernel) rfl, inX4, ⟨tyX4, tyX4_ok, rfl⟩, nmX4, rfl⟩
theorem fl_X4_26 : zz_FL RX4 26 4 4 (.long) false := ⟨RX4, TX4, 7, rfl, (Nat.le_of_ble_eq_true rfl), zz_mem 540 (by decide +kernel) rfl, inX4, ⟨tyX4, tyX4_ok, rfl⟩, nmX4, rfl⟩
theorem lv_X4_42 : zz_LV RX4 42 mX4_drawInOrder := ⟨zz_mem 1412 (by decide +kernel) rfl, zz_mem 1414 (by decide +kernel) rfl, zz_mem 56 (by decide +kernel) rfl⟩
theorem ok_X4_drawInOrder : zz_ok mX4_drawInOrder 3 := ⟨zz_mem 1415 (by decide +kernel) rfl, zz_mem 139 (by decide +kernel) rfl, ⟨by decide +kernel, by decide +kernel, by decide +kernel⟩, (Nat.le_of_ble_eq_true rfl)⟩
theorem lv_X4_46 : zz_LV RX4 46 mX4_addDraw := ⟨zz_mem 1416 (by decide +kernel) rfl, zz_mem 1418 (by decide +kernel) rfl, zz_mem 57 (by decide +kernel) rfl⟩
theorem ok_X4_addDraw : zz_ok mX4_addDraw 3 := ⟨zz_mem 1419 (by decide +kernel) rfl, zz_mem 139 (by decide +kernel) rfl, ⟨by decide +kernel, by decide +kernel, by decide +kernel⟩, (Nat.le_of_ble_eq_true rfl)⟩
theorem ls_X4_81 : zz_LS RX4 81 mJ9_abs_067f4 := ⟨zz_mem 1434 (by decide +kernel) rfl, zz_mem 1324 (by decide +kernel) rfl⟩
theorem ok_J9_abs_067f4 : zz_ok mJ9_abs_067f4 1 := ⟨zz_mem 1325 (by decide +kernel) rfl, zz_mem 142 (by decide +kernel) rfl, ⟨by decide +kernel, by decide +kernel, by decide +kernel⟩, (Nat.le_of_ble_eq_true rfl)⟩
theorem fl_X7_32 : zz_FL RX7 32 7 2 (.int) false := ⟨RX7, TX7, 10, rfl, (Nat.le_of_ble_eq_true rfl), zz_mem 333 (by decide +kernel) rfl, inX7, ⟨tyX7, tyX7_ok, rfl⟩, nmX7, rfl⟩
theorem fl_X7_9 : zz_FL RX7 9 7 1 (.array .byte) false := ⟨RX7, TX7, 10, rfl, (Nat.le_of_ble_eq_true rfl), zz_mem 332 (by decide +kernel) rfl, inX7, ⟨tyX7, tyX7_ok, rfl⟩, nmX7, rfl⟩
theorem fl_X7_38 : zz_FL RX7 38 7 7 (.int) false := ⟨RX7, TX7, 10, rfl, (Nat.le_of_ble_eq_true rfl), zz_mem 338 (by decide +kernel) rfl, inX7, ⟨tyX7, tyX7_ok, rfl⟩, nmX7, rfl⟩
theorem fl_X7_58 : zz_FL RX7 58 7 5 (.int) false := ⟨RX7, TX7, 10, rfl, (Nat.le_of_ble_eq_true rfl), zz_mem 336 (by decide +kernel) rfl, inX7, ⟨tyX7, tyX7_ok, rfl⟩, nmX7, rfl⟩
theorem fl_X7_15 : zz_FL RX7 15 7 8 (.int) false := ⟨RX7, TX7, 10, rfl, (Nat.le_of_ble_eq_true rfl), zz_mem 340 (by decide +kernel) rfl, inX7, ⟨tyX7, tyX7_ok, rfl⟩, nmX7, rfl⟩
theorem fl_X7_52 : zz_FL RX7 52 7 4 (.int) false := ⟨RX7, TX7, 10, rfl, (Nat.le_of_ble_eq_true rfl), zz_mem 335 (by decide +kernel) rfl, inX7, ⟨tyX7, tyX7_ok, rfl⟩, nmX7, rfl⟩
theorem fl_X7_35 : zz_FL RX7 35 7 3 (.int) false := ⟨RX7, TX7, 10, rfl, (Nat.le_of_ble_eq_true rfl), zz_mem 334 (by decide +kernel) rfl, inX7, ⟨tyX7, tyX7_ok, rfl⟩, nmX7, rfl⟩
theorem lv_X7_61 : zz_LV RX7 61 mX7_byteAt := ⟨zz_mem 730 (by decide +kernel) rfl, zz_mem 732 (by decide +kernel) rfl, zz_mem 6 (by decide +kernel) rfl⟩
theorem ok_X7_byteAt : zz_ok mX7_byteAt 1 := ⟨zz_mem 733 (by decide +kernel) rfl, zz_mem 133 (by decide +kernel) rfl, ⟨by decide +kernel, by decide +kernel, by decide +kernel⟩, (Nat.le_of_ble_eq_true rfl)⟩
theorem ls_X7_65 : zz_LS RX7 65 mX7_isLetter := ⟨zz_mem 734 (by decide +kernel) rfl, zz_mem 735 (by decide +kernel) rfl⟩
theorem ok_X7_isLetter : zz_ok mX7_isLetter 1 := ⟨zz_mem 736 (by decide +kernel) rfl, zz_mem 133 (by decide +kernel) rfl, ⟨by decide +kernel, by decide +kernel, by decide +kernel⟩, (Nat.le_of_ble_eq_true rfl)⟩
theorem fl_X7_89 : zz_FL RX7 89 7 6 (.int) false := ⟨RX7, TX7, 10, rfl, (Nat.le_of_ble_eq_true rfl), zz_mem 337 (by decide +kernel) rfl, inX7, ⟨tyX7, tyX7_ok, rfl⟩, nmX7, rfl⟩
theorem ls_X7_72 : zz_LS RX7 72 mX7_isDigit := ⟨zz_mem 741 (by decide +kernel) rfl, zz_mem 742 (by decide +kernel) rfl⟩
theorem ok_X7_isDigit : zz_ok mX7_isDigit 1 := ⟨zz_mem 743 (by decide +kernel) rfl, zz_mem 133 (by decide +kernel) rfl, ⟨by decide +kernel, by decide +kernel, by decide +kernel⟩, (Nat.le_of_ble_eq_true rfl)⟩
theorem lv_X7_85 : zz_LV RX7 85 mX7_fail := ⟨zz_mem 748 (by decide +kernel) rfl, zz_mem 750 (by decide +kernel) rfl, zz_mem 9 (by decide +kernel) rfl⟩
theorem ok_X7_fail : zz_ok mX7_fail 1 := ⟨zz_mem 751 (by decide +kernel) rfl, zz_mem 133 (by decide +kernel) rfl, ⟨by decide +kernel, by decide +kernel, by decide +kernel⟩, (Nat.le_of_ble_eq_true rfl)⟩
theorem lv_X7_80 : zz_LV RX7 80 mJ0_indexOf_0f7a4 := ⟨zz_mem 753 (by decide +kernel) rfl, zz_mem 754 (by decide +kernel) rfl, zz_mem 755 (by decide +kernel) rfl⟩
theorem ok_J0_indexOf_0f7a4 : zz_ok mJ0_indexOf_0f7a4 1 := ⟨zz_mem 756 (by decide +kernel) rfl, zz_mem 144 (by decide +kernel) rfl, ⟨by decide +kernel, by decide +kernel, by decide +kernel⟩, (Nat.le_of_ble_eq_true rfl)⟩
theorem lv_X7_75 : zz_LV RX7 75 mX7_nextNumber := ⟨zz_mem 744 (by decide +kernel) rfl, zz_mem 746 (by decide +kernel) rfl, zz_mem 8 (by decide +kernel) rfl⟩
theorem ok_X7_nextNumber : zz_ok mX7_nextNumber 0 := ⟨zz_mem 747 (by decide +kernel) rfl, zz_mem 133 (by decide +kernel) rfl, ⟨by decide +kernel, by decide +kernel, by decide +kernel⟩, (Nat.le_of_ble_eq_true rfl)⟩
theorem lv_X7_69 : zz_LV RX7 69 mX7_nextWord := ⟨zz_mem 737 (by decide +kernel) rfl, zz_mem 739 (by decide +kernel) rfl, zz_mem 7 (by decide +kernel) rfl⟩
theorem ok_X7_nextWord : zz_ok mX7_nextWord 0 := ⟨zz_mem 740 (by decide +kernel) rfl, zz_mem 133 (by decide +kernel) rfl, ⟨by decide +kernel, by decide +kernel, by decide +kernel⟩, (Nat.le_of_ble_eq_true rfl)⟩
theorem lv_X7_92 : zz_LV RX7 92 mJ0_length_8abf5 := ⟨zz_mem 848 (by decide +kernel) rfl, zz_mem 768 (by decide +kernel) rfl, zz_mem 769 (by decide +kernel) rfl⟩
theorem lv_X7_95 : zz_LV RX7 95 mJ0_charAt_5068e := ⟨zz_mem 849 (by decide +kernel) rfl, zz_mem 850 (by decide +kernel) rfl, zz_mem 851 (by decide +kernel) rfl⟩
theorem ok_J0_charAt_5068e : zz_ok mJ0_charAt_5068e 1 := ⟨zz_mem 852 (by decide +kernel) rfl, zz_mem 144 (by decide +kernel) rfl, ⟨by decide +kernel, by decide +kernel, by decide +kernel⟩, (Nat.le_of_ble_eq_true rfl)⟩
theorem lv_X7_99 : zz_LV RX7 99 mX7_isWord := ⟨zz_mem 844 (by decide +kernel) rfl, zz_mem 846 (by decide +kernel) rfl, zz_mem 12 (by decide +kernel) rfl⟩
theorem ok_X7_isWord : zz_ok mX7_isWord 1 := ⟨zz_mem 847 (by decide +kernel) rfl, zz_mem 133 (by decide +kernel) rfl, ⟨by decide +kernel, by decide +kernel, by decide +kernel⟩, (Nat.le_of_ble_eq_true rfl)⟩
theorem lv_X7_46 : zz_LV RX7 46 mX7_next := ⟨zz_mem 726 (by decide +kernel) rfl, zz_mem 728 (by decide +kernel) rfl, zz_mem 5 (by decide +kernel) rfl⟩
theorem ok_X7_next : zz_ok mX7_next 0 := ⟨zz_mem 729 (by decide +kernel) rfl, zz_mem 133 (by decide +kernel) rfl, ⟨by decide +kernel, by decide +kernel, by decide +kernel⟩, (Nat.le_of_ble_eq_true rfl)⟩
theorem fl_X7_208 : zz_FL RX7 208 7 9 (.boolean) false := ⟨RX7, TX7, 10, rfl, (Nat.le_of_ble_eq_true rfl), zz_mem 342 (by decide +kernel) rfl, inX7, ⟨tyX7, tyX7_ok, rfl⟩, nmX7, rfl⟩
theorem lv_X7_266 : zz_LV RX7 266 mX7_opensVariable := ⟨zz_mem 969 (by decide +kernel) rfl, zz_mem 971 (by decide +kernel) rfl, zz_mem 31 (by decide +kernel) rfl⟩
theorem ok_X7_opensVariable : zz_ok mX7_opensVariable 0 := ⟨zz_mem 972 (by decide +kernel) rfl, zz_mem 133 (by decide +kernel) rfl, ⟨by decide +kernel, by decide +kernel, by decide +kernel⟩, (Nat.le_of_ble_eq_true rfl)⟩
theorem lv_X7_263 : zz_LV RX7 263 mX7_ratesVariable := ⟨zz_mem 961 (by decide +kernel) rfl, zz_mem 963 (by decide +kernel) rfl, zz_mem 30 (by decide +kernel) rfl⟩
theorem ok_X7_ratesVariable : zz_ok mX7_ratesVariable 0 := ⟨zz_mem 964 (by decide +kernel) rfl, zz_mem 133 (by decide +kernel) rfl, ⟨by decide +kernel, by decide +kernel, by decide +kernel⟩, (Nat.le_of_ble_eq_true rfl)⟩
theorem fl_X7_19 : zz_FL RX7 19 7 0 (.object "PillarDesk$Plan") true := ⟨RX7, TX7, 10, rfl, (Nat.le_of_ble_eq_true rfl), zz_mem 331 (by decide +kernel) rfl, inX7, ⟨tyX7, tyX7_ok, rfl⟩, nmX7, rfl⟩
theorem fl_X7_212 : zz_FL RX7 212 6 12 (.object "PillarDesk$Laws") true := ⟨RX6, TX6, 14, rfl, (Nat.le_of_ble_eq_true rfl), zz_mem 290 (by decide +kernel) rfl, inX6, ⟨tyX6, tyX6_ok, rfl⟩, nmX6, rfl⟩
theorem lv_X7_240 : zz_LV RX7 240 mX3_add := ⟨zz_mem 922 (by decide +kernel) rfl, zz_mem 923 (by decide +kernel) rfl, zz_mem 924 (by decide +kernel) rfl⟩
theorem ok_X3_add : zz_ok mX3_add 1 := ⟨zz_mem 925 (by decide +kernel) rfl, zz_mem 131 (by decide +kernel) rfl, ⟨by decide +kernel, by decide +kernel, by decide +kernel⟩, (Nat.le_of_ble_eq_true rfl)⟩
theorem lv_X7_237 : zz_LV RX7 237 mX7_readTerm := ⟨zz_mem 914 (by decide +kernel) rfl, zz_mem 916 (by decide +kernel) rfl, zz_mem 21 (by decide +kernel) rfl⟩
theorem ok_X7_readTerm : zz_ok mX7_readTerm 1 := ⟨zz_mem 917 (by decide +kernel) rfl, zz_mem 133 (by decide +kernel) rfl, ⟨by decide +kernel, by decide +kernel, by decide +kernel⟩, (Nat.le_of_ble_eq_true rfl)⟩
theorem lv_X7_243 : zz_LV RX7 243 mX7_readAtom := ⟨zz_mem 918 (by decide +kernel) rfl, zz_mem 920 (by decide +kernel) rfl, zz_mem 22 (by decide +kernel) rfl⟩
theorem ok_X7_readAtom : zz_ok mX7_readAtom 1 := ⟨zz_mem 921 (by decide +kernel) rfl, zz_mem 133 (by decide +kernel) rfl, ⟨by decide +kernel, by decide +kernel, by decide +kernel⟩, (Nat.le_of_ble_eq_true rfl)⟩
theorem lv_X7_254 : zz_LV RX7 254 mX7_readVariable := ⟨zz_mem 957 (by decide +kernel) rfl, zz_mem 959 (by decide +kernel) rfl, zz_mem 29 (by decide +kernel) rfl⟩
theorem ok_X7_readVariable : zz_ok mX7_readVariable 0 := ⟨zz_mem 960 (by decide +kernel) rfl, zz_mem 133 (by decide +kernel) rfl, ⟨by decide +kernel, by decide +kernel, by decide +kernel⟩, (Nat.le_of_ble_eq_true rfl)⟩
theorem lv_X7_246 : zz_LV RX7 246 mX7_goDeeper := ⟨zz_mem 926 (by decide +kernel) rfl, zz_mem 928 (by decide +kernel) rfl, zz_mem 23 (by decide +kernel) rfl⟩
theorem ok_X7_goDeeper : zz_ok mX7_goDeeper 1 := ⟨zz_mem 929 (by decide +kernel) rfl, zz_mem 133 (by decide +kernel) rfl, ⟨by decide +kernel, by decide +kernel, by decide +kernel⟩, (Nat.le_of_ble_eq_true rfl)⟩
theorem lv_X7_251 : zz_LV RX7 251 mX7_readChoice := ⟨zz_mem 931 (by decide +kernel) rfl, zz_mem 933 (by decide +kernel) rfl, zz_mem 24 (by decide +kernel) rfl⟩
theorem ok_X7_readChoice : zz_ok mX7_readChoice 1 := ⟨zz_mem 934 (by decide +kernel) rfl, zz_mem 133 (by decide +kernel) rfl, ⟨by decide +kernel, by decide +kernel, by decide +kernel⟩, (Nat.le_of_ble_eq_true rfl)⟩
theorem lv_X7_222 : zz_LV RX7 222 mX7_readSum := ⟨zz_mem 910 (by decide +kernel) rfl, zz_mem 912 (by decide +kernel) rfl, zz_mem 20 (by decide +kernel) rfl⟩
theorem ok_X7_readSum : zz_ok mX7_readSum 1 := ⟨zz_mem 913 (by decide +kernel) rfl, zz_mem 133 (by decide +kernel) rfl, ⟨by decide +kernel, by decide +kernel, by decide +kernel⟩, (Nat.le_of_ble_eq_true rfl)⟩
theorem lv_X7_131 : zz_LV RX7 131 mX7_takeSign := ⟨zz_mem 876 (by decide +kernel) rfl, zz_mem 878 (by decide +kernel) rfl, zz_mem 14 (by decide +kernel) rfl⟩
theorem ok_X7_takeSign : zz_ok mX7_takeSign 1 := ⟨zz_mem 879 (by decide +kernel) rfl, zz_mem 133 (by decide +kernel) rfl, ⟨by decide +kernel, by decide +kernel, by decide +kernel⟩, (Nat.le_of_ble_eq_true rfl)⟩
theorem lv_X7_231 : zz_LV RX7 231 mX7_readTruth := ⟨zz_mem 935 (by decide +kernel) rfl, zz_mem 937 (by decide +kernel) rfl, zz_mem 25 (by decide +kernel) rfl⟩
theorem ok_X7_readTruth : zz_ok mX7_readTruth 1 := ⟨zz_mem 938 (by decide +kernel) rfl, zz_mem 133 (by decide +kernel) rfl, ⟨by decide +kernel, by decide +kernel, by decide +kernel⟩, (Nat.le_of_ble_eq_true rfl)⟩
theorem lv_X7_105 : zz_LV RX7 105 mX7_takeWord := ⟨zz_mem 840 (by decide +kernel) rfl, zz_mem 842 (by decide +kernel) rfl, zz_mem 11 (by decide +kernel) rfl⟩
theorem ok_X7_takeWord : zz_ok mX7_takeWord 1 := ⟨zz_mem 843 (by decide +kernel) rfl, zz_mem 133 (by decide +kernel) rfl, ⟨by decide +kernel, by decide +kernel, by decide +kernel⟩, (Nat.le_of_ble_eq_true rfl)⟩
theorem lv_X7_281 : zz_LV RX7 281 mX7_readBoth := ⟨zz_mem 939 (by decide +kernel) rfl, zz_mem 941 (by decide +kernel) rfl, zz_mem 26 (by decide +kernel) rfl⟩
theorem ok_X7_readBoth : zz_ok mX7_readBoth 1 := ⟨zz_mem 942 (by decide +kernel) rfl, zz_mem 133 (by decide +kernel) rfl, ⟨by decide +kernel, by decide +kernel, by decide +kernel⟩, (Nat.le_of_ble_eq_true rfl)⟩
theorem lv_X7_286 : zz_LV RX7 286 mX7_readUnit := ⟨zz_mem 943 (by decide +kernel) rfl, zz_mem 945 (by decide +kernel) rfl, zz_mem 27 (by decide +kernel) rfl⟩
theorem ok_X7_readUnit : zz_ok mX7_readUnit 1 := ⟨zz_mem 946 (by decide +kernel) rfl, zz_mem 133 (by decide +kernel) rfl, ⟨by decide +kernel, by decide +kernel, by decide +kernel⟩, (Nat.le_of_ble_eq_true rfl)⟩
theorem lv_X7_293 : zz_LV RX7 293 mX7_readComparison := ⟨zz_mem 948 (by decide +kernel) rfl, zz_mem 950 (by decide +kernel) rfl, zz_mem 28 (by decide +kernel) rfl⟩
theorem ok_X7_readComparison : zz_ok mX7_readComparison 1 := ⟨zz_mem 951 (by decide +kernel) rfl, zz_mem 133 (by decide +kernel) rfl, ⟨by decide +kernel, by decide +kernel, by decide +kernel⟩, (Nat.le_of_ble_eq_true rfl)⟩
theorem lv_X7_111 : zz_LV RX7 111 mX7_takeNumber := ⟨zz_mem 870 (by decide +kernel) rfl, zz_mem 872 (by decide +kernel) rfl, zz_mem 13 (by decide +kernel) rfl⟩
theorem ok_X7_takeNumber : zz_ok mX7_takeNumber 2 := ⟨zz_mem 873 (by decide +kernel) rfl, zz_mem 133 (by decide +kernel) rfl, ⟨by decide +kernel, by decide +kernel, by decide +kernel⟩, (Nat.le_of_ble_eq_true rfl)⟩
theorem fl_X7_114 : zz_FL RX7 114 6 0 (.int) false := ⟨RX6, TX6, 14, rfl, (Nat.le_of_ble_eq_true rfl), zz_mem 238 (by decide +kernel) rfl, inX6, ⟨tyX6, tyX6_ok, rfl⟩, nmX6, rfl⟩
theorem fl_X7_118 : zz_FL RX7 118 6 1 (.int) false := ⟨RX6, TX6, 14, rfl, (Nat.le_of_ble_eq_true rfl), zz_mem 243 (by decide +kernel) rfl, inX6, ⟨tyX6, tyX6_ok, rfl⟩, nmX6, rfl⟩
theorem fl_X7_122 : zz_FL RX7 122 6 13 (.object "PillarDesk$Stand") true := ⟨RX6, TX6, 14, rfl, (Nat.le_of_ble_eq_true rfl), zz_mem 294 (by decide +kernel) rfl, inX6, ⟨tyX6, tyX6_ok, rfl⟩, nmX6, rfl⟩
theorem fl_X7_126 : zz_FL RX7 126 9 2 (.int) false := ⟨RX9, TX9, 3, rfl, (Nat.le_of_ble_eq_true rfl), zz_mem 228 (by decide +kernel) rfl, inX9, ⟨tyX9, tyX9_ok, rfl⟩, nmX9, rfl⟩
theorem fl_X7_135 : zz_FL RX7 135 6 2 (.int) false := ⟨RX6, TX6, 14, rfl, (Nat.le_of_ble_eq_true rfl), zz_mem 247 (by decide +kernel) rfl, inX6, ⟨tyX6, tyX6_ok, rfl⟩, nmX6, rfl⟩
theorem fl_X7_167 : zz_FL RX7 167 6 3 (.int) false := ⟨RX6, TX6, 14, rfl, (Nat.le_of_ble_eq_true rfl), zz_mem 249 (by decide +kernel) rfl, inX6, ⟨tyX6, tyX6_ok, rfl⟩, nmX6, rfl⟩
theorem fl_X7_170 : zz_FL RX7 170 6 4 (.array .int) true := ⟨RX6, TX6, 14, rfl, (Nat.le_of_ble_eq_true rfl), zz_mem 252 (by decide +kernel) rfl, inX6, ⟨tyX6, tyX6_ok, rfl⟩, nmX6, rfl⟩
theorem fl_X7_174 : zz_FL RX7 174 6 5 (.int) false := ⟨RX6, TX6, 14, rfl, (Nat.le_of_ble_eq_true rfl), zz_mem 257 (by decide +kernel) rfl, inX6, ⟨tyX6, tyX6_ok, rfl⟩, nmX6, rfl⟩
theorem fl_X7_177 : zz_FL RX7 177 6 6 (.array .int) true := ⟨RX6, TX6, 14, rfl, (Nat.le_of_ble_eq_true rfl), zz_mem 264 (by decide +kernel) rfl, inX6, ⟨tyX6, tyX6_ok, rfl⟩, nmX6, rfl⟩
theorem fl_X7_180 : zz_FL RX7 180 6 7 (.array .int) true := ⟨RX6, TX6, 14, rfl, (Nat.le_of_ble_eq_true rfl), zz_mem 268 (by decide +kernel) rfl, inX6, ⟨tyX6, tyX6_ok, rfl⟩, nmX6, rfl⟩
theorem fl_X7_183 : zz_FL RX7 183 6 8 (.array .int) true := ⟨RX6, TX6, 14, rfl, (Nat.le_of_ble_eq_true rfl), zz_mem 272 (by decide +kernel) rfl, inX6, ⟨tyX6, tyX6_ok, rfl⟩, nmX6, rfl⟩
theorem fl_X7_186 : zz_FL RX7 186 6 9 (.array .int) true := ⟨RX6, TX6, 14, rfl, (Nat.le_of_ble_eq_true rfl), zz_mem 276 (by decide +kernel) rfl, inX6, ⟨tyX6, tyX6_ok, rfl⟩, nmX6, rfl⟩
theorem fl_X7_193 : zz_FL RX7 193 9 0 (.array .int) true := ⟨RX9, TX9, 3, rfl, (Nat.le_of_ble_eq_true rfl), zz_mem 218 (by decide +kernel) rfl, inX9, ⟨tyX9, tyX9_ok, rfl⟩, nmX9, rfl⟩
theorem fl_X7_195 : zz_FL RX7 195 6 10 (.int) false := ⟨RX6, TX6, 14, rfl, (Nat.le_of_ble_eq_true rfl), zz_mem 279 (by decide +kernel) rfl, inX6, ⟨tyX6, tyX6_ok, rfl⟩, nmX6, rfl⟩
theorem fl_X7_198 : zz_FL RX7 198 6 11 (.array .int) true := ⟨RX6, TX6, 14, rfl, (Nat.le_of_ble_eq_true rfl), zz_mem 285 (by decide +kernel) rfl, inX6, ⟨tyX6, tyX6_ok, rfl⟩, nmX6, rfl⟩
theorem fl_X7_205 : zz_FL RX7 205 9 1 (.array .int) true := ⟨RX9, TX9, 3, rfl, (Nat.le_of_ble_eq_true rfl), zz_mem 224 (by decide +kernel) rfl, inX9, ⟨tyX9, tyX9_ok, rfl⟩, nmX9, rfl⟩
theorem fl_X7_216 : zz_FL RX7 216 3 3 (.int) false := ⟨RX3, TX3, 8, rfl, (Nat.le_of_ble_eq_true rfl), zz_mem 176 (by decide +kernel) rfl, inX3, ⟨tyX3, tyX3_ok, rfl⟩, nmX3, rfl⟩
theorem fl_X7_219 : zz_FL RX7 219 3 4 (.int) false := ⟨RX3, TX3, 8, rfl, (Nat.le_of_ble_eq_true rfl), zz_mem 179 (by decide +kernel) rfl, inX3, ⟨tyX3, tyX3_ok, rfl⟩, nmX3, rfl⟩
theorem fl_X7_225 : zz_FL RX7 225 3 5 (.int) false := ⟨RX3, TX3, 8, rfl, (Nat.le_of_ble_eq_true rfl), zz_mem 182 (by decide +kernel) rfl, inX3, ⟨tyX3, tyX3_ok, rfl⟩, nmX3, rfl⟩
theorem fl_X7_228 : zz_FL RX7 228 3 6 (.int) false := ⟨RX3, TX3, 8, rfl, (Nat.le_of_ble_eq_true rfl), zz_mem 185 (by decide +kernel) rfl, inX3, ⟨tyX3, tyX3_ok, rfl⟩, nmX3, rfl⟩
theorem fl_X7_234 : zz_FL RX7 234 3 7 (.int) false := ⟨RX3, TX3, 8, rfl, (Nat.le_of_ble_eq_true rfl), zz_mem 188 (by decide +kernel) rfl, inX3, ⟨tyX3, tyX3_ok, rfl⟩, nmX3, rfl⟩
theorem lv_X7_164 : zz_LV RX7 164 mX7_readOpens := ⟨zz_mem 976 (by decide +kernel) rfl, zz_mem 978 (by decide +kernel) rfl, zz_mem 32 (by decide +kernel) rfl⟩
theorem ok_X7_readOpens : zz_ok mX7_readOpens 0 := ⟨zz_mem 979 (by decide +kernel) rfl, zz_mem 133 (by decide +kernel) rfl, ⟨by decide +kernel, by decide +kernel, by decide +kernel⟩, (Nat.le_of_ble_eq_true rfl)⟩
theorem lv_X7_159 : zz_LV RX7 159 mX7_readRates := ⟨zz_mem 906 (by decide +kernel) rfl, zz_mem 908 (by decide +kernel) rfl, zz_mem 19 (by decide +kernel) rfl⟩
theorem ok_X7_readRates : zz_ok mX7_readRates 0 := ⟨zz_mem 909 (by decide +kernel) rfl, zz_mem 133 (by decide +kernel) rfl, ⟨by decide +kernel, by decide +kernel, by decide +kernel⟩, (Nat.le_of_ble_eq_true rfl)⟩
theorem lv_X7_154 : zz_LV RX7 154 mX7_readFlow := ⟨zz_mem 899 (by decide +kernel) rfl, zz_mem 901 (by decide +kernel) rfl, zz_mem 18 (by decide +kernel) rfl⟩
theorem ok_X7_readFlow : zz_ok mX7_readFlow 0 := ⟨zz_mem 902 (by decide +kernel) rfl, zz_mem 133 (by decide +kernel) rfl, ⟨by decide +kernel, by decide +kernel, by decide +kernel⟩, (Nat.le_of_ble_eq_true rfl)⟩
theorem lv_X7_145 : zz_LV RX7 145 mX7_readInput := ⟨zz_mem 890 (by decide +kernel) rfl, zz_mem 892 (by decide +kernel) rfl, zz_mem 17 (by decide +kernel) rfl⟩
theorem ok_X7_readInput : zz_ok mX7_readInput 1 := ⟨zz_mem 893 (by decide +kernel) rfl, zz_mem 133 (by decide +kernel) rfl, ⟨by decide +kernel, by decide +kernel, by decide +kernel⟩, (Nat.le_of_ble_eq_true rfl)⟩
theorem lv_X7_140 : zz_LV RX7 140 mX7_readHoliday := ⟨zz_mem 885 (by decide +kernel) rfl, zz_mem 887 (by decide +kernel) rfl, zz_mem 16 (by decide +kernel) rfl⟩
theorem ok_X7_readHoliday : zz_ok mX7_readHoliday 0 := ⟨zz_mem 888 (by decide +kernel) rfl, zz_mem 133 (by decide +kernel) rfl, ⟨by decide +kernel, by decide +kernel, by decide +kernel⟩, (Nat.le_of_ble_eq_true rfl)⟩
theorem ls_X7_23 : zz_LS RX7 23 mJ9_min_7cf53 := ⟨zz_mem 714 (by decide +kernel) rfl, zz_mem 617 (by decide +kernel) rfl⟩
theorem ls_X7_29 : zz_LS RX7 29 mJ9_max_7cf53 := ⟨zz_mem 715 (by decide +kernel) rfl, zz_mem 716 (by decide +kernel) rfl⟩
theorem lv_X7_41 : zz_LV RX7 41 mX6_clear := ⟨zz_mem 718 (by decide +kernel) rfl, zz_mem 719 (by decide +kernel) rfl, zz_mem 720 (by decide +kernel) rfl⟩
theorem ok_X6_clear : zz_ok mX6_clear 0 := ⟨zz_mem 721 (by decide +kernel) rfl, zz_mem 130 (by decide +kernel) rfl, ⟨by decide +kernel, by decide +kernel, by decide +kernel⟩, (Nat.le_of_ble_eq_true rfl)⟩
theorem lv_X7_49 : zz_LV RX7 49 mX7_readHead := ⟨zz_mem 835 (by decide +kernel) rfl, zz_mem 837 (by decide +kernel) rfl, zz_mem 10 (by decide +kernel) rfl⟩
theorem ok_X7_readHead : zz_ok mX7_readHead 0 := ⟨zz_mem 838 (by decide +kernel) rfl, zz_mem 133 (by decide +kernel) rfl, ⟨by decide +kernel, by decide +kernel, by decide +kernel⟩, (Nat.le_of_ble_eq_true rfl)⟩
theorem lv_X7_55 : zz_LV RX7 55 mX7_readLine := ⟨zz_mem 880 (by decide +kernel) rfl, zz_mem 882 (by decide +kernel) rfl, zz_mem 15 (by decide +kernel) rfl⟩
theorem ok_X7_readLine : zz_ok mX7_readLine 0 := ⟨zz_mem 883 (by decide +kernel) rfl, zz_mem 133 (by decide +kernel) rfl, ⟨by decide +kernel, by decide +kernel, by decide +kernel⟩, (Nat.le_of_ble_eq_true rfl)⟩
theorem fl_X11_112 : zz_FL RX11 112 11 1 (.int) false := ⟨RX11, TX11, 20, rfl, (Nat.le_of_ble_eq_true rfl), zz_mem 638 (by decide +kernel) rfl, inX11, ⟨tyX11, tyX11_ok, rfl⟩, nmX11, rfl⟩
theorem fl_X11_9 : zz_FL RX11 9 11 0 (.array .byte) true := ⟨RX11, TX11, 20, rfl, (Nat.le_of_ble_eq_true rfl), zz_mem 637 (by decide +kernel) rfl, inX11, ⟨tyX11, tyX11_ok, rfl⟩, nmX11, rfl⟩
theorem lv_X11_115 : zz_LV RX11 115 mX11_feedWord := ⟨zz_mem 702 (by decide +kernel) rfl, zz_mem 704 (by decide +kernel) rfl, zz_mem 4 (by decide +kernel) rfl⟩
theorem ok_X11_feedWord : zz_ok mX11_feedWord 1 := ⟨zz_mem 705 (by decide +kernel) rfl, zz_mem 129 (by decide +kernel) rfl, ⟨by decide +kernel, by decide +kernel, by decide +kernel⟩, (Nat.le_of_ble_eq_true rfl)⟩
theorem fl_X11_32 : zz_FL RX11 32 11 6 (.object "PillarDesk$Reader") true := ⟨RX11, TX11, 20, rfl, (Nat.le_of_ble_eq_true rfl), zz_mem 643 (by decide +kernel) rfl, inX11, ⟨tyX11, tyX11_ok, rfl⟩, nmX11, rfl⟩
theorem lv_X11_119 : zz_LV RX11 119 mX7_read := ⟨zz_mem 710 (by decide +kernel) rfl, zz_mem 711 (by decide +kernel) rfl, zz_mem 712 (by decide +kernel) rfl⟩
theorem ok_X7_read : zz_ok mX7_read 2 := ⟨zz_mem 713 (by decide +kernel) rfl, zz_mem 133 (by decide +kernel) rfl, ⟨by decide +kernel, by decide +kernel, by decide +kernel⟩, (Nat.le_of_ble_eq_true rfl)⟩
theorem fl_X11_123 : zz_FL RX11 123 7 7 (.int) false := ⟨RX7, TX7, 10, rfl, (Nat.le_of_ble_eq_true rfl), zz_mem 339 (by decide +kernel) rfl, inX7, ⟨tyX7, tyX7_ok, rfl⟩, nmX7, rfl⟩
theorem fl_X11_126 : zz_FL RX11 126 11 2 (.int) false := ⟨RX11, TX11, 20, rfl, (Nat.le_of_ble_eq_true rfl), zz_mem 639 (by decide +kernel) rfl, inX11, ⟨tyX11, tyX11_ok, rfl⟩, nmX11, rfl⟩
theorem fl_X11_129 : zz_FL RX11 129 7 8 (.int) false := ⟨RX7, TX7, 10, rfl, (Nat.le_of_ble_eq_true rfl), zz_mem 341 (by decide +kernel) rfl, inX7, ⟨tyX7, tyX7_ok, rfl⟩, nmX7, rfl⟩
theorem fl_X11_13 : zz_FL RX11 13 11 3 (.int) false := ⟨RX11, TX11, 20, rfl, (Nat.le_of_ble_eq_true rfl), zz_mem 640 (by decide +kernel) rfl, inX11, ⟨tyX11, tyX11_ok, rfl⟩, nmX11, rfl⟩
theorem fl_X11_20 : zz_FL RX11 20 11 4 (.object "PillarDesk$Plan") true := ⟨RX11, TX11, 20, rfl, (Nat.le_of_ble_eq_true rfl), zz_mem 641 (by decide +kernel) rfl, inX11, ⟨tyX11, tyX11_ok, rfl⟩, nmX11, rfl⟩
theorem fl_X11_24 : zz_FL RX11 24 11 5 (.object "PillarDesk$Plan") true := ⟨RX11, TX11, 20, rfl, (Nat.le_of_ble_eq_true rfl), zz_mem 642 (by decide +kernel) rfl, inX11, ⟨tyX11, tyX11_ok, rfl⟩, nmX11, rfl⟩
theorem lv_X11_132 : zz_LV RX11 132 mX6_copyFrom := ⟨zz_mem 980 (by decide +kernel) rfl, zz_mem 981 (by decide +kernel) rfl, zz_mem 982 (by decide +kernel) rfl⟩
theorem ok_X6_copyFrom : zz_ok mX6_copyFrom 1 := ⟨zz_mem 983 (by decide +kernel) rfl, zz_mem 130 (by decide +kernel) rfl, ⟨by decide +kernel, by decide +kernel, by decide +kernel⟩, (Nat.le_of_ble_eq_true rfl)⟩
theorem fl_X11_49 : zz_FL RX11 49 11 9 (.object "PillarDesk$Past") true := ⟨RX11, TX11, 20, rfl, (Nat.le_of_ble_eq_true rfl), zz_mem 646 (by decide +kernel) rfl, inX11, ⟨tyX11, tyX11_ok, rfl⟩, nmX11, rfl⟩
theorem lv_X11_135 : zz_LV RX11 135 mX5_clear := ⟨zz_mem 997 (by decide +kernel) rfl, zz_mem 998 (by decide +kernel) rfl, zz_mem 999 (by decide +kernel) rfl⟩
theorem ok_X5_clear : zz_ok mX5_clear 0 := ⟨zz_mem 1000 (by decide +kernel) rfl, zz_mem 134 (by decide +kernel) rfl, ⟨by decide +kernel, by decide +kernel, by decide +kernel⟩, (Nat.le_of_ble_eq_true rfl)⟩
theorem fl_X11_66 : zz_FL RX11 66 11 12 (.object "PillarDesk$Schedule") true := ⟨RX11, TX11, 20, rfl, (Nat.le_of_ble_eq_true rfl), zz_mem 649 (by decide +kernel) rfl, inX11, ⟨tyX11, tyX11_ok, rfl⟩, nmX11, rfl⟩
theorem lv_X11_109 : zz_LV RX11 109 mX8_lay := ⟨zz_mem 578 (by decide +kernel) rfl, zz_mem 579 (by decide +kernel) rfl, zz_mem 580 (by decide +kernel) rfl⟩
theorem ok_X8_lay : zz_ok mX8_lay 0 := ⟨zz_mem 581 (by decide +kernel) rfl, zz_mem 135 (by decide +kernel) rfl, ⟨by decide +kernel, by decide +kernel, by decide +kernel⟩, (Nat.le_of_ble_eq_true rfl)⟩
theorem fl_X11_104 : zz_FL RX11 104 11 18 (.boolean) false := ⟨RX11, TX11, 20, rfl, (Nat.le_of_ble_eq_true rfl), zz_mem 655 (by decide +kernel) rfl, inX11, ⟨tyX11, tyX11_ok, rfl⟩, nmX11, rfl⟩
theorem fl_X11_138 : zz_FL RX11 138 6 2 (.int) false := ⟨RX6, TX6, 14, rfl, (Nat.le_of_ble_eq_true rfl), zz_mem 246 (by decide +kernel) rfl, inX6, ⟨tyX6, tyX6_ok, rfl⟩, nmX6, rfl⟩
theorem fl_X11_75 : zz_FL RX11 75 11 13 (.object "PillarDesk$Curve") true := ⟨RX11, TX11, 20, rfl, (Nat.le_of_ble_eq_true rfl), zz_mem 650 (by decide +kernel) rfl, inX11, ⟨tyX11, tyX11_ok, rfl⟩, nmX11, rfl⟩
theorem fl_X11_160 : zz_FL RX11 160 6 13 (.object "PillarDesk$Stand") true := ⟨RX6, TX6, 14, rfl, (Nat.le_of_ble_eq_true rfl), zz_mem 293 (by decide +kernel) rfl, inX6, ⟨tyX6, tyX6_ok, rfl⟩, nmX6, rfl⟩
theorem fl_X11_224 : zz_FL RX11 224 9 2 (.int) false := ⟨RX9, TX9, 3, rfl, (Nat.le_of_ble_eq_true rfl), zz_mem 227 (by decide +kernel) rfl, inX9, ⟨tyX9, tyX9_ok, rfl⟩, nmX9, rfl⟩
theorem lv_X11_268 : zz_LV RX11 268 mX1_countRates := ⟨zz_mem 1017 (by decide +kernel) rfl, zz_mem 1018 (by decide +kernel) rfl, zz_mem 1019 (by decide +kernel) rfl⟩
theorem ok_X1_countRates : zz_ok mX1_countRates 2 := ⟨zz_mem 1020 (by decide +kernel) rfl, zz_mem 137 (by decide +kernel) rfl, ⟨by decide +kernel, by decide +kernel, by decide +kernel⟩, (Nat.le_of_ble_eq_true rfl)⟩
theorem lv_X11_272 : zz_LV RX11 272 mX1_solve := ⟨zz_mem 1039 (by decide +kernel) rfl, zz_mem 1040 (by decide +kernel) rfl, zz_mem 1041 (by decide +kernel) rfl⟩
theorem lv_X11_141 : zz_LV RX11 141 mX6_hasInput := ⟨zz_mem 1009 (by decide +kernel) rfl, zz_mem 1010 (by decide +kernel) rfl, zz_mem 1011 (by decide +kernel) rfl⟩
theorem fl_X11_145 : zz_FL RX11 145 6 6 (.array .int) true := ⟨RX6, TX6, 14, rfl, (Nat.le_of_ble_eq_true rfl), zz_mem 263 (by decide +kernel) rfl, inX6, ⟨tyX6, tyX6_ok, rfl⟩, nmX6, rfl⟩
theorem fl_X11_148 : zz_FL RX11 148 6 7 (.array .int) true := ⟨RX6, TX6, 14, rfl, (Nat.le_of_ble_eq_true rfl), zz_mem 267 (by decide +kernel) rfl, inX6, ⟨tyX6, tyX6_ok, rfl⟩, nmX6, rfl⟩
theorem fl_X11_151 : zz_FL RX11 151 6 8 (.array .int) true := ⟨RX6, TX6, 14, rfl, (Nat.le_of_ble_eq_true rfl), zz_mem 271 (by decide +kernel) rfl, inX6, ⟨tyX6, tyX6_ok, rfl⟩, nmX6, rfl⟩
theorem fl_X11_154 : zz_FL RX11 154 8 2 (.array .int) true := ⟨RX8, TX8, 11, rfl, (Nat.le_of_ble_eq_true rfl), zz_mem 414 (by decide +kernel) rfl, inX8, ⟨tyX8, tyX8_ok, rfl⟩, nmX8, rfl⟩
theorem fl_X11_157 : zz_FL RX11 157 8 3 (.array .int) true := ⟨RX8, TX8, 11, rfl, (Nat.le_of_ble_eq_true rfl), zz_mem 417 (by decide +kernel) rfl, inX8, ⟨tyX8, tyX8_ok, rfl⟩, nmX8, rfl⟩
theorem fl_X11_163 : zz_FL RX11 163 9 0 (.array .int) true := ⟨RX9, TX9, 3, rfl, (Nat.le_of_ble_eq_true rfl), zz_mem 216 (by decide +kernel) rfl, inX9, ⟨tyX9, tyX9_ok, rfl⟩, nmX9, rfl⟩
theorem lv_X11_166 : zz_LV RX11 166 mX11_solvedNow := ⟨zz_mem 1013 (by decide +kernel) rfl, zz_mem 1015 (by decide +kernel) rfl, zz_mem 33 (by decide +kernel) rfl⟩
theorem ok_X11_solvedNow : zz_ok mX11_solvedNow 0 := ⟨zz_mem 1016 (by decide +kernel) rfl, zz_mem 129 (by decide +kernel) rfl, ⟨by decide +kernel, by decide +kernel, by decide +kernel⟩, (Nat.le_of_ble_eq_true rfl)⟩
theorem fl_X11_170 : zz_FL RX11 170 1 2 (.array .int) true := ⟨RX1, TX1, 11, rfl, (Nat.le_of_ble_eq_true rfl), zz_mem 472 (by decide +kernel) rfl, inX1, ⟨tyX1, tyX1_ok, rfl⟩, nmX1, rfl⟩
theorem fl_X11_173 : zz_FL RX11 173 6 9 (.array .int) true := ⟨RX6, TX6, 14, rfl, (Nat.le_of_ble_eq_true rfl), zz_mem 275 (by decide +kernel) rfl, inX6, ⟨tyX6, tyX6_ok, rfl⟩, nmX6, rfl⟩
theorem fl_X11_176 : zz_FL RX11 176 8 6 (.array .int) true := ⟨RX8, TX8, 11, rfl, (Nat.le_of_ble_eq_true rfl), zz_mem 425 (by decide +kernel) rfl, inX8, ⟨tyX8, tyX8_ok, rfl⟩, nmX8, rfl⟩
theorem lv_X11_179 : zz_LV RX11 179 mX6_hasFlow := ⟨zz_mem 1113 (by decide +kernel) rfl, zz_mem 1114 (by decide +kernel) rfl, zz_mem 1115 (by decide +kernel) rfl⟩
theorem kc_X11_182 : Cond.constantLong RX11 182 (-9000000000000000002 : Int64) ∈ zz_tbl := zz_mem 1117 (by decide +kernel) rfl
theorem fl_X11_187 : zz_FL RX11 187 9 1 (.array .int) true := ⟨RX9, TX9, 3, rfl, (Nat.le_of_ble_eq_true rfl), zz_mem 221 (by decide +kernel) rfl, inX9, ⟨tyX9, tyX9_ok, rfl⟩, nmX9, rfl⟩
theorem fl_X11_184 : zz_FL RX11 184 6 11 (.array .int) true := ⟨RX6, TX6, 14, rfl, (Nat.le_of_ble_eq_true rfl), zz_mem 284 (by decide +kernel) rfl, inX6, ⟨tyX6, tyX6_ok, rfl⟩, nmX6, rfl⟩
theorem fl_X11_190 : zz_FL RX11 190 8 1 (.object "PillarDesk$Calendar") true := ⟨RX8, TX8, 11, rfl, (Nat.le_of_ble_eq_true rfl), zz_mem 410 (by decide +kernel) rfl, inX8, ⟨tyX8, tyX8_ok, rfl⟩, nmX8, rfl⟩
theorem lv_X11_194 : zz_LV RX11 194 mX0_isOpen := ⟨zz_mem 1122 (by decide +kernel) rfl, zz_mem 594 (by decide +kernel) rfl, zz_mem 595 (by decide +kernel) rfl⟩
theorem lv_X11_199 : zz_LV RX11 199 mX0_putOff := ⟨zz_mem 1127 (by decide +kernel) rfl, zz_mem 590 (by decide +kernel) rfl, zz_mem 591 (by decide +kernel) rfl⟩
theorem fl_X11_203 : zz_FL RX11 203 8 4 (.array .int) true := ⟨RX8, TX8, 11, rfl, (Nat.le_of_ble_eq_true rfl), zz_mem 422 (by decide +kernel) rfl, inX8, ⟨tyX8, tyX8_ok, rfl⟩, nmX8, rfl⟩
theorem lv_X11_206 : zz_LV RX11 206 mX8_periodEnd := ⟨zz_mem 1140 (by decide +kernel) rfl, zz_mem 1056 (by decide +kernel) rfl, zz_mem 1057 (by decide +kernel) rfl⟩
theorem fl_X11_56 : zz_FL RX11 56 11 10 (.object "PillarDesk$Stand") true := ⟨RX11, TX11, 20, rfl, (Nat.le_of_ble_eq_true rfl), zz_mem 647 (by decide +kernel) rfl, inX11, ⟨tyX11, tyX11_ok, rfl⟩, nmX11, rfl⟩
theorem lv_X11_230 : zz_LV RX11 230 mX5_push := ⟨zz_mem 1155 (by decide +kernel) rfl, zz_mem 1156 (by decide +kernel) rfl, zz_mem 1157 (by decide +kernel) rfl⟩
theorem ok_X5_push : zz_ok mX5_push 1 := ⟨zz_mem 1158 (by decide +kernel) rfl, zz_mem 134 (by decide +kernel) rfl, ⟨by decide +kernel, by decide +kernel, by decide +kernel⟩, (Nat.le_of_ble_eq_true rfl)⟩
theorem lv_X11_210 : zz_LV RX11 210 mX9_copyFrom := ⟨zz_mem 1145 (by decide +kernel) rfl, zz_mem 993 (by decide +kernel) rfl, zz_mem 994 (by decide +kernel) rfl⟩
theorem lv_X11_213 : zz_LV RX11 213 mX6_doBump := ⟨zz_mem 1146 (by decide +kernel) rfl, zz_mem 1147 (by decide +kernel) rfl, zz_mem 1148 (by decide +kernel) rfl⟩
theorem lv_X11_217 : zz_LV RX11 217 mX11_remember := ⟨zz_mem 1151 (by decide +kernel) rfl, zz_mem 1153 (by decide +kernel) rfl, zz_mem 42 (by decide +kernel) rfl⟩
theorem ok_X11_remember : zz_ok mX11_remember 1 := ⟨zz_mem 1154 (by decide +kernel) rfl, zz_mem 129 (by decide +kernel) rfl, ⟨by decide +kernel, by decide +kernel, by decide +kernel⟩, (Nat.le_of_ble_eq_true rfl)⟩
theorem lv_X11_220 : zz_LV RX11 220 mX6_doShift := ⟨zz_mem 1165 (by decide +kernel) rfl, zz_mem 1166 (by decide +kernel) rfl, zz_mem 1167 (by decide +kernel) rfl⟩
theorem lv_X11_227 : zz_LV RX11 227 mX6_doAmount := ⟨zz_mem 1173 (by decide +kernel) rfl, zz_mem 1174 (by decide +kernel) rfl, zz_mem 1175 (by decide +kernel) rfl⟩
theorem fl_X11_233 : zz_FL RX11 233 5 2 (.int) false := ⟨RX5, TX5, 3, rfl, (Nat.le_of_ble_eq_true rfl), zz_mem 379 (by decide +kernel) rfl, inX5, ⟨tyX5, tyX5_ok, rfl⟩, nmX5, rfl⟩
theorem lv_X11_236 : zz_LV RX11 236 mX5_back := ⟨zz_mem 1182 (by decide +kernel) rfl, zz_mem 1183 (by decide +kernel) rfl, zz_mem 1184 (by decide +kernel) rfl⟩
theorem ok_X5_back : zz_ok mX5_back 2 := ⟨zz_mem 1185 (by decide +kernel) rfl, zz_mem 134 (by decide +kernel) rfl, ⟨by decide +kernel, by decide +kernel, by decide +kernel⟩, (Nat.le_of_ble_eq_true rfl)⟩
theorem fl_X11_251 : zz_FL RX11 251 10 2 (.int) false := ⟨RX10, TX10, 3, rfl, (Nat.le_of_ble_eq_true rfl), zz_mem 570 (by decide +kernel) rfl, inX10, ⟨tyX10, tyX10_ok, rfl⟩, nmX10, rfl⟩
theorem fl_X11_252 : zz_FL RX11 252 10 0 (.array .long) true := ⟨RX10, TX10, 3, rfl, (Nat.le_of_ble_eq_true rfl), zz_mem 567 (by decide +kernel) rfl, inX10, ⟨tyX10, tyX10_ok, rfl⟩, nmX10, rfl⟩
theorem lv_X11_256 : zz_LV RX11 256 mX6_doDeed := ⟨zz_mem 1204 (by decide +kernel) rfl, zz_mem 1205 (by decide +kernel) rfl, zz_mem 1206 (by decide +kernel) rfl⟩
theorem ok_X6_doDeed : zz_ok mX6_doDeed 2 := ⟨zz_mem 1207 (by decide +kernel) rfl, zz_mem 130 (by decide +kernel) rfl, ⟨by decide +kernel, by decide +kernel, by decide +kernel⟩, (Nat.le_of_ble_eq_true rfl)⟩
theorem fl_X11_79 : zz_FL RX11 79 11 14 (.object "PillarDesk$Curve") true := ⟨RX11, TX11, 20, rfl, (Nat.le_of_ble_eq_true rfl), zz_mem 651 (by decide +kernel) rfl, inX11, ⟨tyX11, tyX11_ok, rfl⟩, nmX11, rfl⟩
theorem fl_X11_60 : zz_FL RX11 60 11 11 (.object "PillarDesk$Stand") true := ⟨RX11, TX11, 20, rfl, (Nat.le_of_ble_eq_true rfl), zz_mem 648 (by decide +kernel) rfl, inX11, ⟨tyX11, tyX11_ok, rfl⟩, nmX11, rfl⟩
theorem lv_X11_275 : zz_LV RX11 275 mX1_lastFactor := ⟨zz_mem 1225 (by decide +kernel) rfl, zz_mem 1226 (by decide +kernel) rfl, zz_mem 1227 (by decide +kernel) rfl⟩
theorem ok_X1_lastFactor : zz_ok mX1_lastFactor 0 := ⟨zz_mem 1228 (by decide +kernel) rfl, zz_mem 137 (by decide +kernel) rfl, ⟨by decide +kernel, by decide +kernel, by decide +kernel⟩, (Nat.le_of_ble_eq_true rfl)⟩
theorem lv_X11_240 : zz_LV RX11 240 mX11_noTray := ⟨zz_mem 1192 (by decide +kernel) rfl, zz_mem 1194 (by decide +kernel) rfl, zz_mem 43 (by decide +kernel) rfl⟩
theorem ok_X11_noTray : zz_ok mX11_noTray 1 := ⟨zz_mem 1195 (by decide +kernel) rfl, zz_mem 129 (by decide +kernel) rfl, ⟨by decide +kernel, by decide +kernel, by decide +kernel⟩, (Nat.le_of_ble_eq_true rfl)⟩
theorem lv_X11_243 : zz_LV RX11 243 mX10_isMissing := ⟨zz_mem 1196 (by decide +kernel) rfl, zz_mem 1197 (by decide +kernel) rfl, zz_mem 1198 (by decide +kernel) rfl⟩
theorem ok_X10_isMissing : zz_ok mX10_isMissing 0 := ⟨zz_mem 1199 (by decide +kernel) rfl, zz_mem 140 (by decide +kernel) rfl, ⟨by decide +kernel, by decide +kernel, by decide +kernel⟩, (Nat.le_of_ble_eq_true rfl)⟩
theorem lv_X11_247 : zz_LV RX11 247 mX11_doAll := ⟨zz_mem 1200 (by decide +kernel) rfl, zz_mem 1202 (by decide +kernel) rfl, zz_mem 44 (by decide +kernel) rfl⟩
theorem ok_X11_doAll : zz_ok mX11_doAll 2 := ⟨zz_mem 1203 (by decide +kernel) rfl, zz_mem 129 (by decide +kernel) rfl, ⟨by decide +kernel, by decide +kernel, by decide +kernel⟩, (Nat.le_of_ble_eq_true rfl)⟩
theorem lv_X11_260 : zz_LV RX11 260 mX6_rateSum := ⟨zz_mem 1217 (by decide +kernel) rfl, zz_mem 1218 (by decide +kernel) rfl, zz_mem 1219 (by decide +kernel) rfl⟩
theorem ok_X6_rateSum : zz_ok mX6_rateSum 1 := ⟨zz_mem 1220 (by decide +kernel) rfl, zz_mem 130 (by decide +kernel) rfl, ⟨by decide +kernel, by decide +kernel, by decide +kernel⟩, (Nat.le_of_ble_eq_true rfl)⟩
theorem lv_X11_264 : zz_LV RX11 264 mX11_lastFactorTried := ⟨zz_mem 1221 (by decide +kernel) rfl, zz_mem 1223 (by decide +kernel) rfl, zz_mem 45 (by decide +kernel) rfl⟩
theorem ok_X11_lastFactorTried : zz_ok mX11_lastFactorTried 0 := ⟨zz_mem 1224 (by decide +kernel) rfl, zz_mem 129 (by decide +kernel) rfl, ⟨by decide +kernel, by decide +kernel, by decide +kernel⟩, (Nat.le_of_ble_eq_true rfl)⟩
theorem kc_X11_284 : Cond.constant RX11 284 (1103515245 : Int32) ∈ zz_tbl := zz_mem 1245 (by decide +kernel) rfl
theorem fl_X11_278 : zz_FL RX11 278 11 19 (.int) false := ⟨RX11, TX11, 20, rfl, (Nat.le_of_ble_eq_true rfl), zz_mem 656 (by decide +kernel) rfl, inX11, ⟨tyX11, tyX11_ok, rfl⟩, nmX11, rfl⟩
theorem lv_X11_285 : zz_LV RX11 285 mX11_drawn := ⟨zz_mem 1241 (by decide +kernel) rfl, zz_mem 1243 (by decide +kernel) rfl, zz_mem 47 (by decide +kernel) rfl⟩
theorem ok_X11_drawn : zz_ok mX11_drawn 0 := ⟨zz_mem 1244 (by decide +kernel) rfl, zz_mem 129 (by decide +kernel) rfl, ⟨by decide +kernel, by decide +kernel, by decide +kernel⟩, (Nat.le_of_ble_eq_true rfl)⟩
theorem lv_X11_281 : zz_LV RX11 281 mX11_drawnDeed := ⟨zz_mem 1237 (by decide +kernel) rfl, zz_mem 1239 (by decide +kernel) rfl, zz_mem 46 (by decide +kernel) rfl⟩
theorem ok_X11_drawnDeed : zz_ok mX11_drawnDeed 0 := ⟨zz_mem 1240 (by decide +kernel) rfl, zz_mem 129 (by decide +kernel) rfl, ⟨by decide +kernel, by decide +kernel, by decide +kernel⟩, (Nat.le_of_ble_eq_true rfl)⟩
theorem lv_X11_288 : zz_LV RX11 288 mX1_copyFrom := ⟨zz_mem 1291 (by decide +kernel) rfl, zz_mem 1292 (by decide +kernel) rfl, zz_mem 1293 (by decide +kernel) rfl⟩
theorem ls_X11_291 : zz_LS RX11 291 mX11_inRateBounds := ⟨zz_mem 1296 (by decide +kernel) rfl, zz_mem 1035 (by decide +kernel) rfl⟩
theorem fl_X11_302 : zz_FL RX11 302 8 8 (.int) false := ⟨RX8, TX8, 11, rfl, (Nat.le_of_ble_eq_true rfl), zz_mem 430 (by decide +kernel) rfl, inX8, ⟨tyX8, tyX8_ok, rfl⟩, nmX8, rfl⟩
theorem lv_X11_305 : zz_LV RX11 305 mX8_hasPillar := ⟨zz_mem 1254 (by decide +kernel) rfl, zz_mem 1255 (by decide +kernel) rfl, zz_mem 1256 (by decide +kernel) rfl⟩
theorem ok_X8_hasPillar : zz_ok mX8_hasPillar 1 := ⟨zz_mem 1257 (by decide +kernel) rfl, zz_mem 135 (by decide +kernel) rfl, ⟨by decide +kernel, by decide +kernel, by decide +kernel⟩, (Nat.le_of_ble_eq_true rfl)⟩
theorem fl_X11_308 : zz_FL RX11 308 8 9 (.array .int) true := ⟨RX8, TX8, 11, rfl, (Nat.le_of_ble_eq_true rfl), zz_mem 433 (by decide +kernel) rfl, inX8, ⟨tyX8, tyX8_ok, rfl⟩, nmX8, rfl⟩
theorem fl_X11_311 : zz_FL RX11 311 1 3 (.array .int) true := ⟨RX1, TX1, 11, rfl, (Nat.le_of_ble_eq_true rfl), zz_mem 474 (by decide +kernel) rfl, inX1, ⟨tyX1, tyX1_ok, rfl⟩, nmX1, rfl⟩
theorem fl_X11_314 : zz_FL RX11 314 8 10 (.array .int) true := ⟨RX8, TX8, 11, rfl, (Nat.le_of_ble_eq_true rfl), zz_mem 437 (by decide +kernel) rfl, inX8, ⟨tyX8, tyX8_ok, rfl⟩, nmX8, rfl⟩
theorem lv_X11_317 : zz_LV RX11 317 mX1_factorAt := ⟨zz_mem 1262 (by decide +kernel) rfl, zz_mem 1065 (by decide +kernel) rfl, zz_mem 1066 (by decide +kernel) rfl⟩
theorem lv_X11_320 : zz_LV RX11 320 mX1_rateBetween := ⟨zz_mem 1267 (by decide +kernel) rfl, zz_mem 1268 (by decide +kernel) rfl, zz_mem 1269 (by decide +kernel) rfl⟩
theorem ok_X1_rateBetween : zz_ok mX1_rateBetween 2 := ⟨zz_mem 1270 (by decide +kernel) rfl, zz_mem 137 (by decide +kernel) rfl, ⟨by decide +kernel, by decide +kernel, by decide +kernel⟩, (Nat.le_of_ble_eq_true rfl)⟩
theorem lv_X11_323 : zz_LV RX11 323 mX1_swapRate := ⟨zz_mem 1275 (by decide +kernel) rfl, zz_mem 1276 (by decide +kernel) rfl, zz_mem 1277 (by decide +kernel) rfl⟩
theorem ok_X1_swapRate : zz_ok mX1_swapRate 1 := ⟨zz_mem 1278 (by decide +kernel) rfl, zz_mem 137 (by decide +kernel) rfl, ⟨by decide +kernel, by decide +kernel, by decide +kernel⟩, (Nat.le_of_ble_eq_true rfl)⟩
theorem lv_X11_326 : zz_LV RX11 326 mX11_bumpedTrial := ⟨zz_mem 1287 (by decide +kernel) rfl, zz_mem 1289 (by decide +kernel) rfl, zz_mem 48 (by decide +kernel) rfl⟩
theorem ok_X11_bumpedTrial : zz_ok mX11_bumpedTrial 2 := ⟨zz_mem 1290 (by decide +kernel) rfl, zz_mem 129 (by decide +kernel) rfl, ⟨by decide +kernel, by decide +kernel, by decide +kernel⟩, (Nat.le_of_ble_eq_true rfl)⟩
theorem lv_X11_330 : zz_LV RX11 330 mX1_bookWorth := ⟨zz_mem 1305 (by decide +kernel) rfl, zz_mem 1306 (by decide +kernel) rfl, zz_mem 1307 (by decide +kernel) rfl⟩
theorem kc_X11_334 : Cond.constantLong RX11 334 (-9000000000000000003 : Int64) ∈ zz_tbl := zz_mem 1317 (by decide +kernel) rfl
theorem kc_X11_336 : Cond.constantLong RX11 336 (-1 : Int64) ∈ zz_tbl := zz_mem 1322 (by decide +kernel) rfl
theorem fl_X11_338 : zz_FL RX11 338 6 5 (.int) false := ⟨RX6, TX6, 14, rfl, (Nat.le_of_ble_eq_true rfl), zz_mem 258 (by decide +kernel) rfl, inX6, ⟨tyX6, tyX6_ok, rfl⟩, nmX6, rfl⟩
theorem ls_X11_341 : zz_LS RX11 341 mJ9_abs_067f4 := ⟨zz_mem 1323 (by decide +kernel) rfl, zz_mem 1324 (by decide +kernel) rfl⟩
theorem fl_X11_87 : zz_FL RX11 87 11 15 (.object "PillarDesk$Hedge") true := ⟨RX11, TX11, 20, rfl, (Nat.le_of_ble_eq_true rfl), zz_mem 652 (by decide +kernel) rfl, inX11, ⟨tyX11, tyX11_ok, rfl⟩, nmX11, rfl⟩
theorem lv_X11_345 : zz_LV RX11 345 mX2_bookHang := ⟨zz_mem 1334 (by decide +kernel) rfl, zz_mem 1335 (by decide +kernel) rfl, zz_mem 1336 (by decide +kernel) rfl⟩
theorem lv_X11_349 : zz_LV RX11 349 mX2_flatten := ⟨zz_mem 1347 (by decide +kernel) rfl, zz_mem 1348 (by decide +kernel) rfl, zz_mem 1349 (by decide +kernel) rfl⟩
theorem ok_X2_flatten : zz_ok mX2_flatten 0 := ⟨zz_mem 1350 (by decide +kernel) rfl, zz_mem 138 (by decide +kernel) rfl, ⟨by decide +kernel, by decide +kernel, by decide +kernel⟩, (Nat.le_of_ble_eq_true rfl)⟩
theorem fl_X11_352 : zz_FL RX11 352 2 3 (.array .long) true := ⟨RX2, TX2, 5, rfl, (Nat.le_of_ble_eq_true rfl), zz_mem 516 (by decide +kernel) rfl, inX2, ⟨tyX2, tyX2_ok, rfl⟩, nmX2, rfl⟩
theorem fl_X11_355 : zz_FL RX11 355 2 4 (.array .long) true := ⟨RX2, TX2, 5, rfl, (Nat.le_of_ble_eq_true rfl), zz_mem 518 (by decide +kernel) rfl, inX2, ⟨tyX2, tyX2_ok, rfl⟩, nmX2, rfl⟩
theorem kc_X11_365 : Cond.constantLong RX11 365 (999999999999 : Int64) ∈ zz_tbl := zz_mem 1383 (by decide +kernel) rfl
theorem kc_X11_371 : Cond.constantLong RX11 371 (100000000 : Int64) ∈ zz_tbl := zz_mem 1392 (by decide +kernel) rfl
theorem fl_X11_100 : zz_FL RX11 100 11 17 (.array .int) true := ⟨RX11, TX11, 20, rfl, (Nat.le_of_ble_eq_true rfl), zz_mem 654 (by decide +kernel) rfl, inX11, ⟨tyX11, tyX11_ok, rfl⟩, nmX11, rfl⟩
theorem lv_X11_367 : zz_LV RX11 367 mX11_trialIsTold := ⟨zz_mem 1388 (by decide +kernel) rfl, zz_mem 1390 (by decide +kernel) rfl, zz_mem 54 (by decide +kernel) rfl⟩
theorem ok_X11_trialIsTold : zz_ok mX11_trialIsTold 1 := ⟨zz_mem 1391 (by decide +kernel) rfl, zz_mem 129 (by decide +kernel) rfl, ⟨by decide +kernel, by decide +kernel, by decide +kernel⟩, (Nat.le_of_ble_eq_true rfl)⟩
theorem lv_X11_358 : zz_LV RX11 358 mX11_toldRefusal := ⟨zz_mem 1379 (by decide +kernel) rfl, zz_mem 1381 (by decide +kernel) rfl, zz_mem 52 (by decide +kernel) rfl⟩
theorem ok_X11_toldRefusal : zz_ok mX11_toldRefusal 1 := ⟨zz_mem 1382 (by decide +kernel) rfl, zz_mem 129 (by decide +kernel) rfl, ⟨by decide +kernel, by decide +kernel, by decide +kernel⟩, (Nat.le_of_ble_eq_true rfl)⟩
theorem lv_X11_361 : zz_LV RX11 361 mX11_shiftsTold := ⟨zz_mem 1384 (by decide +kernel) rfl, zz_mem 1386 (by decide +kernel) rfl, zz_mem 53 (by decide +kernel) rfl⟩
theorem ok_X11_shiftsTold : zz_ok mX11_shiftsTold 1 := ⟨zz_mem 1387 (by decide +kernel) rfl, zz_mem 129 (by decide +kernel) rfl, ⟨by decide +kernel, by decide +kernel, by decide +kernel⟩, (Nat.le_of_ble_eq_true rfl)⟩
theorem lv_X11_373 : zz_LV RX11 373 mX11_mostAlike := ⟨zz_mem 1397 (by decide +kernel) rfl, zz_mem 1399 (by decide +kernel) rfl, zz_mem 55 (by decide +kernel) rfl⟩
theorem ok_X11_mostAlike : zz_ok mX11_mostAlike 2 := ⟨zz_mem 1400 (by decide +kernel) rfl, zz_mem 129 (by decide +kernel) rfl, ⟨by decide +kernel, by decide +kernel, by decide +kernel⟩, (Nat.le_of_ble_eq_true rfl)⟩
theorem kc_X11_376 : Cond.constantLong RX11 376 (-1000000 : Int64) ∈ zz_tbl := zz_mem 1405 (by decide +kernel) rfl
theorem kc_X11_378 : Cond.constantLong RX11 378 (1000000 : Int64) ∈ zz_tbl := zz_mem 1406 (by decide +kernel) rfl
theorem fl_X11_96 : zz_FL RX11 96 11 16 (.object "PillarDesk$Odds") true := ⟨RX11, TX11, 20, rfl, (Nat.le_of_ble_eq_true rfl), zz_mem 653 (by decide +kernel) rfl, inX11, ⟨tyX11, tyX11_ok, rfl⟩, nmX11, rfl⟩
theorem kc_X11_380 : Cond.constantLong RX11 380 (1000000000 : Int64) ∈ zz_tbl := zz_mem 1407 (by decide +kernel) rfl
theorem lv_X11_382 : zz_LV RX11 382 mX4_tally := ⟨zz_mem 1408 (by decide +kernel) rfl, zz_mem 1409 (by decide +kernel) rfl, zz_mem 1410 (by decide +kernel) rfl⟩
theorem ok_X4_tally : zz_ok mX4_tally 3 := ⟨zz_mem 1411 (by decide +kernel) rfl, zz_mem 139 (by decide +kernel) rfl, ⟨by decide +kernel, by decide +kernel, by decide +kernel⟩, (Nat.le_of_ble_eq_true rfl)⟩
theorem fl_X11_386 : zz_FL RX11 386 4 4 (.long) false := ⟨RX4, TX4, 7, rfl, (Nat.le_of_ble_eq_true rfl), zz_mem 541 (by decide +kernel) rfl, inX4, ⟨tyX4, tyX4_ok, rfl⟩, nmX4, rfl⟩
theorem fl_X11_390 : zz_FL RX11 390 4 5 (.long) false := ⟨RX4, TX4, 7, rfl, (Nat.le_of_ble_eq_true rfl), zz_mem 543 (by decide +kernel) rfl, inX4, ⟨tyX4, tyX4_ok, rfl⟩, nmX4, rfl⟩
theorem ls_X11_393 : zz_LS RX11 393 mX4_inLowestTerms := ⟨zz_mem 1431 (by decide +kernel) rfl, zz_mem 1432 (by decide +kernel) rfl⟩
theorem ok_X4_inLowestTerms : zz_ok mX4_inLowestTerms 3 := ⟨zz_mem 1433 (by decide +kernel) rfl, zz_mem 139 (by decide +kernel) rfl, ⟨by decide +kernel, by decide +kernel, by decide +kernel⟩, (Nat.le_of_ble_eq_true rfl)⟩
theorem fl_X11_397 : zz_FL RX11 397 4 6 (.long) false := ⟨RX4, TX4, 7, rfl, (Nat.le_of_ble_eq_true rfl), zz_mem 545 (by decide +kernel) rfl, inX4, ⟨tyX4, tyX4_ok, rfl⟩, nmX4, rfl⟩
theorem lv_X11_400 : zz_LV RX11 400 mX10_renew := ⟨zz_mem 1443 (by decide +kernel) rfl, zz_mem 1444 (by decide +kernel) rfl, zz_mem 1445 (by decide +kernel) rfl⟩
theorem ok_X10_renew : zz_ok mX10_renew 2 := ⟨zz_mem 1446 (by decide +kernel) rfl, zz_mem 140 (by decide +kernel) rfl, ⟨by decide +kernel, by decide +kernel, by decide +kernel⟩, (Nat.le_of_ble_eq_true rfl)⟩
theorem kc_X11_408 : Cond.constantLong RX11 408 (-7 : Int64) ∈ zz_tbl := zz_mem 1456 (by decide +kernel) rfl
theorem lv_X11_410 : zz_LV RX11 410 mX10_put := ⟨zz_mem 1457 (by decide +kernel) rfl, zz_mem 1458 (by decide +kernel) rfl, zz_mem 1459 (by decide +kernel) rfl⟩
theorem ok_X10_put : zz_ok mX10_put 2 := ⟨zz_mem 1460 (by decide +kernel) rfl, zz_mem 140 (by decide +kernel) rfl, ⟨by decide +kernel, by decide +kernel, by decide +kernel⟩, (Nat.le_of_ble_eq_true rfl)⟩
theorem kc_X11_406 : Cond.constantLong RX11 406 (-6 : Int64) ∈ zz_tbl := zz_mem 1455 (by decide +kernel) rfl
theorem kc_X11_404 : Cond.constantLong RX11 404 (-2 : Int64) ∈ zz_tbl := zz_mem 1454 (by decide +kernel) rfl
theorem fl_X11_414 : zz_FL RX11 414 6 10 (.int) false := ⟨RX6, TX6, 14, rfl, (Nat.le_of_ble_eq_true rfl), zz_mem 281 (by decide +kernel) rfl, inX6, ⟨tyX6, tyX6_ok, rfl⟩, nmX6, rfl⟩
theorem fl_X11_417 : zz_FL RX11 417 6 3 (.int) false := ⟨RX6, TX6, 14, rfl, (Nat.le_of_ble_eq_true rfl), zz_mem 250 (by decide +kernel) rfl, inX6, ⟨tyX6, tyX6_ok, rfl⟩, nmX6, rfl⟩
theorem fl_X11_420 : zz_FL RX11 420 6 0 (.int) false := ⟨RX6, TX6, 14, rfl, (Nat.le_of_ble_eq_true rfl), zz_mem 239 (by decide +kernel) rfl, inX6, ⟨tyX6, tyX6_ok, rfl⟩, nmX6, rfl⟩
theorem fl_X11_423 : zz_FL RX11 423 6 1 (.int) false := ⟨RX6, TX6, 14, rfl, (Nat.le_of_ble_eq_true rfl), zz_mem 244 (by decide +kernel) rfl, inX6, ⟨tyX6, tyX6_ok, rfl⟩, nmX6, rfl⟩
theorem fl_X12_1 : zz_FL RX12 1 12 0 (.int) false := ⟨RX12, TX12, 42, rfl, (Nat.le_of_ble_eq_true rfl), zz_mem 1511 (by decide +kernel) rfl, inX12, ⟨tyX12, tyX12_ok, rfl⟩, nmX12, rfl⟩
theorem fl_X12_101 : zz_FL RX12 101 12 5 (.int) false := ⟨RX12, TX12, 42, rfl, (Nat.le_of_ble_eq_true rfl), zz_mem 1516 (by decide +kernel) rfl, inX12, ⟨tyX12, tyX12_ok, rfl⟩, nmX12, rfl⟩
theorem fl_X12_21 : zz_FL RX12 21 12 3 (.array .int) true := ⟨RX12, TX12, 42, rfl, (Nat.le_of_ble_eq_true rfl), zz_mem 1514 (by decide +kernel) rfl, inX12, ⟨tyX12, tyX12_ok, rfl⟩, nmX12, rfl⟩
theorem fl_X12_104 : zz_FL RX12 104 12 8 (.int) false := ⟨RX12, TX12, 42, rfl, (Nat.le_of_ble_eq_true rfl), zz_mem 1519 (by decide +kernel) rfl, inX12, ⟨tyX12, tyX12_ok, rfl⟩, nmX12, rfl⟩
theorem lv_X12_109 : zz_LV RX12 109 mJ0_length_8abf5 := ⟨zz_mem 1666 (by decide +kernel) rfl, zz_mem 768 (by decide +kernel) rfl, zz_mem 769 (by decide +kernel) rfl⟩
theorem lv_X12_115 : zz_LV RX12 115 mJ0_charAt_5068e := ⟨zz_mem 1667 (by decide +kernel) rfl, zz_mem 850 (by decide +kernel) rfl, zz_mem 851 (by decide +kernel) rfl⟩
theorem fl_X12_119 : zz_FL RX12 119 12 6 (.int) false := ⟨RX12, TX12, 42, rfl, (Nat.le_of_ble_eq_true rfl), zz_mem 1517 (by decide +kernel) rfl, inX12, ⟨tyX12, tyX12_ok, rfl⟩, nmX12, rfl⟩
theorem fl_X12_122 : zz_FL RX12 122 12 7 (.int) false := ⟨RX12, TX12, 42, rfl, (Nat.le_of_ble_eq_true rfl), zz_mem 1518 (by decide +kernel) rfl, inX12, ⟨tyX12, tyX12_ok, rfl⟩, nmX12, rfl⟩
theorem lv_X12_125 : zz_LV RX12 125 mX12_see := ⟨zz_mem 1654 (by decide +kernel) rfl, zz_mem 1656 (by decide +kernel) rfl, zz_mem 65 (by decide +kernel) rfl⟩
theorem ok_X12_see : zz_ok mX12_see 1 := ⟨zz_mem 1657 (by decide +kernel) rfl, zz_mem 143 (by decide +kernel) rfl, ⟨by decide +kernel, by decide +kernel, by decide +kernel⟩, (Nat.le_of_ble_eq_true rfl)⟩
theorem ls_X12_132 : zz_LS RX12 132 mX12_isSmall := ⟨zz_mem 1658 (by decide +kernel) rfl, zz_mem 1659 (by decide +kernel) rfl⟩
theorem ok_X12_isSmall : zz_ok mX12_isSmall 1 := ⟨zz_mem 1660 (by decide +kernel) rfl, zz_mem 143 (by decide +kernel) rfl, ⟨by decide +kernel, by decide +kernel, by decide +kernel⟩, (Nat.le_of_ble_eq_true rfl)⟩
theorem ls_X12_139 : zz_LS RX12 139 mX12_isDigit := ⟨zz_mem 1668 (by decide +kernel) rfl, zz_mem 1669 (by decide +kernel) rfl⟩
theorem ok_X12_isDigit : zz_ok mX12_isDigit 1 := ⟨zz_mem 1670 (by decide +kernel) rfl, zz_mem 143 (by decide +kernel) rfl, ⟨by decide +kernel, by decide +kernel, by decide +kernel⟩, (Nat.le_of_ble_eq_true rfl)⟩
theorem fl_X12_129 : zz_FL RX12 129 12 9 (.int) false := ⟨RX12, TX12, 42, rfl, (Nat.le_of_ble_eq_true rfl), zz_mem 1520 (by decide +kernel) rfl, inX12, ⟨tyX12, tyX12_ok, rfl⟩, nmX12, rfl⟩
theorem fl_X12_142 : zz_FL RX12 142 12 10 (.int) false := ⟨RX12, TX12, 42, rfl, (Nat.le_of_ble_eq_true rfl), zz_mem 1521 (by decide +kernel) rfl, inX12, ⟨tyX12, tyX12_ok, rfl⟩, nmX12, rfl⟩
theorem lv_X12_136 : zz_LV RX12 136 mX12_keyAt := ⟨zz_mem 1661 (by decide +kernel) rfl, zz_mem 1663 (by decide +kernel) rfl, zz_mem 66 (by decide +kernel) rfl⟩
theorem ok_X12_keyAt : zz_ok mX12_keyAt 0 := ⟨zz_mem 1664 (by decide +kernel) rfl, zz_mem 143 (by decide +kernel) rfl, ⟨by decide +kernel, by decide +kernel, by decide +kernel⟩, (Nat.le_of_ble_eq_true rfl)⟩
theorem fl_X12_147 : zz_FL RX12 147 12 11 (.int) false := ⟨RX12, TX12, 42, rfl, (Nat.le_of_ble_eq_true rfl), zz_mem 1522 (by decide +kernel) rfl, inX12, ⟨tyX12, tyX12_ok, rfl⟩, nmX12, rfl⟩
theorem fl_X12_150 : zz_FL RX12 150 12 12 (.int) false := ⟨RX12, TX12, 42, rfl, (Nat.le_of_ble_eq_true rfl), zz_mem 1523 (by decide +kernel) rfl, inX12, ⟨tyX12, tyX12_ok, rfl⟩, nmX12, rfl⟩
theorem lv_X12_153 : zz_LV RX12 153 mX12_is := ⟨zz_mem 1676 (by decide +kernel) rfl, zz_mem 1678 (by decide +kernel) rfl, zz_mem 68 (by decide +kernel) rfl⟩
theorem ok_X12_is : zz_ok mX12_is 1 := ⟨zz_mem 1679 (by decide +kernel) rfl, zz_mem 143 (by decide +kernel) rfl, ⟨by decide +kernel, by decide +kernel, by decide +kernel⟩, (Nat.le_of_ble_eq_true rfl)⟩
theorem lv_X12_156 : zz_LV RX12 156 mX12_next := ⟨zz_mem 1650 (by decide +kernel) rfl, zz_mem 1652 (by decide +kernel) rfl, zz_mem 64 (by decide +kernel) rfl⟩
theorem ok_X12_next : zz_ok mX12_next 0 := ⟨zz_mem 1653 (by decide +kernel) rfl, zz_mem 143 (by decide +kernel) rfl, ⟨by decide +kernel, by decide +kernel, by decide +kernel⟩, (Nat.le_of_ble_eq_true rfl)⟩
theorem ls_X12_163 : zz_LS RX12 163 mX12_within := ⟨zz_mem 1647 (by decide +kernel) rfl, zz_mem 1648 (by decide +kernel) rfl⟩
theorem ok_X12_within : zz_ok mX12_within 3 := ⟨zz_mem 1649 (by decide +kernel) rfl, zz_mem 143 (by decide +kernel) rfl, ⟨by decide +kernel, by decide +kernel, by decide +kernel⟩, (Nat.le_of_ble_eq_true rfl)⟩
theorem lv_X12_159 : zz_LV RX12 159 mX12_fails := ⟨zz_mem 1680 (by decide +kernel) rfl, zz_mem 1682 (by decide +kernel) rfl, zz_mem 69 (by decide +kernel) rfl⟩
theorem ok_X12_fails : zz_ok mX12_fails 1 := ⟨zz_mem 1683 (by decide +kernel) rfl, zz_mem 143 (by decide +kernel) rfl, ⟨by decide +kernel, by decide +kernel, by decide +kernel⟩, (Nat.le_of_ble_eq_true rfl)⟩
theorem fl_X12_167 : zz_FL RX12 167 12 15 (.int) false := ⟨RX12, TX12, 42, rfl, (Nat.le_of_ble_eq_true rfl), zz_mem 1526 (by decide +kernel) rfl, inX12, ⟨tyX12, tyX12_ok, rfl⟩, nmX12, rfl⟩
theorem fl_X12_24 : zz_FL RX12 24 12 4 (.array .int) true := ⟨RX12, TX12, 42, rfl, (Nat.le_of_ble_eq_true rfl), zz_mem 1515 (by decide +kernel) rfl, inX12, ⟨tyX12, tyX12_ok, rfl⟩, nmX12, rfl⟩
theorem lv_X12_194 : zz_LV RX12 194 mX12_readTerm := ⟨zz_mem 1720 (by decide +kernel) rfl, zz_mem 1722 (by decide +kernel) rfl, zz_mem 79 (by decide +kernel) rfl⟩
theorem ok_X12_readTerm : zz_ok mX12_readTerm 1 := ⟨zz_mem 1723 (by decide +kernel) rfl, zz_mem 143 (by decide +kernel) rfl, ⟨by decide +kernel, by decide +kernel, by decide +kernel⟩, (Nat.le_of_ble_eq_true rfl)⟩
theorem lv_X12_170 : zz_LV RX12 170 mX12_codes := ⟨zz_mem 1728 (by decide +kernel) rfl, zz_mem 1730 (by decide +kernel) rfl, zz_mem 81 (by decide +kernel) rfl⟩
theorem ok_X12_codes : zz_ok mX12_codes 1 := ⟨zz_mem 1731 (by decide +kernel) rfl, zz_mem 143 (by decide +kernel) rfl, ⟨by decide +kernel, by decide +kernel, by decide +kernel⟩, (Nat.le_of_ble_eq_true rfl)⟩
theorem lv_X12_191 : zz_LV RX12 191 mX12_readAtom := ⟨zz_mem 1724 (by decide +kernel) rfl, zz_mem 1726 (by decide +kernel) rfl, zz_mem 80 (by decide +kernel) rfl⟩
theorem ok_X12_readAtom : zz_ok mX12_readAtom 1 := ⟨zz_mem 1727 (by decide +kernel) rfl, zz_mem 143 (by decide +kernel) rfl, ⟨by decide +kernel, by decide +kernel, by decide +kernel⟩, (Nat.le_of_ble_eq_true rfl)⟩
theorem lv_X12_182 : zz_LV RX12 182 mX12_eats := ⟨zz_mem 1672 (by decide +kernel) rfl, zz_mem 1674 (by decide +kernel) rfl, zz_mem 67 (by decide +kernel) rfl⟩
theorem ok_X12_eats : zz_ok mX12_eats 1 := ⟨zz_mem 1675 (by decide +kernel) rfl, zz_mem 143 (by decide +kernel) rfl, ⟨by decide +kernel, by decide +kernel, by decide +kernel⟩, (Nat.le_of_ble_eq_true rfl)⟩
theorem lv_X12_173 : zz_LV RX12 173 mX12_wordOf := ⟨zz_mem 1732 (by decide +kernel) rfl, zz_mem 1734 (by decide +kernel) rfl, zz_mem 82 (by decide +kernel) rfl⟩
theorem ok_X12_wordOf : zz_ok mX12_wordOf 1 := ⟨zz_mem 1735 (by decide +kernel) rfl, zz_mem 143 (by decide +kernel) rfl, ⟨by decide +kernel, by decide +kernel, by decide +kernel⟩, (Nat.le_of_ble_eq_true rfl)⟩
theorem lv_X12_185 : zz_LV RX12 185 mX12_readIf := ⟨zz_mem 1740 (by decide +kernel) rfl, zz_mem 1742 (by decide +kernel) rfl, zz_mem 84 (by decide +kernel) rfl⟩
theorem ok_X12_readIf : zz_ok mX12_readIf 1 := ⟨zz_mem 1743 (by decide +kernel) rfl, zz_mem 143 (by decide +kernel) rfl, ⟨by decide +kernel, by decide +kernel, by decide +kernel⟩, (Nat.le_of_ble_eq_true rfl)⟩
theorem lv_X12_176 : zz_LV RX12 176 mX12_goesIn := ⟨zz_mem 1736 (by decide +kernel) rfl, zz_mem 1738 (by decide +kernel) rfl, zz_mem 83 (by decide +kernel) rfl⟩
theorem ok_X12_goesIn : zz_ok mX12_goesIn 1 := ⟨zz_mem 1739 (by decide +kernel) rfl, zz_mem 143 (by decide +kernel) rfl, ⟨by decide +kernel, by decide +kernel, by decide +kernel⟩, (Nat.le_of_ble_eq_true rfl)⟩
theorem lv_X12_179 : zz_LV RX12 179 mX12_readSum := ⟨zz_mem 1716 (by decide +kernel) rfl, zz_mem 1718 (by decide +kernel) rfl, zz_mem 78 (by decide +kernel) rfl⟩
theorem ok_X12_readSum : zz_ok mX12_readSum 1 := ⟨zz_mem 1719 (by decide +kernel) rfl, zz_mem 143 (by decide +kernel) rfl, ⟨by decide +kernel, by decide +kernel, by decide +kernel⟩, (Nat.le_of_ble_eq_true rfl)⟩
theorem lv_X12_188 : zz_LV RX12 188 mX12_readTruth := ⟨zz_mem 1744 (by decide +kernel) rfl, zz_mem 1746 (by decide +kernel) rfl, zz_mem 85 (by decide +kernel) rfl⟩
theorem ok_X12_readTruth : zz_ok mX12_readTruth 1 := ⟨zz_mem 1747 (by decide +kernel) rfl, zz_mem 143 (by decide +kernel) rfl, ⟨by decide +kernel, by decide +kernel, by decide +kernel⟩, (Nat.le_of_ble_eq_true rfl)⟩
theorem lv_X12_200 : zz_LV RX12 200 mX12_readBoth := ⟨zz_mem 1748 (by decide +kernel) rfl, zz_mem 1750 (by decide +kernel) rfl, zz_mem 86 (by decide +kernel) rfl⟩
theorem ok_X12_readBoth : zz_ok mX12_readBoth 1 := ⟨zz_mem 1751 (by decide +kernel) rfl, zz_mem 143 (by decide +kernel) rfl, ⟨by decide +kernel, by decide +kernel, by decide +kernel⟩, (Nat.le_of_ble_eq_true rfl)⟩
theorem lv_X12_197 : zz_LV RX12 197 mX12_readUnit := ⟨zz_mem 1752 (by decide +kernel) rfl, zz_mem 1754 (by decide +kernel) rfl, zz_mem 87 (by decide +kernel) rfl⟩
theorem ok_X12_readUnit : zz_ok mX12_readUnit 1 := ⟨zz_mem 1755 (by decide +kernel) rfl, zz_mem 143 (by decide +kernel) rfl, ⟨by decide +kernel, by decide +kernel, by decide +kernel⟩, (Nat.le_of_ble_eq_true rfl)⟩
theorem lv_X12_203 : zz_LV RX12 203 mX12_takes := ⟨zz_mem 1688 (by decide +kernel) rfl, zz_mem 1690 (by decide +kernel) rfl, zz_mem 71 (by decide +kernel) rfl⟩
theorem ok_X12_takes : zz_ok mX12_takes 2 := ⟨zz_mem 1691 (by decide +kernel) rfl, zz_mem 143 (by decide +kernel) rfl, ⟨by decide +kernel, by decide +kernel, by decide +kernel⟩, (Nat.le_of_ble_eq_true rfl)⟩
theorem lv_X12_207 : zz_LV RX12 207 mX12_named := ⟨zz_mem 1684 (by decide +kernel) rfl, zz_mem 1686 (by decide +kernel) rfl, zz_mem 70 (by decide +kernel) rfl⟩
theorem ok_X12_named : zz_ok mX12_named 3 := ⟨zz_mem 1687 (by decide +kernel) rfl, zz_mem 143 (by decide +kernel) rfl, ⟨by decide +kernel, by decide +kernel, by decide +kernel⟩, (Nat.le_of_ble_eq_true rfl)⟩
theorem lv_X12_217 : zz_LV RX12 217 mX12_readFlow := ⟨zz_mem 1708 (by decide +kernel) rfl, zz_mem 1710 (by decide +kernel) rfl, zz_mem 76 (by decide +kernel) rfl⟩
theorem ok_X12_readFlow : zz_ok mX12_readFlow 0 := ⟨zz_mem 1711 (by decide +kernel) rfl, zz_mem 143 (by decide +kernel) rfl, ⟨by decide +kernel, by decide +kernel, by decide +kernel⟩, (Nat.le_of_ble_eq_true rfl)⟩
theorem lv_X12_211 : zz_LV RX12 211 mX12_readHoliday := ⟨zz_mem 1700 (by decide +kernel) rfl, zz_mem 1702 (by decide +kernel) rfl, zz_mem 74 (by decide +kernel) rfl⟩
theorem ok_X12_readHoliday : zz_ok mX12_readHoliday 0 := ⟨zz_mem 1703 (by decide +kernel) rfl, zz_mem 143 (by decide +kernel) rfl, ⟨by decide +kernel, by decide +kernel, by decide +kernel⟩, (Nat.le_of_ble_eq_true rfl)⟩
theorem lv_X12_220 : zz_LV RX12 220 mX12_readLaw := ⟨zz_mem 1712 (by decide +kernel) rfl, zz_mem 1714 (by decide +kernel) rfl, zz_mem 77 (by decide +kernel) rfl⟩
theorem ok_X12_readLaw : zz_ok mX12_readLaw 1 := ⟨zz_mem 1715 (by decide +kernel) rfl, zz_mem 143 (by decide +kernel) rfl, ⟨by decide +kernel, by decide +kernel, by decide +kernel⟩, (Nat.le_of_ble_eq_true rfl)⟩
theorem lv_X12_214 : zz_LV RX12 214 mX12_readInput := ⟨zz_mem 1704 (by decide +kernel) rfl, zz_mem 1706 (by decide +kernel) rfl, zz_mem 75 (by decide +kernel) rfl⟩
theorem ok_X12_readInput : zz_ok mX12_readInput 0 := ⟨zz_mem 1707 (by decide +kernel) rfl, zz_mem 143 (by decide +kernel) rfl, ⟨by decide +kernel, by decide +kernel, by decide +kernel⟩, (Nat.le_of_ble_eq_true rfl)⟩
theorem kc_X12_232 : Cond.constantLong RX12 232 (1000000 : Int64) ∈ zz_tbl := zz_mem 1505 (by decide +kernel) rfl
theorem kc_X12_234 : Cond.constantLong RX12 234 (-1000000 : Int64) ∈ zz_tbl := zz_mem 1506 (by decide +kernel) rfl
theorem fl_X12_13 : zz_FL RX12 13 12 1 (.array .int) true := ⟨RX12, TX12, 42, rfl, (Nat.le_of_ble_eq_true rfl), zz_mem 1512 (by decide +kernel) rfl, inX12, ⟨tyX12, tyX12_ok, rfl⟩, nmX12, rfl⟩
theorem fl_X12_30 : zz_FL RX12 30 12 16 (.array .int) true := ⟨RX12, TX12, 42, rfl, (Nat.le_of_ble_eq_true rfl), zz_mem 1527 (by decide +kernel) rfl, inX12, ⟨tyX12, tyX12_ok, rfl⟩, nmX12, rfl⟩
theorem ls_X12_236 : zz_LS RX12 236 mX12_between := ⟨zz_mem 1502 (by decide +kernel) rfl, zz_mem 1503 (by decide +kernel) rfl⟩
theorem ok_X12_between : zz_ok mX12_between 3 := ⟨zz_mem 1504 (by decide +kernel) rfl, zz_mem 143 (by decide +kernel) rfl, ⟨by decide +kernel, by decide +kernel, by decide +kernel⟩, (Nat.le_of_ble_eq_true rfl)⟩
theorem fl_X12_33 : zz_FL RX12 33 12 17 (.array .int) true := ⟨RX12, TX12, 42, rfl, (Nat.le_of_ble_eq_true rfl), zz_mem 1528 (by decide +kernel) rfl, inX12, ⟨tyX12, tyX12_ok, rfl⟩, nmX12, rfl⟩
theorem lv_X12_239 : zz_LV RX12 239 mX12_reckons := ⟨zz_mem 1498 (by decide +kernel) rfl, zz_mem 1500 (by decide +kernel) rfl, zz_mem 62 (by decide +kernel) rfl⟩
theorem ok_X12_reckons : zz_ok mX12_reckons 1 := ⟨zz_mem 1501 (by decide +kernel) rfl, zz_mem 143 (by decide +kernel) rfl, ⟨by decide +kernel, by decide +kernel, by decide +kernel⟩, (Nat.le_of_ble_eq_true rfl)⟩
theorem lv_X12_242 : zz_LV RX12 242 mX12_isOpen := ⟨zz_mem 1494 (by decide +kernel) rfl, zz_mem 1496 (by decide +kernel) rfl, zz_mem 61 (by decide +kernel) rfl⟩
theorem ok_X12_isOpen : zz_ok mX12_isOpen 1 := ⟨zz_mem 1497 (by decide +kernel) rfl, zz_mem 143 (by decide +kernel) rfl, ⟨by decide +kernel, by decide +kernel, by decide +kernel⟩, (Nat.le_of_ble_eq_true rfl)⟩
theorem fl_X12_45 : zz_FL RX12 45 12 21 (.array .int) true := ⟨RX12, TX12, 42, rfl, (Nat.le_of_ble_eq_true rfl), zz_mem 1532 (by decide +kernel) rfl, inX12, ⟨tyX12, tyX12_ok, rfl⟩, nmX12, rfl⟩
theorem fl_X12_48 : zz_FL RX12 48 12 22 (.array .int) true := ⟨RX12, TX12, 42, rfl, (Nat.le_of_ble_eq_true rfl), zz_mem 1533 (by decide +kernel) rfl, inX12, ⟨tyX12, tyX12_ok, rfl⟩, nmX12, rfl⟩
theorem lv_X12_245 : zz_LV RX12 245 mX12_offOf := ⟨zz_mem 1490 (by decide +kernel) rfl, zz_mem 1492 (by decide +kernel) rfl, zz_mem 60 (by decide +kernel) rfl⟩
theorem ok_X12_offOf : zz_ok mX12_offOf 1 := ⟨zz_mem 1493 (by decide +kernel) rfl, zz_mem 143 (by decide +kernel) rfl, ⟨by decide +kernel, by decide +kernel, by decide +kernel⟩, (Nat.le_of_ble_eq_true rfl)⟩
theorem fl_X12_36 : zz_FL RX12 36 12 18 (.array .int) true := ⟨RX12, TX12, 42, rfl, (Nat.le_of_ble_eq_true rfl), zz_mem 1529 (by decide +kernel) rfl, inX12, ⟨tyX12, tyX12_ok, rfl⟩, nmX12, rfl⟩
theorem fl_X12_39 : zz_FL RX12 39 12 19 (.array .int) true := ⟨RX12, TX12, 42, rfl, (Nat.le_of_ble_eq_true rfl), zz_mem 1530 (by decide +kernel) rfl, inX12, ⟨tyX12, tyX12_ok, rfl⟩, nmX12, rfl⟩
theorem lv_X12_248 : zz_LV RX12 248 mX12_laysPeriods := ⟨zz_mem 1507 (by decide +kernel) rfl, zz_mem 1509 (by decide +kernel) rfl, zz_mem 63 (by decide +kernel) rfl⟩
theorem ok_X12_laysPeriods : zz_ok mX12_laysPeriods 1 := ⟨zz_mem 1510 (by decide +kernel) rfl, zz_mem 143 (by decide +kernel) rfl, ⟨by decide +kernel, by decide +kernel, by decide +kernel⟩, (Nat.le_of_ble_eq_true rfl)⟩
theorem fl_X12_42 : zz_FL RX12 42 12 20 (.array .int) true := ⟨RX12, TX12, 42, rfl, (Nat.le_of_ble_eq_true rfl), zz_mem 1531 (by decide +kernel) rfl, inX12, ⟨tyX12, tyX12_ok, rfl⟩, nmX12, rfl⟩
theorem ls_X12_94 : zz_LS RX12 94 mX12_plain := ⟨zz_mem 1483 (by decide +kernel) rfl, zz_mem 1484 (by decide +kernel) rfl⟩
theorem ok_X12_plain : zz_ok mX12_plain 1 := ⟨zz_mem 1485 (by decide +kernel) rfl, zz_mem 143 (by decide +kernel) rfl, ⟨by decide +kernel, by decide +kernel, by decide +kernel⟩, (Nat.le_of_ble_eq_true rfl)⟩
theorem lv_X12_223 : zz_LV RX12 223 mX12_closes := ⟨zz_mem 1692 (by decide +kernel) rfl, zz_mem 1694 (by decide +kernel) rfl, zz_mem 72 (by decide +kernel) rfl⟩
theorem ok_X12_closes : zz_ok mX12_closes 0 := ⟨zz_mem 1695 (by decide +kernel) rfl, zz_mem 143 (by decide +kernel) rfl, ⟨by decide +kernel, by decide +kernel, by decide +kernel⟩, (Nat.le_of_ble_eq_true rfl)⟩
theorem lv_X12_226 : zz_LV RX12 226 mX12_readLine := ⟨zz_mem 1696 (by decide +kernel) rfl, zz_mem 1698 (by decide +kernel) rfl, zz_mem 73 (by decide +kernel) rfl⟩
theorem ok_X12_readLine : zz_ok mX12_readLine 0 := ⟨zz_mem 1699 (by decide +kernel) rfl, zz_mem 143 (by decide +kernel) rfl, ⟨by decide +kernel, by decide +kernel, by decide +kernel⟩, (Nat.le_of_ble_eq_true rfl)⟩
theorem fl_X12_229 : zz_FL RX12 229 12 13 (.int) false := ⟨RX12, TX12, 42, rfl, (Nat.le_of_ble_eq_true rfl), zz_mem 1524 (by decide +kernel) rfl, inX12, ⟨tyX12, tyX12_ok, rfl⟩, nmX12, rfl⟩
theorem fl_X12_27 : zz_FL RX12 27 12 14 (.int) false := ⟨RX12, TX12, 42, rfl, (Nat.le_of_ble_eq_true rfl), zz_mem 1525 (by decide +kernel) rfl, inX12, ⟨tyX12, tyX12_ok, rfl⟩, nmX12, rfl⟩
theorem lv_X12_98 : zz_LV RX12 98 mX12_laysDays := ⟨zz_mem 1486 (by decide +kernel) rfl, zz_mem 1488 (by decide +kernel) rfl, zz_mem 59 (by decide +kernel) rfl⟩
theorem ok_X12_laysDays : zz_ok mX12_laysDays 0 := ⟨zz_mem 1489 (by decide +kernel) rfl, zz_mem 143 (by decide +kernel) rfl, ⟨by decide +kernel, by decide +kernel, by decide +kernel⟩, (Nat.le_of_ble_eq_true rfl)⟩
theorem lv_X12_251 : zz_LV RX12 251 mX12_endOf := ⟨zz_mem 1789 (by decide +kernel) rfl, zz_mem 1791 (by decide +kernel) rfl, zz_mem 89 (by decide +kernel) rfl⟩
theorem ok_X12_endOf : zz_ok mX12_endOf 2 := ⟨zz_mem 1792 (by decide +kernel) rfl, zz_mem 143 (by decide +kernel) rfl, ⟨by decide +kernel, by decide +kernel, by decide +kernel⟩, (Nat.le_of_ble_eq_true rfl)⟩
theorem ls_X12_254 : zz_LS RX12 254 mX12_isDay := ⟨zz_mem 1764 (by decide +kernel) rfl, zz_mem 1765 (by decide +kernel) rfl⟩
theorem ok_X12_isDay : zz_ok mX12_isDay 2 := ⟨zz_mem 1766 (by decide +kernel) rfl, zz_mem 143 (by decide +kernel) rfl, ⟨by decide +kernel, by decide +kernel, by decide +kernel⟩, (Nat.le_of_ble_eq_true rfl)⟩
theorem kc_X12_258 : Cond.constantLong RX12 258 (999 : Int64) ∈ zz_tbl := zz_mem 1775 (by decide +kernel) rfl
theorem kc_X12_260 : Cond.constantLong RX12 260 (99 : Int64) ∈ zz_tbl := zz_mem 1780 (by decide +kernel) rfl
theorem lv_X12_262 : zz_LV RX12 262 mX12_isInput := ⟨zz_mem 1785 (by decide +kernel) rfl, zz_mem 1787 (by decide +kernel) rfl, zz_mem 88 (by decide +kernel) rfl⟩
theorem ok_X12_isInput : zz_ok mX12_isInput 1 := ⟨zz_mem 1788 (by decide +kernel) rfl, zz_mem 143 (by decide +kernel) rfl, ⟨by decide +kernel, by decide +kernel, by decide +kernel⟩, (Nat.le_of_ble_eq_true rfl)⟩
theorem ls_X12_266 : zz_LS RX12 266 mX12_kept := ⟨zz_mem 1801 (by decide +kernel) rfl, zz_mem 1802 (by decide +kernel) rfl⟩
theorem ok_X12_kept : zz_ok mX12_kept 3 := ⟨zz_mem 1803 (by decide +kernel) rfl, zz_mem 143 (by decide +kernel) rfl, ⟨by decide +kernel, by decide +kernel, by decide +kernel⟩, (Nat.le_of_ble_eq_true rfl)⟩
theorem fl_X12_51 : zz_FL RX12 51 12 23 (.array .int) true := ⟨RX12, TX12, 42, rfl, (Nat.le_of_ble_eq_true rfl), zz_mem 1534 (by decide +kernel) rfl, inX12, ⟨tyX12, tyX12_ok, rfl⟩, nmX12, rfl⟩
theorem lv_X12_269 : zz_LV RX12 269 mX12_countOf := ⟨zz_mem 1797 (by decide +kernel) rfl, zz_mem 1799 (by decide +kernel) rfl, zz_mem 90 (by decide +kernel) rfl⟩
theorem ok_X12_countOf : zz_ok mX12_countOf 2 := ⟨zz_mem 1800 (by decide +kernel) rfl, zz_mem 143 (by decide +kernel) rfl, ⟨by decide +kernel, by decide +kernel, by decide +kernel⟩, (Nat.le_of_ble_eq_true rfl)⟩
theorem fl_X12_272 : zz_FL RX12 272 12 28 (.int) false := ⟨RX12, TX12, 42, rfl, (Nat.le_of_ble_eq_true rfl), zz_mem 1539 (by decide +kernel) rfl, inX12, ⟨tyX12, tyX12_ok, rfl⟩, nmX12, rfl⟩
theorem fl_X12_54 : zz_FL RX12 54 12 24 (.array .int) true := ⟨RX12, TX12, 42, rfl, (Nat.le_of_ble_eq_true rfl), zz_mem 1535 (by decide +kernel) rfl, inX12, ⟨tyX12, tyX12_ok, rfl⟩, nmX12, rfl⟩
theorem lv_X12_275 : zz_LV RX12 275 mX12_pillarAt := ⟨zz_mem 1835 (by decide +kernel) rfl, zz_mem 1837 (by decide +kernel) rfl, zz_mem 98 (by decide +kernel) rfl⟩
theorem ok_X12_pillarAt : zz_ok mX12_pillarAt 1 := ⟨zz_mem 1838 (by decide +kernel) rfl, zz_mem 143 (by decide +kernel) rfl, ⟨by decide +kernel, by decide +kernel, by decide +kernel⟩, (Nat.le_of_ble_eq_true rfl)⟩
theorem fl_X12_57 : zz_FL RX12 57 12 25 (.array .int) true := ⟨RX12, TX12, 42, rfl, (Nat.le_of_ble_eq_true rfl), zz_mem 1536 (by decide +kernel) rfl, inX12, ⟨tyX12, tyX12_ok, rfl⟩, nmX12, rfl⟩
theorem ls_X12_278 : zz_LS RX12 278 mX12_floorOf := ⟨zz_mem 1839 (by decide +kernel) rfl, zz_mem 1840 (by decide +kernel) rfl⟩
theorem ok_X12_floorOf : zz_ok mX12_floorOf 2 := ⟨zz_mem 1841 (by decide +kernel) rfl, zz_mem 143 (by decide +kernel) rfl, ⟨by decide +kernel, by decide +kernel, by decide +kernel⟩, (Nat.le_of_ble_eq_true rfl)⟩
theorem kc_X12_282 : Cond.constantLong RX12 282 (3600000 : Int64) ∈ zz_tbl := zz_mem 1825 (by decide +kernel) rfl
theorem lv_X12_284 : zz_LV RX12 284 mX12_dueOf := ⟨zz_mem 1826 (by decide +kernel) rfl, zz_mem 1828 (by decide +kernel) rfl, zz_mem 96 (by decide +kernel) rfl⟩
theorem ok_X12_dueOf : zz_ok mX12_dueOf 2 := ⟨zz_mem 1829 (by decide +kernel) rfl, zz_mem 143 (by decide +kernel) rfl, ⟨by decide +kernel, by decide +kernel, by decide +kernel⟩, (Nat.le_of_ble_eq_true rfl)⟩
theorem lv_X12_290 : zz_LV RX12 290 mX12_factorAt := ⟨zz_mem 1831 (by decide +kernel) rfl, zz_mem 1833 (by decide +kernel) rfl, zz_mem 97 (by decide +kernel) rfl⟩
theorem ok_X12_factorAt : zz_ok mX12_factorAt 1 := ⟨zz_mem 1834 (by decide +kernel) rfl, zz_mem 143 (by decide +kernel) rfl, ⟨by decide +kernel, by decide +kernel, by decide +kernel⟩, (Nat.le_of_ble_eq_true rfl)⟩
theorem kc_X12_288 : Cond.constantLong RX12 288 (3600000000000000 : Int64) ∈ zz_tbl := zz_mem 1830 (by decide +kernel) rfl
theorem lv_X12_293 : zz_LV RX12 293 mX12_lengthOf := ⟨zz_mem 1842 (by decide +kernel) rfl, zz_mem 1844 (by decide +kernel) rfl, zz_mem 99 (by decide +kernel) rfl⟩
theorem ok_X12_lengthOf : zz_ok mX12_lengthOf 2 := ⟨zz_mem 1845 (by decide +kernel) rfl, zz_mem 143 (by decide +kernel) rfl, ⟨by decide +kernel, by decide +kernel, by decide +kernel⟩, (Nat.le_of_ble_eq_true rfl)⟩
theorem kc_X12_296 : Cond.constantLong RX12 296 (1000000000 : Int64) ∈ zz_tbl := zz_mem 1846 (by decide +kernel) rfl
theorem fl_X12_60 : zz_FL RX12 60 12 26 (.array .int) true := ⟨RX12, TX12, 42, rfl, (Nat.le_of_ble_eq_true rfl), zz_mem 1537 (by decide +kernel) rfl, inX12, ⟨tyX12, tyX12_ok, rfl⟩, nmX12, rfl⟩
theorem kc_X12_298 : Cond.constant RX12 298 (1000000000 : Int32) ∈ zz_tbl := zz_mem 1816 (by decide +kernel) rfl
theorem lv_X12_299 : zz_LV RX12 299 mX12_fits := ⟨zz_mem 1821 (by decide +kernel) rfl, zz_mem 1823 (by decide +kernel) rfl, zz_mem 95 (by decide +kernel) rfl⟩
theorem ok_X12_fits : zz_ok mX12_fits 2 := ⟨zz_mem 1824 (by decide +kernel) rfl, zz_mem 143 (by decide +kernel) rfl, ⟨by decide +kernel, by decide +kernel, by decide +kernel⟩, (Nat.le_of_ble_eq_true rfl)⟩
theorem fl_X12_63 : zz_FL RX12 63 12 27 (.array .boolean) true := ⟨RX12, TX12, 42, rfl, (Nat.le_of_ble_eq_true rfl), zz_mem 1538 (by decide +kernel) rfl, inX12, ⟨tyX12, tyX12_ok, rfl⟩, nmX12, rfl⟩
theorem lv_X12_303 : zz_LV RX12 303 mX12_solves := ⟨zz_mem 1817 (by decide +kernel) rfl, zz_mem 1819 (by decide +kernel) rfl, zz_mem 94 (by decide +kernel) rfl⟩
theorem ok_X12_solves : zz_ok mX12_solves 1 := ⟨zz_mem 1820 (by decide +kernel) rfl, zz_mem 143 (by decide +kernel) rfl, ⟨by decide +kernel, by decide +kernel, by decide +kernel⟩, (Nat.le_of_ble_eq_true rfl)⟩
theorem lv_X12_306 : zz_LV RX12 306 mX12_laysCounts := ⟨zz_mem 1808 (by decide +kernel) rfl, zz_mem 1810 (by decide +kernel) rfl, zz_mem 92 (by decide +kernel) rfl⟩
theorem ok_X12_laysCounts : zz_ok mX12_laysCounts 1 := ⟨zz_mem 1811 (by decide +kernel) rfl, zz_mem 143 (by decide +kernel) rfl, ⟨by decide +kernel, by decide +kernel, by decide +kernel⟩, (Nat.le_of_ble_eq_true rfl)⟩
theorem lv_X12_309 : zz_LV RX12 309 mX12_laysPillars := ⟨zz_mem 1812 (by decide +kernel) rfl, zz_mem 1814 (by decide +kernel) rfl, zz_mem 93 (by decide +kernel) rfl⟩
theorem ok_X12_laysPillars : zz_ok mX12_laysPillars 0 := ⟨zz_mem 1815 (by decide +kernel) rfl, zz_mem 143 (by decide +kernel) rfl, ⟨by decide +kernel, by decide +kernel, by decide +kernel⟩, (Nat.le_of_ble_eq_true rfl)⟩
theorem lv_X12_312 : zz_LV RX12 312 mX12_laysCurve := ⟨zz_mem 1804 (by decide +kernel) rfl, zz_mem 1806 (by decide +kernel) rfl, zz_mem 91 (by decide +kernel) rfl⟩
theorem ok_X12_laysCurve : zz_ok mX12_laysCurve 0 := ⟨zz_mem 1807 (by decide +kernel) rfl, zz_mem 143 (by decide +kernel) rfl, ⟨by decide +kernel, by decide +kernel, by decide +kernel⟩, (Nat.le_of_ble_eq_true rfl)⟩
theorem lv_X12_315 : zz_LV RX12 315 mX12_isFlow := ⟨zz_mem 1851 (by decide +kernel) rfl, zz_mem 1853 (by decide +kernel) rfl, zz_mem 100 (by decide +kernel) rfl⟩
theorem ok_X12_isFlow : zz_ok mX12_isFlow 1 := ⟨zz_mem 1854 (by decide +kernel) rfl, zz_mem 143 (by decide +kernel) rfl, ⟨by decide +kernel, by decide +kernel, by decide +kernel⟩, (Nat.le_of_ble_eq_true rfl)⟩
theorem kc_X12_318 : Cond.constantLong RX12 318 (-9000000000000000002 : Int64) ∈ zz_tbl := zz_mem 1855 (by decide +kernel) rfl
theorem fl_X12_66 : zz_FL RX12 66 12 29 (.array .int) true := ⟨RX12, TX12, 42, rfl, (Nat.le_of_ble_eq_true rfl), zz_mem 1540 (by decide +kernel) rfl, inX12, ⟨tyX12, tyX12_ok, rfl⟩, nmX12, rfl⟩
theorem kc_X12_320 : Cond.constantLong RX12 320 (-99 : Int64) ∈ zz_tbl := zz_mem 1864 (by decide +kernel) rfl
theorem kc_X12_322 : Cond.constantLong RX12 322 (-999 : Int64) ∈ zz_tbl := zz_mem 1886 (by decide +kernel) rfl
theorem lv_X12_324 : zz_LV RX12 324 mX12_whyBump := ⟨zz_mem 1860 (by decide +kernel) rfl, zz_mem 1862 (by decide +kernel) rfl, zz_mem 101 (by decide +kernel) rfl⟩
theorem ok_X12_whyBump : zz_ok mX12_whyBump 2 := ⟨zz_mem 1863 (by decide +kernel) rfl, zz_mem 143 (by decide +kernel) rfl, ⟨by decide +kernel, by decide +kernel, by decide +kernel⟩, (Nat.le_of_ble_eq_true rfl)⟩
theorem lv_X12_328 : zz_LV RX12 328 mX12_stores := ⟨zz_mem 1865 (by decide +kernel) rfl, zz_mem 1867 (by decide +kernel) rfl, zz_mem 102 (by decide +kernel) rfl⟩
theorem ok_X12_stores : zz_ok mX12_stores 0 := ⟨zz_mem 1868 (by decide +kernel) rfl, zz_mem 143 (by decide +kernel) rfl, ⟨by decide +kernel, by decide +kernel, by decide +kernel⟩, (Nat.le_of_ble_eq_true rfl)⟩
theorem lv_X12_331 : zz_LV RX12 331 mX12_notes := ⟨zz_mem 1869 (by decide +kernel) rfl, zz_mem 1871 (by decide +kernel) rfl, zz_mem 103 (by decide +kernel) rfl⟩
theorem ok_X12_notes : zz_ok mX12_notes 0 := ⟨zz_mem 1872 (by decide +kernel) rfl, zz_mem 143 (by decide +kernel) rfl, ⟨by decide +kernel, by decide +kernel, by decide +kernel⟩, (Nat.le_of_ble_eq_true rfl)⟩
theorem kc_X12_334 : Cond.constantLong RX12 334 (9 : Int64) ∈ zz_tbl := zz_mem 1877 (by decide +kernel) rfl
theorem lv_X12_336 : zz_LV RX12 336 mX12_whyAmount := ⟨zz_mem 1882 (by decide +kernel) rfl, zz_mem 1884 (by decide +kernel) rfl, zz_mem 104 (by decide +kernel) rfl⟩
theorem ok_X12_whyAmount : zz_ok mX12_whyAmount 2 := ⟨zz_mem 1885 (by decide +kernel) rfl, zz_mem 143 (by decide +kernel) rfl, ⟨by decide +kernel, by decide +kernel, by decide +kernel⟩, (Nat.le_of_ble_eq_true rfl)⟩
theorem kc_X12_339 : Cond.constantLong RX12 339 (10 : Int64) ∈ zz_tbl := zz_mem 1891 (by decide +kernel) rfl
theorem kc_X12_341 : Cond.constantLong RX12 341 (19 : Int64) ∈ zz_tbl := zz_mem 1909 (by decide +kernel) rfl
theorem kc_X12_343 : Cond.constantLong RX12 343 (1000 : Int64) ∈ zz_tbl := zz_mem 1910 (by decide +kernel) rfl
theorem kc_X12_345 : Cond.constantLong RX12 345 (8999 : Int64) ∈ zz_tbl := zz_mem 1911 (by decide +kernel) rfl
theorem kc_X12_347 : Cond.constantLong RX12 347 (10000 : Int64) ∈ zz_tbl := zz_mem 1912 (by decide +kernel) rfl
theorem kc_X12_349 : Cond.constantLong RX12 349 (29999 : Int64) ∈ zz_tbl := zz_mem 1913 (by decide +kernel) rfl
theorem kc_X12_351 : Cond.constantLong RX12 351 (2000 : Int64) ∈ zz_tbl := zz_mem 1914 (by decide +kernel) rfl
theorem fl_X12_353 : zz_FL RX12 353 12 30 (.int) false := ⟨RX12, TX12, 42, rfl, (Nat.le_of_ble_eq_true rfl), zz_mem 1541 (by decide +kernel) rfl, inX12, ⟨tyX12, tyX12_ok, rfl⟩, nmX12, rfl⟩
theorem fl_X12_88 : zz_FL RX12 88 12 40 (.array .int) true := ⟨RX12, TX12, 42, rfl, (Nat.le_of_ble_eq_true rfl), zz_mem 1551 (by decide +kernel) rfl, inX12, ⟨tyX12, tyX12_ok, rfl⟩, nmX12, rfl⟩
theorem fl_X12_91 : zz_FL RX12 91 12 41 (.array .long) true := ⟨RX12, TX12, 42, rfl, (Nat.le_of_ble_eq_true rfl), zz_mem 1552 (by decide +kernel) rfl, inX12, ⟨tyX12, tyX12_ok, rfl⟩, nmX12, rfl⟩
theorem lv_X12_356 : zz_LV RX12 356 mX12_whyNot := ⟨zz_mem 1905 (by decide +kernel) rfl, zz_mem 1907 (by decide +kernel) rfl, zz_mem 107 (by decide +kernel) rfl⟩
theorem ok_X12_whyNot : zz_ok mX12_whyNot 1 := ⟨zz_mem 1908 (by decide +kernel) rfl, zz_mem 143 (by decide +kernel) rfl, ⟨by decide +kernel, by decide +kernel, by decide +kernel⟩, (Nat.le_of_ble_eq_true rfl)⟩
theorem lv_X12_360 : zz_LV RX12 360 mX12_does := ⟨zz_mem 1915 (by decide +kernel) rfl, zz_mem 1917 (by decide +kernel) rfl, zz_mem 108 (by decide +kernel) rfl⟩
theorem ok_X12_does : zz_ok mX12_does 1 := ⟨zz_mem 1918 (by decide +kernel) rfl, zz_mem 143 (by decide +kernel) rfl, ⟨by decide +kernel, by decide +kernel, by decide +kernel⟩, (Nat.le_of_ble_eq_true rfl)⟩
theorem kc_X12_363 : Cond.constantLong RX12 363 (3 : Int64) ∈ zz_tbl := zz_mem 1896 (by decide +kernel) rfl
theorem fl_X12_85 : zz_FL RX12 85 12 39 (.array .int) true := ⟨RX12, TX12, 42, rfl, (Nat.le_of_ble_eq_true rfl), zz_mem 1550 (by decide +kernel) rfl, inX12, ⟨tyX12, tyX12_ok, rfl⟩, nmX12, rfl⟩
theorem lv_X12_365 : zz_LV RX12 365 mX12_noTray := ⟨zz_mem 1897 (by decide +kernel) rfl, zz_mem 1899 (by decide +kernel) rfl, zz_mem 105 (by decide +kernel) rfl⟩
theorem ok_X12_noTray : zz_ok mX12_noTray 1 := ⟨zz_mem 1900 (by decide +kernel) rfl, zz_mem 143 (by decide +kernel) rfl, ⟨by decide +kernel, by decide +kernel, by decide +kernel⟩, (Nat.le_of_ble_eq_true rfl)⟩
theorem lv_X12_368 : zz_LV RX12 368 mX12_tells := ⟨zz_mem 1901 (by decide +kernel) rfl, zz_mem 1903 (by decide +kernel) rfl, zz_mem 106 (by decide +kernel) rfl⟩
theorem ok_X12_tells : zz_ok mX12_tells 1 := ⟨zz_mem 1904 (by decide +kernel) rfl, zz_mem 143 (by decide +kernel) rfl, ⟨by decide +kernel, by decide +kernel, by decide +kernel⟩, (Nat.le_of_ble_eq_true rfl)⟩
theorem lv_X12_371 : zz_LV RX12 371 mX12_ratesSum := ⟨zz_mem 1919 (by decide +kernel) rfl, zz_mem 1921 (by decide +kernel) rfl, zz_mem 109 (by decide +kernel) rfl⟩
theorem ok_X12_ratesSum : zz_ok mX12_ratesSum 0 := ⟨zz_mem 1922 (by decide +kernel) rfl, zz_mem 143 (by decide +kernel) rfl, ⟨by decide +kernel, by decide +kernel, by decide +kernel⟩, (Nat.le_of_ble_eq_true rfl)⟩
theorem lv_X12_374 : zz_LV RX12 374 mX12_isAgain := ⟨zz_mem 1923 (by decide +kernel) rfl, zz_mem 1925 (by decide +kernel) rfl, zz_mem 110 (by decide +kernel) rfl⟩
theorem ok_X12_isAgain : zz_ok mX12_isAgain 0 := ⟨zz_mem 1926 (by decide +kernel) rfl, zz_mem 143 (by decide +kernel) rfl, ⟨by decide +kernel, by decide +kernel, by decide +kernel⟩, (Nat.le_of_ble_eq_true rfl)⟩
theorem kc_X12_377 : Cond.constant RX12 377 (1103515245 : Int32) ∈ zz_tbl := zz_mem 1944 (by decide +kernel) rfl
theorem fl_X12_378 : zz_FL RX12 378 12 31 (.int) false := ⟨RX12, TX12, 42, rfl, (Nat.le_of_ble_eq_true rfl), zz_mem 1542 (by decide +kernel) rfl, inX12, ⟨tyX12, tyX12_ok, rfl⟩, nmX12, rfl⟩
theorem lv_X12_381 : zz_LV RX12 381 mX12_draw := ⟨zz_mem 1940 (by decide +kernel) rfl, zz_mem 1942 (by decide +kernel) rfl, zz_mem 112 (by decide +kernel) rfl⟩
theorem ok_X12_draw : zz_ok mX12_draw 1 := ⟨zz_mem 1943 (by decide +kernel) rfl, zz_mem 143 (by decide +kernel) rfl, ⟨by decide +kernel, by decide +kernel, by decide +kernel⟩, (Nat.le_of_ble_eq_true rfl)⟩
theorem kc_X12_384 : Cond.constantLong RX12 384 (40 : Int64) ∈ zz_tbl := zz_mem 1935 (by decide +kernel) rfl
theorem lv_X12_386 : zz_LV RX12 386 mX12_drawn := ⟨zz_mem 1936 (by decide +kernel) rfl, zz_mem 1938 (by decide +kernel) rfl, zz_mem 111 (by decide +kernel) rfl⟩
theorem ok_X12_drawn : zz_ok mX12_drawn 0 := ⟨zz_mem 1939 (by decide +kernel) rfl, zz_mem 143 (by decide +kernel) rfl, ⟨by decide +kernel, by decide +kernel, by decide +kernel⟩, (Nat.le_of_ble_eq_true rfl)⟩
theorem lv_X12_389 : zz_LV RX12 389 mX12_isPillar := ⟨zz_mem 1953 (by decide +kernel) rfl, zz_mem 1955 (by decide +kernel) rfl, zz_mem 113 (by decide +kernel) rfl⟩
theorem ok_X12_isPillar : zz_ok mX12_isPillar 1 := ⟨zz_mem 1956 (by decide +kernel) rfl, zz_mem 143 (by decide +kernel) rfl, ⟨by decide +kernel, by decide +kernel, by decide +kernel⟩, (Nat.le_of_ble_eq_true rfl)⟩
theorem kc_X12_392 : Cond.constantLong RX12 392 (9999 : Int64) ∈ zz_tbl := zz_mem 1965 (by decide +kernel) rfl
theorem lv_X12_394 : zz_LV RX12 394 mX12_rateOf := ⟨zz_mem 1966 (by decide +kernel) rfl, zz_mem 1968 (by decide +kernel) rfl, zz_mem 114 (by decide +kernel) rfl⟩
theorem ok_X12_rateOf : zz_ok mX12_rateOf 2 := ⟨zz_mem 1969 (by decide +kernel) rfl, zz_mem 143 (by decide +kernel) rfl, ⟨by decide +kernel, by decide +kernel, by decide +kernel⟩, (Nat.le_of_ble_eq_true rfl)⟩
theorem lv_X12_397 : zz_LV RX12 397 mX12_laysWith := ⟨zz_mem 1982 (by decide +kernel) rfl, zz_mem 1984 (by decide +kernel) rfl, zz_mem 115 (by decide +kernel) rfl⟩
theorem ok_X12_laysWith : zz_ok mX12_laysWith 2 := ⟨zz_mem 1985 (by decide +kernel) rfl, zz_mem 143 (by decide +kernel) rfl, ⟨by decide +kernel, by decide +kernel, by decide +kernel⟩, (Nat.le_of_ble_eq_true rfl)⟩
theorem fl_X12_69 : zz_FL RX12 69 12 32 (.array .int) true := ⟨RX12, TX12, 42, rfl, (Nat.le_of_ble_eq_true rfl), zz_mem 1543 (by decide +kernel) rfl, inX12, ⟨tyX12, tyX12_ok, rfl⟩, nmX12, rfl⟩
theorem lv_X12_401 : zz_LV RX12 401 mX12_worthBy := ⟨zz_mem 1998 (by decide +kernel) rfl, zz_mem 2000 (by decide +kernel) rfl, zz_mem 117 (by decide +kernel) rfl⟩
theorem ok_X12_worthBy : zz_ok mX12_worthBy 0 := ⟨zz_mem 2001 (by decide +kernel) rfl, zz_mem 143 (by decide +kernel) rfl, ⟨by decide +kernel, by decide +kernel, by decide +kernel⟩, (Nat.le_of_ble_eq_true rfl)⟩
theorem lv_X12_405 : zz_LV RX12 405 mX12_worthNow := ⟨zz_mem 1994 (by decide +kernel) rfl, zz_mem 1996 (by decide +kernel) rfl, zz_mem 116 (by decide +kernel) rfl⟩
theorem ok_X12_worthNow : zz_ok mX12_worthNow 0 := ⟨zz_mem 1997 (by decide +kernel) rfl, zz_mem 143 (by decide +kernel) rfl, ⟨by decide +kernel, by decide +kernel, by decide +kernel⟩, (Nat.le_of_ble_eq_true rfl)⟩
theorem lv_X12_408 : zz_LV RX12 408 mX12_worthWith := ⟨zz_mem 2006 (by decide +kernel) rfl, zz_mem 2008 (by decide +kernel) rfl, zz_mem 118 (by decide +kernel) rfl⟩
theorem ok_X12_worthWith : zz_ok mX12_worthWith 2 := ⟨zz_mem 2009 (by decide +kernel) rfl, zz_mem 143 (by decide +kernel) rfl, ⟨by decide +kernel, by decide +kernel, by decide +kernel⟩, (Nat.le_of_ble_eq_true rfl)⟩
theorem kc_X12_411 : Cond.constantLong RX12 411 (-9000000000000000003 : Int64) ∈ zz_tbl := zz_mem 2014 (by decide +kernel) rfl
theorem kc_X12_413 : Cond.constantLong RX12 413 (-1 : Int64) ∈ zz_tbl := zz_mem 2019 (by decide +kernel) rfl
theorem lv_X12_415 : zz_LV RX12 415 mX12_weightAt := ⟨zz_mem 2032 (by decide +kernel) rfl, zz_mem 2034 (by decide +kernel) rfl, zz_mem 120 (by decide +kernel) rfl⟩
theorem ok_X12_weightAt : zz_ok mX12_weightAt 2 := ⟨zz_mem 2035 (by decide +kernel) rfl, zz_mem 143 (by decide +kernel) rfl, ⟨by decide +kernel, by decide +kernel, by decide +kernel⟩, (Nat.le_of_ble_eq_true rfl)⟩
theorem fl_X12_76 : zz_FL RX12 76 12 34 (.array .long) true := ⟨RX12, TX12, 42, rfl, (Nat.le_of_ble_eq_true rfl), zz_mem 1545 (by decide +kernel) rfl, inX12, ⟨tyX12, tyX12_ok, rfl⟩, nmX12, rfl⟩
theorem lv_X12_418 : zz_LV RX12 418 mX12_hangOf := ⟨zz_mem 2028 (by decide +kernel) rfl, zz_mem 2030 (by decide +kernel) rfl, zz_mem 119 (by decide +kernel) rfl⟩
theorem ok_X12_hangOf : zz_ok mX12_hangOf 1 := ⟨zz_mem 2031 (by decide +kernel) rfl, zz_mem 143 (by decide +kernel) rfl, ⟨by decide +kernel, by decide +kernel, by decide +kernel⟩, (Nat.le_of_ble_eq_true rfl)⟩
theorem lv_X12_422 : zz_LV RX12 422 mX12_pieceOn := ⟨zz_mem 2044 (by decide +kernel) rfl, zz_mem 2046 (by decide +kernel) rfl, zz_mem 122 (by decide +kernel) rfl⟩
theorem ok_X12_pieceOn : zz_ok mX12_pieceOn 2 := ⟨zz_mem 2047 (by decide +kernel) rfl, zz_mem 143 (by decide +kernel) rfl, ⟨by decide +kernel, by decide +kernel, by decide +kernel⟩, (Nat.le_of_ble_eq_true rfl)⟩
theorem fl_X12_72 : zz_FL RX12 72 12 33 (.array .long) true := ⟨RX12, TX12, 42, rfl, (Nat.le_of_ble_eq_true rfl), zz_mem 1544 (by decide +kernel) rfl, inX12, ⟨tyX12, tyX12_ok, rfl⟩, nmX12, rfl⟩
theorem kc_X12_425 : Cond.constantLong RX12 425 (2 : Int64) ∈ zz_tbl := zz_mem 2048 (by decide +kernel) rfl
theorem lv_X12_427 : zz_LV RX12 427 mX12_laysFlat := ⟨zz_mem 2040 (by decide +kernel) rfl, zz_mem 2042 (by decide +kernel) rfl, zz_mem 121 (by decide +kernel) rfl⟩
theorem ok_X12_laysFlat : zz_ok mX12_laysFlat 0 := ⟨zz_mem 2043 (by decide +kernel) rfl, zz_mem 143 (by decide +kernel) rfl, ⟨by decide +kernel, by decide +kernel, by decide +kernel⟩, (Nat.le_of_ble_eq_true rfl)⟩
theorem kc_X12_430 : Cond.constantLong RX12 430 (8 : Int64) ∈ zz_tbl := zz_mem 2061 (by decide +kernel) rfl
theorem kc_X12_432 : Cond.constantLong RX12 432 (999999999999 : Int64) ∈ zz_tbl := zz_mem 2062 (by decide +kernel) rfl
theorem kc_X12_434 : Cond.constantLong RX12 434 (100000000 : Int64) ∈ zz_tbl := zz_mem 2067 (by decide +kernel) rfl
theorem lv_X12_436 : zz_LV RX12 436 mX12_noTold := ⟨zz_mem 2057 (by decide +kernel) rfl, zz_mem 2059 (by decide +kernel) rfl, zz_mem 123 (by decide +kernel) rfl⟩
theorem ok_X12_noTold : zz_ok mX12_noTold 1 := ⟨zz_mem 2060 (by decide +kernel) rfl, zz_mem 143 (by decide +kernel) rfl, ⟨by decide +kernel, by decide +kernel, by decide +kernel⟩, (Nat.le_of_ble_eq_true rfl)⟩
theorem lv_X12_439 : zz_LV RX12 439 mX12_shiftsOf := ⟨zz_mem 2063 (by decide +kernel) rfl, zz_mem 2065 (by decide +kernel) rfl, zz_mem 124 (by decide +kernel) rfl⟩
theorem ok_X12_shiftsOf : zz_ok mX12_shiftsOf 1 := ⟨zz_mem 2066 (by decide +kernel) rfl, zz_mem 143 (by decide +kernel) rfl, ⟨by decide +kernel, by decide +kernel, by decide +kernel⟩, (Nat.le_of_ble_eq_true rfl)⟩
theorem ls_X12_442 : zz_LS RX12 442 mX12_isIn := ⟨zz_mem 2077 (by decide +kernel) rfl, zz_mem 2078 (by decide +kernel) rfl⟩
theorem ok_X12_isIn : zz_ok mX12_isIn 2 := ⟨zz_mem 2079 (by decide +kernel) rfl, zz_mem 143 (by decide +kernel) rfl, ⟨by decide +kernel, by decide +kernel, by decide +kernel⟩, (Nat.le_of_ble_eq_true rfl)⟩
theorem fl_X12_79 : zz_FL RX12 79 12 35 (.array .int) true := ⟨RX12, TX12, 42, rfl, (Nat.le_of_ble_eq_true rfl), zz_mem 1546 (by decide +kernel) rfl, inX12, ⟨tyX12, tyX12_ok, rfl⟩, nmX12, rfl⟩
theorem kc_X12_446 : Cond.constant RX12 446 (268435456 : Int32) ∈ zz_tbl := zz_mem 2072 (by decide +kernel) rfl
theorem lv_X12_447 : zz_LV RX12 447 mX12_mostAlike := ⟨zz_mem 2073 (by decide +kernel) rfl, zz_mem 2075 (by decide +kernel) rfl, zz_mem 125 (by decide +kernel) rfl⟩
theorem ok_X12_mostAlike : zz_ok mX12_mostAlike 2 := ⟨zz_mem 2076 (by decide +kernel) rfl, zz_mem 143 (by decide +kernel) rfl, ⟨by decide +kernel, by decide +kernel, by decide +kernel⟩, (Nat.le_of_ble_eq_true rfl)⟩
theorem fl_X12_82 : zz_FL RX12 82 12 36 (.array .int) true := ⟨RX12, TX12, 42, rfl, (Nat.le_of_ble_eq_true rfl), zz_mem 1547 (by decide +kernel) rfl, inX12, ⟨tyX12, tyX12_ok, rfl⟩, nmX12, rfl⟩
theorem fl_X12_450 : zz_FL RX12 450 12 37 (.long) false := ⟨RX12, TX12, 42, rfl, (Nat.le_of_ble_eq_true rfl), zz_mem 1548 (by decide +kernel) rfl, inX12, ⟨tyX12, tyX12_ok, rfl⟩, nmX12, rfl⟩
theorem fl_X12_454 : zz_FL RX12 454 12 38 (.long) false := ⟨RX12, TX12, 42, rfl, (Nat.le_of_ble_eq_true rfl), zz_mem 1549 (by decide +kernel) rfl, inX12, ⟨tyX12, tyX12_ok, rfl⟩, nmX12, rfl⟩
theorem lv_X12_457 : zz_LV RX12 457 mX12_goesLots := ⟨zz_mem 2091 (by decide +kernel) rfl, zz_mem 2093 (by decide +kernel) rfl, zz_mem 127 (by decide +kernel) rfl⟩
theorem ok_X12_goesLots : zz_ok mX12_goesLots 5 := ⟨zz_mem 2094 (by decide +kernel) rfl, zz_mem 143 (by decide +kernel) rfl, ⟨by decide +kernel, by decide +kernel, by decide +kernel⟩, (Nat.le_of_ble_eq_true rfl)⟩
theorem ls_X12_461 : zz_LS RX12 461 mX12_common := ⟨zz_mem 2098 (by decide +kernel) rfl, zz_mem 2099 (by decide +kernel) rfl⟩
theorem ok_X12_common : zz_ok mX12_common 2 := ⟨zz_mem 2100 (by decide +kernel) rfl, zz_mem 143 (by decide +kernel) rfl, ⟨by decide +kernel, by decide +kernel, by decide +kernel⟩, (Nat.le_of_ble_eq_true rfl)⟩
theorem ls_X12_464 : zz_LS RX12 464 mX12_isLots := ⟨zz_mem 2084 (by decide +kernel) rfl, zz_mem 2085 (by decide +kernel) rfl⟩
theorem ok_X12_isLots : zz_ok mX12_isLots 2 := ⟨zz_mem 2086 (by decide +kernel) rfl, zz_mem 143 (by decide +kernel) rfl, ⟨by decide +kernel, by decide +kernel, by decide +kernel⟩, (Nat.le_of_ble_eq_true rfl)⟩
theorem lv_X12_467 : zz_LV RX12 467 mX12_laysLots := ⟨zz_mem 2087 (by decide +kernel) rfl, zz_mem 2089 (by decide +kernel) rfl, zz_mem 126 (by decide +kernel) rfl⟩
theorem ok_X12_laysLots : zz_ok mX12_laysLots 3 := ⟨zz_mem 2090 (by decide +kernel) rfl, zz_mem 143 (by decide +kernel) rfl, ⟨by decide +kernel, by decide +kernel, by decide +kernel⟩, (Nat.le_of_ble_eq_true rfl)⟩
theorem ls_X12_471 : zz_LS RX12 471 mX12_wholeOf := ⟨zz_mem 2095 (by decide +kernel) rfl, zz_mem 2096 (by decide +kernel) rfl⟩
theorem ok_X12_wholeOf : zz_ok mX12_wholeOf 1 := ⟨zz_mem 2097 (by decide +kernel) rfl, zz_mem 143 (by decide +kernel) rfl, ⟨by decide +kernel, by decide +kernel, by decide +kernel⟩, (Nat.le_of_ble_eq_true rfl)⟩
theorem ls_X12_476 : zz_LS RX12 476 mX12_cut := ⟨zz_mem 2114 (by decide +kernel) rfl, zz_mem 2115 (by decide +kernel) rfl⟩
theorem ok_X12_cut : zz_ok mX12_cut 2 := ⟨zz_mem 2116 (by decide +kernel) rfl, zz_mem 143 (by decide +kernel) rfl, ⟨by decide +kernel, by decide +kernel, by decide +kernel⟩, (Nat.le_of_ble_eq_true rfl)⟩
theorem kc_X12_474 : Cond.constantLong RX12 474 (-7 : Int64) ∈ zz_tbl := zz_mem 2113 (by decide +kernel) rfl
theorem fl_X12_17 : zz_FL RX12 17 12 2 (.array .boolean) true := ⟨RX12, TX12, 42, rfl, (Nat.le_of_ble_eq_true rfl), zz_mem 1513 (by decide +kernel) rfl, inX12, ⟨tyX12, tyX12_ok, rfl⟩, nmX12, rfl⟩
