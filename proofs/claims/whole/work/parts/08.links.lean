/-! ===== methods, constants, links ===== -/
def mX0_forget : zz_M := (yX0_forget, cX0_forget, 1, none)
def mX0_isOpen : zz_M := (yX0_isOpen, cX0_isOpen, 4, (some .boolean))
def mX0_isOpenByRule : zz_M := (yX0_isOpenByRule, cX0_isOpenByRule, 5, (some .boolean))
def mX0_putOff : zz_M := (yX0_putOff, cX0_putOff, 3, (some .int))
def mX1_copyFrom : zz_M := (yX1_copyFrom, cX1_copyFrom, 2, none)
def mX1_countRates : zz_M := (yX1_countRates, cX1_countRates, 4, none)
def mX1_rateByRule : zz_M := (yX1_rateByRule, cX1_rateByRule, 5, (some .int))
def mX1_solve : zz_M := (yX1_solve, cX1_solve, 4, none)
def mX1_askLoan : zz_M := (yX1_askLoan, cX1_askLoan, 4, none)
def mX1_askSwap : zz_M := (yX1_askSwap, cX1_askSwap, 4, none)
def mX1_takeIn : zz_M := (yX1_takeIn, cX1_takeIn, 6, none)
def mX1_greatestAtOnce : zz_M := (yX1_greatestAtOnce, cX1_greatestAtOnce, 1, (some .long))
def mX1_inFactorBounds : zz_M := (yX1_inFactorBounds, cX1_inFactorBounds, 2, (some .long))
def mX1_guess : zz_M := (yX1_guess, cX1_guess, 6, (some .long))
def mX1_holds : zz_M := (yX1_holds, cX1_holds, 6, (some .boolean))
def mX1_greatestFrom : zz_M := (yX1_greatestFrom, cX1_greatestFrom, 10, (some .long))
def mX1_lastFactor : zz_M := (yX1_lastFactor, cX1_lastFactor, 1, (some .int))
def mX1_factorAt : zz_M := (yX1_factorAt, cX1_factorAt, 7, (some .int))
def mX1_rateBetween : zz_M := (yX1_rateBetween, cX1_rateBetween, 7, (some .int))
def mX1_swapRate : zz_M := (yX1_swapRate, cX1_swapRate, 6, (some .int))
def mX1_bookWorth : zz_M := (yX1_bookWorth, cX1_bookWorth, 4, (some .long))
def mX2_bookHang : zz_M := (yX2_bookHang, cX2_bookHang, 5, (some .long))
def mX2_pieceHang : zz_M := (yX2_pieceHang, cX2_pieceHang, 7, (some .long))
def mX2_dueHang : zz_M := (yX2_dueHang, cX2_dueHang, 8, (some .long))
def mX2_flatten : zz_M := (yX2_flatten, cX2_flatten, 2, none)
def mX2_takePieces : zz_M := (yX2_takePieces, cX2_takePieces, 6, none)
def mX3_clear : zz_M := (yX3_clear, cX3_clear, 1, none)
def mX3_copyFrom : zz_M := (yX3_copyFrom, cX3_copyFrom, 2, none)
def mX3_add : zz_M := (yX3_add, cX3_add, 2, none)
def mX3_hasRates : zz_M := (yX3_hasRates, cX3_hasRates, 1, (some .boolean))
def mX3_hasOpens : zz_M := (yX3_hasOpens, cX3_hasOpens, 1, (some .boolean))
def mX3_value : zz_M := (yX3_value, cX3_value, 6, (some .int))
def mX3_joined : zz_M := (yX3_joined, cX3_joined, 7, (some .int))
def mX4_tally : zz_M := (yX4_tally, cX4_tally, 8, none)
def mX4_drawInOrder : zz_M := (yX4_drawInOrder, cX4_drawInOrder, 6, (some .boolean))
def mX4_addDraw : zz_M := (yX4_addDraw, cX4_addDraw, 9, none)
def mX4_orders : zz_M := (yX4_orders, cX4_orders, 4, (some .long))
def mX4_inLowestTerms : zz_M := (yX4_inLowestTerms, cX4_inLowestTerms, 12, (some .long))
def mX5_clear : zz_M := (yX5_clear, cX5_clear, 1, none)
def mX5_push : zz_M := (yX5_push, cX5_push, 2, none)
def mX5_back : zz_M := (yX5_back, cX5_back, 3, none)
def mX6_clear : zz_M := (yX6_clear, cX6_clear, 1, none)
def mX6_copyFrom : zz_M := (yX6_copyFrom, cX6_copyFrom, 2, none)
def mX6_hasInput : zz_M := (yX6_hasInput, cX6_hasInput, 2, (some .boolean))
def mX6_hasFlow : zz_M := (yX6_hasFlow, cX6_hasFlow, 2, (some .boolean))
def mX6_isHoliday : zz_M := (yX6_isHoliday, cX6_isHoliday, 3, (some .boolean))
def mX6_rateSum : zz_M := (yX6_rateSum, cX6_rateSum, 4, (some .int))
def mX6_doBump : zz_M := (yX6_doBump, cX6_doBump, 5, (some .int))
def mX6_doShift : zz_M := (yX6_doShift, cX6_doShift, 3, (some .int))
def mX6_doAmount : zz_M := (yX6_doAmount, cX6_doAmount, 4, (some .int))
def mX6_doDeed : zz_M := (yX6_doDeed, cX6_doDeed, 5, (some .int))
def mX7_read : zz_M := (yX7_read, cX7_read, 4, none)
def mX7_fail : zz_M := (yX7_fail, cX7_fail, 2, none)
def mX7_byteAt : zz_M := (yX7_byteAt, cX7_byteAt, 2, (some .int))
def mX7_next : zz_M := (yX7_next, cX7_next, 2, none)
def mX7_isLetter : zz_M := (yX7_isLetter, cX7_isLetter, 1, (some .boolean))
def mX7_isDigit : zz_M := (yX7_isDigit, cX7_isDigit, 1, (some .boolean))
def mX7_nextWord : zz_M := (yX7_nextWord, cX7_nextWord, 1, none)
def mX7_nextNumber : zz_M := (yX7_nextNumber, cX7_nextNumber, 1, none)
def mX7_isWord : zz_M := (yX7_isWord, cX7_isWord, 3, (some .boolean))
def mX7_takeWord : zz_M := (yX7_takeWord, cX7_takeWord, 2, none)
def mX7_takeSign : zz_M := (yX7_takeSign, cX7_takeSign, 2, none)
def mX7_takeNumber : zz_M := (yX7_takeNumber, cX7_takeNumber, 4, (some .int))
def mX7_readHead : zz_M := (yX7_readHead, cX7_readHead, 1, none)
def mX7_readLine : zz_M := (yX7_readLine, cX7_readLine, 1, none)
def mX7_readHoliday : zz_M := (yX7_readHoliday, cX7_readHoliday, 2, none)
def mX7_readInput : zz_M := (yX7_readInput, cX7_readInput, 3, none)
def mX7_readFlow : zz_M := (yX7_readFlow, cX7_readFlow, 4, none)
def mX7_readRates : zz_M := (yX7_readRates, cX7_readRates, 1, none)
def mX7_readOpens : zz_M := (yX7_readOpens, cX7_readOpens, 1, none)
def mX7_readSum : zz_M := (yX7_readSum, cX7_readSum, 4, none)
def mX7_readTerm : zz_M := (yX7_readTerm, cX7_readTerm, 3, none)
def mX7_readAtom : zz_M := (yX7_readAtom, cX7_readAtom, 2, none)
def mX7_goDeeper : zz_M := (yX7_goDeeper, cX7_goDeeper, 2, none)
def mX7_readChoice : zz_M := (yX7_readChoice, cX7_readChoice, 2, none)
def mX7_readVariable : zz_M := (yX7_readVariable, cX7_readVariable, 2, none)
def mX7_ratesVariable : zz_M := (yX7_ratesVariable, cX7_ratesVariable, 1, (some .int))
def mX7_opensVariable : zz_M := (yX7_opensVariable, cX7_opensVariable, 1, (some .int))
def mX7_readTruth : zz_M := (yX7_readTruth, cX7_readTruth, 3, none)
def mX7_readBoth : zz_M := (yX7_readBoth, cX7_readBoth, 3, none)
def mX7_readUnit : zz_M := (yX7_readUnit, cX7_readUnit, 2, none)
def mX7_readComparison : zz_M := (yX7_readComparison, cX7_readComparison, 3, none)
def mX8_lay : zz_M := (yX8_lay, cX8_lay, 2, none)
def mX8_layPeriods : zz_M := (yX8_layPeriods, cX8_layPeriods, 5, none)
def mX8_sortByEnds : zz_M := (yX8_sortByEnds, cX8_sortByEnds, 3, none)
def mX8_layPillars : zz_M := (yX8_layPillars, cX8_layPillars, 4, none)
def mX8_hasPillar : zz_M := (yX8_hasPillar, cX8_hasPillar, 2, (some .boolean))
def mX8_periodEnd : zz_M := (yX8_periodEnd, cX8_periodEnd, 3, (some .int))
def mX8_periodDays : zz_M := (yX8_periodDays, cX8_periodDays, 3, (some .int))
def mX8_daysOf : zz_M := (yX8_daysOf, cX8_daysOf, 2, (some .int))
def mX8_pillarAt : zz_M := (yX8_pillarAt, cX8_pillarAt, 3, (some .int))
def mX8_weight : zz_M := (yX8_weight, cX8_weight, 6, (some .int))
def mX9_copyFrom : zz_M := (yX9_copyFrom, cX9_copyFrom, 2, none)
def mX10_isMissing : zz_M := (yX10_isMissing, cX10_isMissing, 1, (some .boolean))
def mX10_renew : zz_M := (yX10_renew, cX10_renew, 3, none)
def mX10_put : zz_M := (yX10_put, cX10_put, 4, none)
def mX11_feed : zz_M := (yX11_feed, cX11_feed, 6, (some .int))
def mX11_feedWord : zz_M := (yX11_feedWord, cX11_feedWord, 3, none)
def mX11_desk : zz_M := (yX11_desk, cX11_desk, 2, (some .int))
def mX11_fault : zz_M := (yX11_fault, cX11_fault, 2, (some .int))
def mX11_input : zz_M := (yX11_input, cX11_input, 3, (some .int))
def mX11_flow : zz_M := (yX11_flow, cX11_flow, 3, (some .long))
def mX11_open : zz_M := (yX11_open, cX11_open, 2, (some .int))
def mX11_off : zz_M := (yX11_off, cX11_off, 2, (some .int))
def mX11_opens : zz_M := (yX11_opens, cX11_opens, 5, (some .int))
def mX11_business : zz_M := (yX11_business, cX11_business, 5, (some .int))
def mX11_period : zz_M := (yX11_period, cX11_period, 3, (some .int))
def mX11_bump : zz_M := (yX11_bump, cX11_bump, 4, (some .int))
def mX11_shift : zz_M := (yX11_shift, cX11_shift, 3, (some .int))
def mX11_amount : zz_M := (yX11_amount, cX11_amount, 4, (some .int))
def mX11_remember : zz_M := (yX11_remember, cX11_remember, 2, none)
def mX11_undo : zz_M := (yX11_undo, cX11_undo, 2, (some .int))
def mX11_judge : zz_M := (yX11_judge, cX11_judge, 4, (some .int))
def mX11_doAll : zz_M := (yX11_doAll, cX11_doAll, 5, (some .int))
def mX11_lastFactorTried : zz_M := (yX11_lastFactorTried, cX11_lastFactorTried, 1, (some .int))
def mX11_perform : zz_M := (yX11_perform, cX11_perform, 3, (some .int))
def mX11_week : zz_M := (yX11_week, cX11_week, 5, (some .int))
def mX11_drawn : zz_M := (yX11_drawn, cX11_drawn, 1, (some .int))
def mX11_drawnDeed : zz_M := (yX11_drawnDeed, cX11_drawnDeed, 3, (some .int))
def mX11_solvedNow : zz_M := (yX11_solvedNow, cX11_solvedNow, 1, (some (.object "PillarDesk$Curve")))
def mX11_bumpedTrial : zz_M := (yX11_bumpedTrial, cX11_bumpedTrial, 3, (some (.object "PillarDesk$Curve")))
def mX11_inRateBounds : zz_M := (yX11_inRateBounds, cX11_inRateBounds, 1, (some .int))
def mX11_pillars : zz_M := (yX11_pillars, cX11_pillars, 1, (some .int))
def mX11_pillar : zz_M := (yX11_pillar, cX11_pillar, 3, (some .int))
def mX11_factor : zz_M := (yX11_factor, cX11_factor, 2, (some .int))
def mX11_forward : zz_M := (yX11_forward, cX11_forward, 3, (some .int))
def mX11_implied : zz_M := (yX11_implied, cX11_implied, 2, (some .int))
def mX11_sound : zz_M := (yX11_sound, cX11_sound, 3, (some .int))
def mX11_falls : zz_M := (yX11_falls, cX11_falls, 3, (some .int))
def mX11_moves : zz_M := (yX11_moves, cX11_moves, 5, (some .int))
def mX11_worth : zz_M := (yX11_worth, cX11_worth, 1, (some .long))
def mX11_move : zz_M := (yX11_move, cX11_move, 2, (some .long))
def mX11_bumped : zz_M := (yX11_bumped, cX11_bumped, 3, (some .long))
def mX11_mover : zz_M := (yX11_mover, cX11_mover, 7, (some .int))
def mX11_breaks : zz_M := (yX11_breaks, cX11_breaks, 8, (some .int))
def mX11_hang : zz_M := (yX11_hang, cX11_hang, 2, (some .long))
def mX11_flat : zz_M := (yX11_flat, cX11_flat, 2, (some .long))
def mX11_left : zz_M := (yX11_left, cX11_left, 2, (some .long))
def mX11_shifts : zz_M := (yX11_shifts, cX11_shifts, 3, (some .int))
def mX11_toldRefusal : zz_M := (yX11_toldRefusal, cX11_toldRefusal, 3, (some .int))
def mX11_shiftsTold : zz_M := (yX11_shiftsTold, cX11_shiftsTold, 5, (some .int))
def mX11_trialIsTold : zz_M := (yX11_trialIsTold, cX11_trialIsTold, 4, (some .boolean))
def mX11_ask : zz_M := (yX11_ask, cX11_ask, 8, (some .int))
def mX11_mostAlike : zz_M := (yX11_mostAlike, cX11_mostAlike, 8, (some .int))
def mX11_chance : zz_M := (yX11_chance, cX11_chance, 6, (some .int))
def mX11_mean : zz_M := (yX11_mean, cX11_mean, 4, (some .long))
def mX11_noTray : zz_M := (yX11_noTray, cX11_noTray, 2, (some .boolean))
def mX11_numbers : zz_M := (yX11_numbers, cX11_numbers, 4, (some .int))
def mX11_write : zz_M := (yX11_write, cX11_write, 5, (some .long))
def mX11_lists : zz_M := (yX11_lists, cX11_lists, 5, (some .int))
def mX11_count : zz_M := (yX11_count, cX11_count, 2, (some .int))
def mX12_within : zz_M := (yX12_within, cX12_within, 6, (some .boolean))
def mX12_plain : zz_M := (yX12_plain, cX12_plain, 2, none)
def mX12_feed : zz_M := (yX12_feed, cX12_feed, 8, (some .int))
def mX12_see : zz_M := (yX12_see, cX12_see, 2, (some .int))
def mX12_isSmall : zz_M := (yX12_isSmall, cX12_isSmall, 1, (some .boolean))
def mX12_isDigit : zz_M := (yX12_isDigit, cX12_isDigit, 1, (some .boolean))
def mX12_keyAt : zz_M := (yX12_keyAt, cX12_keyAt, 4, (some .int))
def mX12_next : zz_M := (yX12_next, cX12_next, 2, none)
def mX12_fails : zz_M := (yX12_fails, cX12_fails, 2, none)
def mX12_is : zz_M := (yX12_is, cX12_is, 2, (some .boolean))
def mX12_eats : zz_M := (yX12_eats, cX12_eats, 2, (some .boolean))
def mX12_takes : zz_M := (yX12_takes, cX12_takes, 4, (some .int))
def mX12_isIn : zz_M := (yX12_isIn, cX12_isIn, 3, (some .boolean))
def mX12_wordOf : zz_M := (yX12_wordOf, cX12_wordOf, 3, (some .int))
def mX12_codes : zz_M := (yX12_codes, cX12_codes, 2, none)
def mX12_goesIn : zz_M := (yX12_goesIn, cX12_goesIn, 2, (some .boolean))
def mX12_readAtom : zz_M := (yX12_readAtom, cX12_readAtom, 2, none)
def mX12_readIf : zz_M := (yX12_readIf, cX12_readIf, 2, none)
def mX12_readTerm : zz_M := (yX12_readTerm, cX12_readTerm, 2, none)
def mX12_readSum : zz_M := (yX12_readSum, cX12_readSum, 3, none)
def mX12_readUnit : zz_M := (yX12_readUnit, cX12_readUnit, 3, none)
def mX12_readBoth : zz_M := (yX12_readBoth, cX12_readBoth, 2, none)
def mX12_readTruth : zz_M := (yX12_readTruth, cX12_readTruth, 2, none)
def mX12_named : zz_M := (yX12_named, cX12_named, 4, (some .int))
def mX12_readHoliday : zz_M := (yX12_readHoliday, cX12_readHoliday, 2, none)
def mX12_readInput : zz_M := (yX12_readInput, cX12_readInput, 7, none)
def mX12_readFlow : zz_M := (yX12_readFlow, cX12_readFlow, 4, none)
def mX12_readLaw : zz_M := (yX12_readLaw, cX12_readLaw, 3, none)
def mX12_readLine : zz_M := (yX12_readLine, cX12_readLine, 1, none)
def mX12_closes : zz_M := (yX12_closes, cX12_closes, 1, none)
def mX12_desk : zz_M := (yX12_desk, cX12_desk, 3, (some .int))
def mX12_fault : zz_M := (yX12_fault, cX12_fault, 2, (some .int))
def mX12_isInput : zz_M := (yX12_isInput, cX12_isInput, 3, (some .boolean))
def mX12_isFlow : zz_M := (yX12_isFlow, cX12_isFlow, 3, (some .boolean))
def mX12_kept : zz_M := (yX12_kept, cX12_kept, 3, (some .int))
def mX12_between : zz_M := (yX12_between, cX12_between, 5, (some .int))
def mX12_reckons : zz_M := (yX12_reckons, cX12_reckons, 5, (some .int))
def mX12_isOpen : zz_M := (yX12_isOpen, cX12_isOpen, 4, (some .boolean))
def mX12_offOf : zz_M := (yX12_offOf, cX12_offOf, 3, (some .int))
def mX12_laysDays : zz_M := (yX12_laysDays, cX12_laysDays, 3, none)
def mX12_laysPeriods : zz_M := (yX12_laysPeriods, cX12_laysPeriods, 4, none)
def mX12_endOf : zz_M := (yX12_endOf, cX12_endOf, 3, (some .int))
def mX12_lengthOf : zz_M := (yX12_lengthOf, cX12_lengthOf, 3, (some .int))
def mX12_isDay : zz_M := (yX12_isDay, cX12_isDay, 2, (some .boolean))
def mX12_open : zz_M := (yX12_open, cX12_open, 2, (some .int))
def mX12_off : zz_M := (yX12_off, cX12_off, 2, (some .int))
def mX12_opens : zz_M := (yX12_opens, cX12_opens, 5, (some .int))
def mX12_business : zz_M := (yX12_business, cX12_business, 5, (some .int))
def mX12_period : zz_M := (yX12_period, cX12_period, 3, (some .int))
def mX12_countOf : zz_M := (yX12_countOf, cX12_countOf, 4, (some .int))
def mX12_laysCounts : zz_M := (yX12_laysCounts, cX12_laysCounts, 3, none)
def mX12_floorOf : zz_M := (yX12_floorOf, cX12_floorOf, 6, (some .long))
def mX12_pillarAt : zz_M := (yX12_pillarAt, cX12_pillarAt, 3, (some .int))
def mX12_factorAt : zz_M := (yX12_factorAt, cX12_factorAt, 5, (some .int))
def mX12_dueOf : zz_M := (yX12_dueOf, cX12_dueOf, 3, (some .long))
def mX12_fits : zz_M := (yX12_fits, cX12_fits, 9, (some .boolean))
def mX12_solves : zz_M := (yX12_solves, cX12_solves, 6, none)
def mX12_laysPillars : zz_M := (yX12_laysPillars, cX12_laysPillars, 3, none)
def mX12_laysCurve : zz_M := (yX12_laysCurve, cX12_laysCurve, 1, none)
def mX12_laysWith : zz_M := (yX12_laysWith, cX12_laysWith, 3, none)
def mX12_input : zz_M := (yX12_input, cX12_input, 3, (some .int))
def mX12_flow : zz_M := (yX12_flow, cX12_flow, 3, (some .long))
def mX12_stores : zz_M := (yX12_stores, cX12_stores, 2, none)
def mX12_isAgain : zz_M := (yX12_isAgain, cX12_isAgain, 2, none)
def mX12_notes : zz_M := (yX12_notes, cX12_notes, 2, none)
def mX12_whyBump : zz_M := (yX12_whyBump, cX12_whyBump, 5, (some .int))
def mX12_whyAmount : zz_M := (yX12_whyAmount, cX12_whyAmount, 5, (some .int))
def mX12_bump : zz_M := (yX12_bump, cX12_bump, 4, (some .int))
def mX12_shift : zz_M := (yX12_shift, cX12_shift, 2, (some .int))
def mX12_amount : zz_M := (yX12_amount, cX12_amount, 3, (some .int))
def mX12_undo : zz_M := (yX12_undo, cX12_undo, 3, (some .int))
def mX12_whyNot : zz_M := (yX12_whyNot, cX12_whyNot, 3, (some .int))
def mX12_does : zz_M := (yX12_does, cX12_does, 2, none)
def mX12_tells : zz_M := (yX12_tells, cX12_tells, 3, (some .int))
def mX12_noTray : zz_M := (yX12_noTray, cX12_noTray, 2, (some .int))
def mX12_ratesSum : zz_M := (yX12_ratesSum, cX12_ratesSum, 3, (some .int))
def mX12_judge : zz_M := (yX12_judge, cX12_judge, 7, (some .int))
def mX12_perform : zz_M := (yX12_perform, cX12_perform, 4, (some .int))
def mX12_draw : zz_M := (yX12_draw, cX12_draw, 2, (some .int))
def mX12_drawn : zz_M := (yX12_drawn, cX12_drawn, 3, (some .int))
def mX12_week : zz_M := (yX12_week, cX12_week, 6, (some .int))
def mX12_isPillar : zz_M := (yX12_isPillar, cX12_isPillar, 2, (some .boolean))
def mX12_pillars : zz_M := (yX12_pillars, cX12_pillars, 1, (some .int))
def mX12_pillar : zz_M := (yX12_pillar, cX12_pillar, 3, (some .int))
def mX12_factor : zz_M := (yX12_factor, cX12_factor, 2, (some .int))
def mX12_rateOf : zz_M := (yX12_rateOf, cX12_rateOf, 5, (some .int))
def mX12_forward : zz_M := (yX12_forward, cX12_forward, 3, (some .int))
def mX12_implied : zz_M := (yX12_implied, cX12_implied, 5, (some .int))
def mX12_sound : zz_M := (yX12_sound, cX12_sound, 2, (some .int))
def mX12_falls : zz_M := (yX12_falls, cX12_falls, 4, (some .int))
def mX12_moves : zz_M := (yX12_moves, cX12_moves, 4, (some .int))
def mX12_worthBy : zz_M := (yX12_worthBy, cX12_worthBy, 4, (some .long))
def mX12_worthNow : zz_M := (yX12_worthNow, cX12_worthNow, 1, (some .long))
def mX12_worthWith : zz_M := (yX12_worthWith, cX12_worthWith, 3, (some .long))
def mX12_worth : zz_M := (yX12_worth, cX12_worth, 1, (some .long))
def mX12_move : zz_M := (yX12_move, cX12_move, 2, (some .long))
def mX12_bumped : zz_M := (yX12_bumped, cX12_bumped, 3, (some .long))
def mX12_mover : zz_M := (yX12_mover, cX12_mover, 9, (some .int))
def mX12_breaks : zz_M := (yX12_breaks, cX12_breaks, 7, (some .int))
def mX12_weightAt : zz_M := (yX12_weightAt, cX12_weightAt, 5, (some .int))
def mX12_hangOf : zz_M := (yX12_hangOf, cX12_hangOf, 5, (some .long))
def mX12_pieceOn : zz_M := (yX12_pieceOn, cX12_pieceOn, 6, (some .long))
def mX12_laysFlat : zz_M := (yX12_laysFlat, cX12_laysFlat, 5, none)
def mX12_hang : zz_M := (yX12_hang, cX12_hang, 2, (some .long))
def mX12_flat : zz_M := (yX12_flat, cX12_flat, 2, (some .long))
def mX12_left : zz_M := (yX12_left, cX12_left, 2, (some .long))
def mX12_noTold : zz_M := (yX12_noTold, cX12_noTold, 4, (some .int))
def mX12_shiftsOf : zz_M := (yX12_shiftsOf, cX12_shiftsOf, 6, (some .int))
def mX12_shifts : zz_M := (yX12_shifts, cX12_shifts, 3, (some .int))
def mX12_mostAlike : zz_M := (yX12_mostAlike, cX12_mostAlike, 7, (some .int))
def mX12_ask : zz_M := (yX12_ask, cX12_ask, 8, (some .int))
def mX12_goesLots : zz_M := (yX12_goesLots, cX12_goesLots, 12, none)
def mX12_laysLots : zz_M := (yX12_laysLots, cX12_laysLots, 5, none)
def mX12_wholeOf : zz_M := (yX12_wholeOf, cX12_wholeOf, 4, (some .long))
def mX12_common : zz_M := (yX12_common, cX12_common, 4, (some .long))
def mX12_isLots : zz_M := (yX12_isLots, cX12_isLots, 2, (some .boolean))
def mX12_chance : zz_M := (yX12_chance, cX12_chance, 6, (some .int))
def mX12_mean : zz_M := (yX12_mean, cX12_mean, 4, (some .long))
def mX12_cut : zz_M := (yX12_cut, cX12_cut, 3, (some .long))
def mX12_numbers : zz_M := (yX12_numbers, cX12_numbers, 5, (some .int))
def mX12_write : zz_M := (yX12_write, cX12_write, 6, (some .long))
def mX12_lists : zz_M := (yX12_lists, cX12_lists, 5, (some .int))
def mX12_image : zz_M := (yX12_image, cX12_image, 3, (some .int))
def mX12_restore : zz_M := (yX12_restore, cX12_restore, 3, (some .int))
def mX12_count : zz_M := (yX12_count, cX12_count, 2, (some .int))
def mJ9_floorDiv_f86c9 : zz_M := (yJ9_floorDiv_f86c9, cJ9_floorDiv_f86c9, 6, (some .long))
def mJ9_floorMod_7cf53 : zz_M := (yJ9_floorMod_7cf53, cJ9_floorMod_7cf53, 3, (some .int))
def mJ9_abs_067f4 : zz_M := (yJ9_abs_067f4, cJ9_abs_067f4, 2, (some .long))
def mJ9_max_7cf53 : zz_M := (yJ9_max_7cf53, cJ9_max_7cf53, 2, (some .int))
def mJ9_max_f86c9 : zz_M := (yJ9_max_f86c9, cJ9_max_f86c9, 4, (some .long))
def mJ9_min_7cf53 : zz_M := (yJ9_min_7cf53, cJ9_min_7cf53, 2, (some .int))
def mJ9_min_f86c9 : zz_M := (yJ9_min_f86c9, cJ9_min_f86c9, 4, (some .long))
def mJ0_length_8abf5 : zz_M := (yJ0_length_8abf5, cJ0_length_8abf5, 1, (some .int))
def mJ0_charAt_5068e : zz_M := (yJ0_charAt_5068e, cJ0_charAt_5068e, 2, (some .char))
def mJ0_indexOf_0f7a4 : zz_M := (yJ0_indexOf_0f7a4, cJ0_indexOf_0f7a4, 2, (some .int))
def mJ0_indexOf_7cf53 : zz_M := (yJ0_indexOf_7cf53, cJ0_indexOf_7cf53, 3, (some .int))
def mJ0_coder_7d493 : zz_M := (yJ0_coder_7d493, cJ0_coder_7d493, 1, (some .byte))
def mJ0_isLatin1_aae02 : zz_M := (yJ0_isLatin1_aae02, cJ0_isLatin1_aae02, 1, (some .boolean))
def mJ0_checkIndex_df160 : zz_M := (yJ0_checkIndex_df160, cJ0_checkIndex_df160, 2, none)
def mJ1_charAt_3b067 : zz_M := (yJ1_charAt_3b067, cJ1_charAt_3b067, 2, (some .char))
def mJ1_canEncode_9a6ad : zz_M := (yJ1_canEncode_9a6ad, cJ1_canEncode_9a6ad, 1, (some .boolean))
def mJ1_indexOf_4cfef : zz_M := (yJ1_indexOf_4cfef, cJ1_indexOf_4cfef, 4, (some .int))
def mJ1_indexOfChar_4cfef : zz_M := (yJ1_indexOfChar_4cfef, cJ1_indexOfChar_4cfef, 6, (some .int))
def mJ7_fill_d0a16 : zz_M := (yJ7_fill_d0a16, cJ7_fill_d0a16, 5, none)
def mJ7_fill_031fb : zz_M := (yJ7_fill_031fb, cJ7_fill_031fb, 4, none)
def mJ3_checkIndex_8e157 : zz_M := (yJ3_checkIndex_8e157, cJ3_checkIndex_8e157, 3, (some .int))
theorem ci_m8 : Int32.ofInt (-8) = (-8 : Int32) := by decide
theorem ci_m2 : Int32.ofInt (-2) = (-2 : Int32) := by decide
theorem ci_m1 : Int32.ofInt (-1) = (-1 : Int32) := by decide
theorem ci_0 : Int32.ofInt (0) = (0 : Int32) := by decide
theorem ci_1 : Int32.ofInt (1) = (1 : Int32) := by decide
theorem ci_2 : Int32.ofInt (2) = (2 : Int32) := by decide
theorem ci_3 : Int32.ofInt (3) = (3 : Int32) := by decide
theorem ci_4 : Int32.ofInt (4) = (4 : Int32) := by decide
theorem ci_5 : Int32.ofInt (5) = (5 : Int32) := by decide
theorem cb_m99 : (Int8.ofInt (-99)).toInt32 = (-99 : Int32) := by decide
theorem cb_m30 : (Int8.ofInt (-30)).toInt32 = (-30 : Int32) := by decide
theorem cb_m11 : (Int8.ofInt (-11)).toInt32 = (-11 : Int32) := by decide
theorem cb_m10 : (Int8.ofInt (-10)).toInt32 = (-10 : Int32) := by decide
theorem cb_m6 : (Int8.ofInt (-6)).toInt32 = (-6 : Int32) := by decide
theorem cb_m5 : (Int8.ofInt (-5)).toInt32 = (-5 : Int32) := by decide
theorem cb_m4 : (Int8.ofInt (-4)).toInt32 = (-4 : Int32) := by decide
theorem cb_m3 : (Int8.ofInt (-3)).toInt32 = (-3 : Int32) := by decide
theorem cb_m2 : (Int8.ofInt (-2)).toInt32 = (-2 : Int32) := by decide
theorem cb_6 : (Int8.ofInt (6)).toInt32 = (6 : Int32) := by decide
theorem cb_7 : (Int8.ofInt (7)).toInt32 = (7 : Int32) := by decide
theorem cb_8 : (Int8.ofInt (8)).toInt32 = (8 : Int32) := by decide
theorem cb_9 : (Int8.ofInt (9)).toInt32 = (9 : Int32) := by decide
theorem cb_10 : (Int8.ofInt (10)).toInt32 = (10 : Int32) := by decide
theorem cb_11 : (Int8.ofInt (11)).toInt32 = (11 : Int32) := by decide
theorem cb_12 : (Int8.ofInt (12)).toInt32 = (12 : Int32) := by decide
theorem cb_13 : (Int8.ofInt (13)).toInt32 = (13 : Int32) := by decide
theorem cb_14 : (Int8.ofInt (14)).toInt32 = (14 : Int32) := by decide
theorem cb_15 : (Int8.ofInt (15)).toInt32 = (15 : Int32) := by decide
theorem cb_16 : (Int8.ofInt (16)).toInt32 = (16 : Int32) := by decide
theorem cb_17 : (Int8.ofInt (17)).toInt32 = (17 : Int32) := by decide
theorem cb_18 : (Int8.ofInt (18)).toInt32 = (18 : Int32) := by decide
theorem cb_19 : (Int8.ofInt (19)).toInt32 = (19 : Int32) := by decide
theorem cb_20 : (Int8.ofInt (20)).toInt32 = (20 : Int32) := by decide
theorem cb_24 : (Int8.ofInt (24)).toInt32 = (24 : Int32) := by decide
theorem cb_25 : (Int8.ofInt (25)).toInt32 = (25 : Int32) := by decide
theorem cb_26 : (Int8.ofInt (26)).toInt32 = (26 : Int32) := by decide
theorem cb_27 : (Int8.ofInt (27)).toInt32 = (27 : Int32) := by decide
theorem cb_28 : (Int8.ofInt (28)).toInt32 = (28 : Int32) := by decide
theorem cb_29 : (Int8.ofInt (29)).toInt32 = (29 : Int32) := by decide
theorem cb_30 : (Int8.ofInt (30)).toInt32 = (30 : Int32) := by decide
theorem cb_31 : (Int8.ofInt (31)).toInt32 = (31 : Int32) := by decide
theorem cb_32 : (Int8.ofInt (32)).toInt32 = (32 : Int32) := by decide
theorem cb_33 : (Int8.ofInt (33)).toInt32 = (33 : Int32) := by decide
theorem cb_34 : (Int8.ofInt (34)).toInt32 = (34 : Int32) := by decide
theorem cb_35 : (Int8.ofInt (35)).toInt32 = (35 : Int32) := by decide
theorem cb_36 : (Int8.ofInt (36)).toInt32 = (36 : Int32) := by decide
theorem cb_37 : (Int8.ofInt (37)).toInt32 = (37 : Int32) := by decide
theorem cb_38 : (Int8.ofInt (38)).toInt32 = (38 : Int32) := by decide
theorem cb_39 : (Int8.ofInt (39)).toInt32 = (39 : Int32) := by decide
theorem cb_40 : (Int8.ofInt (40)).toInt32 = (40 : Int32) := by decide
theorem cb_41 : (Int8.ofInt (41)).toInt32 = (41 : Int32) := by decide
theorem cb_42 : (Int8.ofInt (42)).toInt32 = (42 : Int32) := by decide
theorem cb_43 : (Int8.ofInt (43)).toInt32 = (43 : Int32) := by decide
theorem cb_45 : (Int8.ofInt (45)).toInt32 = (45 : Int32) := by decide
theorem cb_48 : (Int8.ofInt (48)).toInt32 = (48 : Int32) := by decide
theorem cb_56 : (Int8.ofInt (56)).toInt32 = (56 : Int32) := by decide
theorem cb_57 : (Int8.ofInt (57)).toInt32 = (57 : Int32) := by decide
theorem cb_58 : (Int8.ofInt (58)).toInt32 = (58 : Int32) := by decide
theorem cb_59 : (Int8.ofInt (59)).toInt32 = (59 : Int32) := by decide
theorem cb_60 : (Int8.ofInt (60)).toInt32 = (60 : Int32) := by decide
theorem cb_61 : (Int8.ofInt (61)).toInt32 = (61 : Int32) := by decide
theorem cb_62 : (Int8.ofInt (62)).toInt32 = (62 : Int32) := by decide
theorem cb_66 : (Int8.ofInt (66)).toInt32 = (66 : Int32) := by decide
theorem cb_74 : (Int8.ofInt (74)).toInt32 = (74 : Int32) := by decide
theorem cb_75 : (Int8.ofInt (75)).toInt32 = (75 : Int32) := by decide
theorem cb_85 : (Int8.ofInt (85)).toInt32 = (85 : Int32) := by decide
theorem cb_86 : (Int8.ofInt (86)).toInt32 = (86 : Int32) := by decide
theorem cb_91 : (Int8.ofInt (91)).toInt32 = (91 : Int32) := by decide
theorem cb_93 : (Int8.ofInt (93)).toInt32 = (93 : Int32) := by decide
theorem cb_97 : (Int8.ofInt (97)).toInt32 = (97 : Int32) := by decide
theorem cb_99 : (Int8.ofInt (99)).toInt32 = (99 : Int32) := by decide
theorem cb_100 : (Int8.ofInt (100)).toInt32 = (100 : Int32) := by decide
theorem cb_105 : (Int8.ofInt (105)).toInt32 = (105 : Int32) := by decide
theorem cb_122 : (Int8.ofInt (122)).toInt32 = (122 : Int32) := by decide
theorem cs_m999 : (Int16.ofInt (-999)).toInt32 = (-999 : Int32) := by decide
theorem cs_128 : (Int16.ofInt (128)).toInt32 = (128 : Int32) := by decide
theorem cs_171 : (Int16.ofInt (171)).toInt32 = (171 : Int32) := by decide
theorem cs_199 : (Int16.ofInt (199)).toInt32 = (199 : Int32) := by decide
theorem cs_255 : (Int16.ofInt (255)).toInt32 = (255 : Int32) := by decide
theorem cs_276 : (Int16.ofInt (276)).toInt32 = (276 : Int32) := by decide
theorem cs_277 : (Int16.ofInt (277)).toInt32 = (277 : Int32) := by decide
theorem cs_900 : (Int16.ofInt (900)).toInt32 = (900 : Int32) := by decide
theorem cs_998 : (Int16.ofInt (998)).toInt32 = (998 : Int32) := by decide
theorem cs_999 : (Int16.ofInt (999)).toInt32 = (999 : Int32) := by decide
theorem cs_1000 : (Int16.ofInt (1000)).toInt32 = (1000 : Int32) := by decide
theorem cs_1177 : (Int16.ofInt (1177)).toInt32 = (1177 : Int32) := by decide
theorem cs_1999 : (Int16.ofInt (1999)).toInt32 = (1999 : Int32) := by decide
theorem cs_2000 : (Int16.ofInt (2000)).toInt32 = (2000 : Int32) := by decide
theorem cs_2001 : (Int16.ofInt (2001)).toInt32 = (2001 : Int32) := by decide
theorem cs_2002 : (Int16.ofInt (2002)).toInt32 = (2002 : Int32) := by decide
theorem cs_2003 : (Int16.ofInt (2003)).toInt32 = (2003 : Int32) := by decide
theorem cs_2004 : (Int16.ofInt (2004)).toInt32 = (2004 : Int32) := by decide
theorem cs_2005 : (Int16.ofInt (2005)).toInt32 = (2005 : Int32) := by decide
theorem cs_2006 : (Int16.ofInt (2006)).toInt32 = (2006 : Int32) := by decide
theorem cs_2007 : (Int16.ofInt (2007)).toInt32 = (2007 : Int32) := by decide
theorem cs_2008 : (Int16.ofInt (2008)).toInt32 = (2008 : Int32) := by decide
theorem cs_2009 : (Int16.ofInt (2009)).toInt32 = (2009 : Int32) := by decide
theorem cs_3000 : (Int16.ofInt (3000)).toInt32 = (3000 : Int32) := by decide
theorem cs_3001 : (Int16.ofInt (3001)).toInt32 = (3001 : Int32) := by decide
theorem cs_3002 : (Int16.ofInt (3002)).toInt32 = (3002 : Int32) := by decide
theorem cs_3003 : (Int16.ofInt (3003)).toInt32 = (3003 : Int32) := by decide
theorem cs_3004 : (Int16.ofInt (3004)).toInt32 = (3004 : Int32) := by decide
theorem cs_3005 : (Int16.ofInt (3005)).toInt32 = (3005 : Int32) := by decide
theorem cs_3006 : (Int16.ofInt (3006)).toInt32 = (3006 : Int32) := by decide
theorem cs_3007 : (Int16.ofInt (3007)).toInt32 = (3007 : Int32) := by decide
theorem cs_3008 : (Int16.ofInt (3008)).toInt32 = (3008 : Int32) := by decide
theorem cs_3009 : (Int16.ofInt (3009)).toInt32 = (3009 : Int32) := by decide
theorem cs_9998 : (Int16.ofInt (9998)).toInt32 = (9998 : Int32) := by decide
theorem cs_9999 : (Int16.ofInt (9999)).toInt32 = (9999 : Int32) := by decide
theorem cs_10000 : (Int16.ofInt (10000)).toInt32 = (10000 : Int32) := by decide
theorem cs_12345 : (Int16.ofInt (12345)).toInt32 = (12345 : Int32) := by decide
theorem zz_vin {i : Int32} {n : Nat} (h1 : ¬ i < 0) (h2 : i.toNatClampNeg < n) : vp_in i n := fun h => h.elim h1 (fun h3 => Nat.not_le.mpr h2 h3)
theorem vin_0_5 : vp_in (0 : Int32) 5 := zz_vin (by decide) (by decide)
theorem vin_0_8 : vp_in (0 : Int32) 8 := zz_vin (by decide) (by decide)
theorem vin_0_9 : vp_in (0 : Int32) 9 := zz_vin (by decide) (by decide)
theorem vin_0_64 : vp_in (0 : Int32) 64 := zz_vin (by decide) (by decide)
theorem vin_0_900 : vp_in (0 : Int32) 900 := zz_vin (by decide) (by decide)
theorem vin_0_1177 : vp_in (0 : Int32) 1177 := zz_vin (by decide) (by decide)
theorem vin_0_3531 : vp_in (0 : Int32) 3531 := zz_vin (by decide) (by decide)
theorem vin_1_5 : vp_in (1 : Int32) 5 := zz_vin (by decide) (by decide)
theorem vin_1_8 : vp_in (1 : Int32) 8 := zz_vin (by decide) (by decide)
theorem vin_1_1177 : vp_in (1 : Int32) 1177 := zz_vin (by decide) (by decide)
theorem vin_1_3531 : vp_in (1 : Int32) 3531 := zz_vin (by decide) (by decide)
theorem vin_2_5 : vp_in (2 : Int32) 5 := zz_vin (by decide) (by decide)
theorem vin_2_8 : vp_in (2 : Int32) 8 := zz_vin (by decide) (by decide)
theorem vin_2_1177 : vp_in (2 : Int32) 1177 := zz_vin (by decide) (by decide)
theorem vin_2_3531 : vp_in (2 : Int32) 3531 := zz_vin (by decide) (by decide)
theorem vin_3_5 : vp_in (3 : Int32) 5 := zz_vin (by decide) (by decide)
theorem vin_3_8 : vp_in (3 : Int32) 8 := zz_vin (by decide) (by decide)
theorem vin_3_1177 : vp_in (3 : Int32) 1177 := zz_vin (by decide) (by decide)
theorem vin_3_3531 : vp_in (3 : Int32) 3531 := zz_vin (by decide) (by decide)
theorem vin_4_5 : vp_in (4 : Int32) 5 := zz_vin (by decide) (by decide)
theorem vin_4_8 : vp_in (4 : Int32) 8 := zz_vin (by decide) (by decide)
theorem vin_4_1177 : vp_in (4 : Int32) 1177 := zz_vin (by decide) (by decide)
theorem vin_4_3531 : vp_in (4 : Int32) 3531 := zz_vin (by decide) (by decide)
theorem vin_5_8 : vp_in (5 : Int32) 8 := zz_vin (by decide) (by decide)
theorem vin_5_1177 : vp_in (5 : Int32) 1177 := zz_vin (by decide) (by decide)
theorem vin_5_3531 : vp_in (5 : Int32) 3531 := zz_vin (by decide) (by decide)
theorem vin_6_3531 : vp_in (6 : Int32) 3531 := zz_vin (by decide) (by decide)
theorem vin_7_8 : vp_in (7 : Int32) 8 := zz_vin (by decide) (by decide)
theorem vin_7_3531 : vp_in (7 : Int32) 3531 := zz_vin (by decide) (by decide)
theorem vin_8_19 : vp_in (8 : Int32) 19 := zz_vin (by decide) (by decide)
theorem vin_74_1177 : vp_in (74 : Int32) 1177 := zz_vin (by decide) (by decide)
theorem vin_74_3531 : vp_in (74 : Int32) 3531 := zz_vin (by decide) (by decide)
theorem vin_85_3531 : vp_in (85 : Int32) 3531 := zz_vin (by decide) (by decide)
theorem vin_276_1177 : vp_in (276 : Int32) 1177 := zz_vin (by decide) (by decide)
theorem clp_0 : (0 : Int32).toNatClampNeg = 0 := by decide
theorem clp_1 : (1 : Int32).toNatClampNeg = 1 := by decide
theorem clp_2 : (2 : Int32).toNatClampNeg = 2 := by decide
theorem clp_3 : (3 : Int32).toNatClampNeg = 3 := by decide
theorem clp_4 : (4 : Int32).toNatClampNeg = 4 := by decide
theorem clp_5 : (5 : Int32).toNatClampNeg = 5 := by decide
theorem clp_6 : (6 : Int32).toNatClampNeg = 6 := by decide
theorem clp_7 : (7 : Int32).toNatClampNeg = 7 := by decide
theorem clp_8 : (8 : Int32).toNatClampNeg = 8 := by decide
theorem clp_9 : (9 : Int32).toNatClampNeg = 9 := by decide
theorem clp_10 : (10 : Int32).toNatClampNeg = 10 := by decide
theorem clp_12 : (12 : Int32).toNatClampNeg = 12 := by decide
theorem clp_74 : (74 : Int32).toNatClampNeg = 74 := by decide
theorem clp_85 : (85 : Int32).toNatClampNeg = 85 := by decide
theorem clp_276 : (276 : Int32).toNatClampNeg = 276 := by decide
theorem clp_900 : (900 : Int32).toNatClampNeg = 900 := by decide
theorem al_4 : Int32.ofNat 4 = (4 : Int32) := by decide
theorem al_5 : Int32.ofNat 5 = (5 : Int32) := by decide
theorem al_8 : Int32.ofNat 8 = (8 : Int32) := by decide
theorem al_9 : Int32.ofNat 9 = (9 : Int32) := by decide
theorem al_10 : Int32.ofNat 10 = (10 : Int32) := by decide
theorem al_12 : Int32.ofNat 12 = (12 : Int32) := by decide
theorem al_40 : Int32.ofNat 40 = (40 : Int32) := by decide
theorem al_64 : Int32.ofNat 64 = (64 : Int32) := by decide
theorem al_900 : Int32.ofNat 900 = (900 : Int32) := by decide
theorem al_2048 : Int32.ofNat 2048 = (2048 : Int32) := by decide
theorem fs_J0_38 : Cond.fieldLink RJ0 38 "java/lang/String" "COMPACT_STRINGS" "Z" ∈ zz_tbl := tm_765
theorem fs_J0_15 : Cond.fieldLink RJ0 15 "java/lang/String" "coder" "B" ∈ zz_tbl := tm_2134
theorem fs_J0_9 : Cond.fieldLink RJ0 9 "java/lang/String" "value" "[B" ∈ zz_tbl := tm_2135
theorem lv_J0_335 : zz_LV RJ0 335 mJ0_coder_7d493 := ⟨tm_771, tm_772, tm_773⟩
theorem ok_J0_coder_7d493 : zz_ok mJ0_coder_7d493 0 := ⟨tm_774, tm_144, ⟨by decide +kernel, by decide +kernel, by decide +kernel⟩, (Nat.le_of_ble_eq_true rfl)⟩
theorem ls_J1_88 : zz_LS RJ1 88 mJ1_canEncode_9a6ad := ⟨tm_778, tm_779⟩
theorem ok_J1_canEncode_9a6ad : zz_ok mJ1_canEncode_9a6ad 1 := ⟨tm_780, tm_145, ⟨by decide +kernel, by decide +kernel, by decide +kernel⟩, (Nat.le_of_ble_eq_true rfl)⟩
theorem ls_J1_92 : zz_LS RJ1 92 mJ9_max_7cf53 := ⟨tm_781, tm_716⟩
theorem ok_J9_max_7cf53 : zz_ok mJ9_max_7cf53 2 := ⟨tm_717, tm_142, ⟨by decide +kernel, by decide +kernel, by decide +kernel⟩, (Nat.le_of_ble_eq_true rfl)⟩
theorem ls_J1_38 : zz_LS RJ1 38 mJ9_min_7cf53 := ⟨tm_782, tm_617⟩
theorem ok_J9_min_7cf53 : zz_ok mJ9_min_7cf53 2 := ⟨tm_618, tm_142, ⟨by decide +kernel, by decide +kernel, by decide +kernel⟩, (Nat.le_of_ble_eq_true rfl)⟩
theorem ls_J1_95 : zz_LS RJ1 95 mJ1_indexOfChar_4cfef := ⟨tm_783, tm_784⟩
theorem ok_J1_indexOfChar_4cfef : zz_ok mJ1_indexOfChar_4cfef 4 := ⟨tm_785, tm_145, ⟨by decide +kernel, by decide +kernel, by decide +kernel⟩, (Nat.le_of_ble_eq_true rfl)⟩
theorem lv_J0_492 : zz_LV RJ0 492 mJ0_isLatin1_aae02 := ⟨tm_761, tm_762, tm_763⟩
theorem ok_J0_isLatin1_aae02 : zz_ok mJ0_isLatin1_aae02 0 := ⟨tm_764, tm_144, ⟨by decide +kernel, by decide +kernel, by decide +kernel⟩, (Nat.le_of_ble_eq_true rfl)⟩
theorem lv_J0_505 : zz_LV RJ0 505 mJ0_length_8abf5 := ⟨tm_767, tm_768, tm_769⟩
theorem ok_J0_length_8abf5 : zz_ok mJ0_length_8abf5 0 := ⟨tm_770, tm_144, ⟨by decide +kernel, by decide +kernel, by decide +kernel⟩, (Nat.le_of_ble_eq_true rfl)⟩
theorem ls_J0_637 : zz_LS RJ0 637 mJ1_indexOf_4cfef := ⟨tm_775, tm_776⟩
theorem ok_J1_indexOf_4cfef : zz_ok mJ1_indexOf_4cfef 4 := ⟨tm_777, tm_145, ⟨by decide +kernel, by decide +kernel, by decide +kernel⟩, (Nat.le_of_ble_eq_true rfl)⟩
theorem lv_J0_633 : zz_LV RJ0 633 mJ0_indexOf_7cf53 := ⟨tm_757, tm_758, tm_759⟩
theorem ok_J0_indexOf_7cf53 : zz_ok mJ0_indexOf_7cf53 2 := ⟨tm_760, tm_144, ⟨by decide +kernel, by decide +kernel, by decide +kernel⟩, (Nat.le_of_ble_eq_true rfl)⟩
theorem ls_J0_1059 : zz_LS RJ0 1059 mJ3_checkIndex_8e157 := ⟨tm_859, tm_860⟩
theorem ok_J3_checkIndex_8e157 : zz_ok mJ3_checkIndex_8e157 3 := ⟨tm_861, tm_147, ⟨by decide +kernel, by decide +kernel, by decide +kernel⟩, (Nat.le_of_ble_eq_true rfl)⟩
theorem fs_J0_1053 : Cond.fieldLink RJ0 1053 "jdk/internal/util/Preconditions" "SIOOBE_FORMATTER" "Ljava/util/function/BiFunction;" ∈ zz_tbl := tm_804
theorem ls_J1_9 : zz_LS RJ1 9 mJ0_checkIndex_df160 := ⟨tm_856, tm_857⟩
theorem ok_J0_checkIndex_df160 : zz_ok mJ0_checkIndex_df160 2 := ⟨tm_858, tm_144, ⟨by decide +kernel, by decide +kernel, by decide +kernel⟩, (Nat.le_of_ble_eq_true rfl)⟩
theorem ls_J0_495 : zz_LS RJ0 495 mJ1_charAt_3b067 := ⟨tm_853, tm_854⟩
theorem ok_J1_charAt_3b067 : zz_ok mJ1_charAt_3b067 2 := ⟨tm_855, tm_145, ⟨by decide +kernel, by decide +kernel, by decide +kernel⟩, (Nat.le_of_ble_eq_true rfl)⟩
theorem fl_X9_9 : zz_FL RX9 9 9 0 (.array .int) true := ⟨RX9, TX9, 3, rfl, (Nat.le_of_ble_eq_true rfl), tm_214, inX9, ⟨tyX9, tyX9_ok, rfl⟩, nmX9, rfl⟩
theorem ac_X9_18 : Cond.methodLink RX9 18 arraycopyName ∈ zz_tbl := tm_996
theorem fl_X9_15 : zz_FL RX9 15 9 1 (.array .int) true := ⟨RX9, TX9, 3, rfl, (Nat.le_of_ble_eq_true rfl), tm_219, inX9, ⟨tyX9, tyX9_ok, rfl⟩, nmX9, rfl⟩
theorem fl_X9_24 : zz_FL RX9 24 9 2 (.int) false := ⟨RX9, TX9, 3, rfl, (Nat.le_of_ble_eq_true rfl), tm_225, inX9, ⟨tyX9, tyX9_ok, rfl⟩, nmX9, rfl⟩
theorem fl_X10_15 : zz_FL RX10 15 10 2 (.int) false := ⟨RX10, TX10, 3, rfl, (Nat.le_of_ble_eq_true rfl), tm_569, inX10, ⟨tyX10, tyX10_ok, rfl⟩, nmX10, rfl⟩
theorem fl_X10_19 : zz_FL RX10 19 10 1 (.int) false := ⟨RX10, TX10, 3, rfl, (Nat.le_of_ble_eq_true rfl), tm_568, inX10, ⟨tyX10, tyX10_ok, rfl⟩, nmX10, rfl⟩
theorem fl_X10_9 : zz_FL RX10 9 10 0 (.array .long) true := ⟨RX10, TX10, 3, rfl, (Nat.le_of_ble_eq_true rfl), tm_566, inX10, ⟨tyX10, tyX10_ok, rfl⟩, nmX10, rfl⟩
theorem ls_X10_22 : zz_LS RX10 22 mJ7_fill_d0a16 := ⟨tm_1447, tm_1448⟩
theorem ok_J7_fill_d0a16 : zz_ok mJ7_fill_d0a16 2 := ⟨tm_1449, tm_141, ⟨by decide +kernel, by decide +kernel, by decide +kernel⟩, (Nat.le_of_ble_eq_true rfl)⟩
theorem fl_X3_21 : zz_FL RX3 21 3 3 (.int) false := ⟨RX3, TX3, 8, rfl, (Nat.le_of_ble_eq_true rfl), tm_175, inX3, ⟨tyX3, tyX3_ok, rfl⟩, nmX3, rfl⟩
theorem fl_X3_25 : zz_FL RX3 25 3 4 (.int) false := ⟨RX3, TX3, 8, rfl, (Nat.le_of_ble_eq_true rfl), tm_177, inX3, ⟨tyX3, tyX3_ok, rfl⟩, nmX3, rfl⟩
theorem fl_X3_28 : zz_FL RX3 28 3 5 (.int) false := ⟨RX3, TX3, 8, rfl, (Nat.le_of_ble_eq_true rfl), tm_180, inX3, ⟨tyX3, tyX3_ok, rfl⟩, nmX3, rfl⟩
theorem fl_X3_31 : zz_FL RX3 31 3 6 (.int) false := ⟨RX3, TX3, 8, rfl, (Nat.le_of_ble_eq_true rfl), tm_183, inX3, ⟨tyX3, tyX3_ok, rfl⟩, nmX3, rfl⟩
theorem fl_X3_34 : zz_FL RX3 34 3 7 (.int) false := ⟨RX3, TX3, 8, rfl, (Nat.le_of_ble_eq_true rfl), tm_186, inX3, ⟨tyX3, tyX3_ok, rfl⟩, nmX3, rfl⟩
theorem fl_X3_9 : zz_FL RX3 9 3 0 (.array .int) true := ⟨RX3, TX3, 8, rfl, (Nat.le_of_ble_eq_true rfl), tm_170, inX3, ⟨tyX3, tyX3_ok, rfl⟩, nmX3, rfl⟩
theorem ac_X3_37 : Cond.methodLink RX3 37 arraycopyName ∈ zz_tbl := tm_991
theorem kc_X3_53 : Cond.constantLong RX3 53 (1000000 : Int64) ∈ zz_tbl := tm_622
theorem kc_X3_55 : Cond.constantLong RX3 55 (-1000000 : Int64) ∈ zz_tbl := tm_623
theorem fl_X3_18 : zz_FL RX3 18 3 2 (.array .int) true := ⟨RX3, TX3, 8, rfl, (Nat.le_of_ble_eq_true rfl), tm_174, inX3, ⟨tyX3, tyX3_ok, rfl⟩, nmX3, rfl⟩
theorem ls_X3_49 : zz_LS RX3 49 mX3_joined := ⟨tm_619, tm_620⟩
theorem ok_X3_joined : zz_ok mX3_joined 3 := ⟨tm_621, tm_131, ⟨by decide +kernel, by decide +kernel, by decide +kernel⟩, (Nat.le_of_ble_eq_true rfl)⟩
theorem fl_X3_15 : zz_FL RX3 15 3 1 (.array .int) true := ⟨RX3, TX3, 8, rfl, (Nat.le_of_ble_eq_true rfl), tm_171, inX3, ⟨tyX3, tyX3_ok, rfl⟩, nmX3, rfl⟩
theorem ls_X3_43 : zz_LS RX3 43 mJ9_min_7cf53 := ⟨tm_616, tm_617⟩
theorem fl_X5_18 : zz_FL RX5 18 5 2 (.int) false := ⟨RX5, TX5, 3, rfl, (Nat.le_of_ble_eq_true rfl), tm_378, inX5, ⟨tyX5, tyX5_ok, rfl⟩, nmX5, rfl⟩
theorem fl_X5_11 : zz_FL RX5 11 5 0 (.array (.object "PillarDesk$Stand")) true := ⟨RX5, TX5, 3, rfl, (Nat.le_of_ble_eq_true rfl), tm_376, inX5, ⟨tyX5, tyX5_ok, rfl⟩, nmX5, rfl⟩
theorem fl_X5_22 : zz_FL RX5 22 5 1 (.int) false := ⟨RX5, TX5, 3, rfl, (Nat.le_of_ble_eq_true rfl), tm_377, inX5, ⟨tyX5, tyX5_ok, rfl⟩, nmX5, rfl⟩
theorem lv_X5_25 : zz_LV RX5 25 mX9_copyFrom := ⟨tm_1159, tm_993, tm_994⟩
theorem ok_X9_copyFrom : zz_ok mX9_copyFrom 1 := ⟨tm_995, tm_132, ⟨by decide +kernel, by decide +kernel, by decide +kernel⟩, (Nat.le_of_ble_eq_true rfl)⟩
theorem ls_X5_29 : zz_LS RX5 29 mJ9_min_7cf53 := ⟨tm_1160, tm_617⟩
theorem ls_X5_35 : zz_LS RX5 35 mJ9_floorMod_7cf53 := ⟨tm_1186, tm_602⟩
theorem ok_J9_floorMod_7cf53 : zz_ok mJ9_floorMod_7cf53 2 := ⟨tm_603, tm_142, ⟨by decide +kernel, by decide +kernel, by decide +kernel⟩, (Nat.le_of_ble_eq_true rfl)⟩
theorem ls_X5_38 : zz_LS RX5 38 mJ9_max_7cf53 := ⟨tm_1187, tm_716⟩
theorem fl_X6_44 : zz_FL RX6 44 6 0 (.int) false := ⟨RX6, TX6, 14, rfl, (Nat.le_of_ble_eq_true rfl), tm_236, inX6, ⟨tyX6, tyX6_ok, rfl⟩, nmX6, rfl⟩
theorem fl_X6_48 : zz_FL RX6 48 6 1 (.int) false := ⟨RX6, TX6, 14, rfl, (Nat.le_of_ble_eq_true rfl), tm_240, inX6, ⟨tyX6, tyX6_ok, rfl⟩, nmX6, rfl⟩
theorem fl_X6_51 : zz_FL RX6 51 6 2 (.int) false := ⟨RX6, TX6, 14, rfl, (Nat.le_of_ble_eq_true rfl), tm_245, inX6, ⟨tyX6, tyX6_ok, rfl⟩, nmX6, rfl⟩
theorem fl_X6_54 : zz_FL RX6 54 6 3 (.int) false := ⟨RX6, TX6, 14, rfl, (Nat.le_of_ble_eq_true rfl), tm_248, inX6, ⟨tyX6, tyX6_ok, rfl⟩, nmX6, rfl⟩
theorem fl_X6_57 : zz_FL RX6 57 6 5 (.int) false := ⟨RX6, TX6, 14, rfl, (Nat.le_of_ble_eq_true rfl), tm_255, inX6, ⟨tyX6, tyX6_ok, rfl⟩, nmX6, rfl⟩
theorem fl_X6_60 : zz_FL RX6 60 6 10 (.int) false := ⟨RX6, TX6, 14, rfl, (Nat.le_of_ble_eq_true rfl), tm_278, inX6, ⟨tyX6, tyX6_ok, rfl⟩, nmX6, rfl⟩
theorem fl_X6_33 : zz_FL RX6 33 6 12 (.object "PillarDesk$Laws") true := ⟨RX6, TX6, 14, rfl, (Nat.le_of_ble_eq_true rfl), tm_287, inX6, ⟨tyX6, tyX6_ok, rfl⟩, nmX6, rfl⟩
theorem lv_X6_63 : zz_LV RX6 63 mX3_clear := ⟨tm_722, tm_723, tm_724⟩
theorem ok_X3_clear : zz_ok mX3_clear 0 := ⟨tm_725, tm_131, ⟨by decide +kernel, by decide +kernel, by decide +kernel⟩, (Nat.le_of_ble_eq_true rfl)⟩
theorem fl_X6_9 : zz_FL RX6 9 6 4 (.array .int) true := ⟨RX6, TX6, 14, rfl, (Nat.le_of_ble_eq_true rfl), tm_251, inX6, ⟨tyX6, tyX6_ok, rfl⟩, nmX6, rfl⟩
theorem ac_X6_66 : Cond.methodLink RX6 66 arraycopyName ∈ zz_tbl := tm_984
theorem fl_X6_15 : zz_FL RX6 15 6 6 (.array .int) true := ⟨RX6, TX6, 14, rfl, (Nat.le_of_ble_eq_true rfl), tm_259, inX6, ⟨tyX6, tyX6_ok, rfl⟩, nmX6, rfl⟩
theorem fl_X6_18 : zz_FL RX6 18 6 7 (.array .int) true := ⟨RX6, TX6, 14, rfl, (Nat.le_of_ble_eq_true rfl), tm_265, inX6, ⟨tyX6, tyX6_ok, rfl⟩, nmX6, rfl⟩
theorem fl_X6_21 : zz_FL RX6 21 6 8 (.array .int) true := ⟨RX6, TX6, 14, rfl, (Nat.le_of_ble_eq_true rfl), tm_269, inX6, ⟨tyX6, tyX6_ok, rfl⟩, nmX6, rfl⟩
theorem fl_X6_24 : zz_FL RX6 24 6 9 (.array .int) true := ⟨RX6, TX6, 14, rfl, (Nat.le_of_ble_eq_true rfl), tm_273, inX6, ⟨tyX6, tyX6_ok, rfl⟩, nmX6, rfl⟩
theorem fl_X6_27 : zz_FL RX6 27 6 11 (.array .int) true := ⟨RX6, TX6, 14, rfl, (Nat.le_of_ble_eq_true rfl), tm_282, inX6, ⟨tyX6, tyX6_ok, rfl⟩, nmX6, rfl⟩
theorem lv_X6_72 : zz_LV RX6 72 mX3_copyFrom := ⟨tm_987, tm_988, tm_989⟩
theorem ok_X3_copyFrom : zz_ok mX3_copyFrom 1 := ⟨tm_990, tm_131, ⟨by decide +kernel, by decide +kernel, by decide +kernel⟩, (Nat.le_of_ble_eq_true rfl)⟩
theorem fl_X6_40 : zz_FL RX6 40 6 13 (.object "PillarDesk$Stand") true := ⟨RX6, TX6, 14, rfl, (Nat.le_of_ble_eq_true rfl), tm_291, inX6, ⟨tyX6, tyX6_ok, rfl⟩, nmX6, rfl⟩
theorem lv_X6_76 : zz_LV RX6 76 mX9_copyFrom := ⟨tm_992, tm_993, tm_994⟩
theorem fl_X6_79 : zz_FL RX6 79 9 0 (.array .int) true := ⟨RX9, TX9, 3, rfl, (Nat.le_of_ble_eq_true rfl), tm_217, inX9, ⟨tyX9, tyX9_ok, rfl⟩, nmX9, rfl⟩
theorem lv_X6_82 : zz_LV RX6 82 mX6_hasInput := ⟨tm_1150, tm_1010, tm_1011⟩
theorem ok_X6_hasInput : zz_ok mX6_hasInput 1 := ⟨tm_1012, tm_130, ⟨by decide +kernel, by decide +kernel, by decide +kernel⟩, (Nat.le_of_ble_eq_true rfl)⟩
theorem fl_X6_86 : zz_FL RX6 86 9 2 (.int) false := ⟨RX9, TX9, 3, rfl, (Nat.le_of_ble_eq_true rfl), tm_226, inX9, ⟨tyX9, tyX9_ok, rfl⟩, nmX9, rfl⟩
theorem lv_X6_89 : zz_LV RX6 89 mX6_hasFlow := ⟨tm_1177, tm_1114, tm_1115⟩
theorem ok_X6_hasFlow : zz_ok mX6_hasFlow 1 := ⟨tm_1116, tm_130, ⟨by decide +kernel, by decide +kernel, by decide +kernel⟩, (Nat.le_of_ble_eq_true rfl)⟩
theorem fl_X6_92 : zz_FL RX6 92 9 1 (.array .int) true := ⟨RX9, TX9, 3, rfl, (Nat.le_of_ble_eq_true rfl), tm_222, inX9, ⟨tyX9, tyX9_ok, rfl⟩, nmX9, rfl⟩
theorem kc_X6_95 : Cond.constantLong RX6 95 (10 : Int64) ∈ zz_tbl := tm_1208
theorem kc_X6_97 : Cond.constantLong RX6 97 (19 : Int64) ∈ zz_tbl := tm_1209
theorem lv_X6_99 : zz_LV RX6 99 mX6_doShift := ⟨tm_1210, tm_1166, tm_1167⟩
theorem ok_X6_doShift : zz_ok mX6_doShift 2 := ⟨tm_1168, tm_130, ⟨by decide +kernel, by decide +kernel, by decide +kernel⟩, (Nat.le_of_ble_eq_true rfl)⟩
theorem kc_X6_103 : Cond.constantLong RX6 103 (1000 : Int64) ∈ zz_tbl := tm_1211
theorem kc_X6_105 : Cond.constantLong RX6 105 (8999 : Int64) ∈ zz_tbl := tm_1212
theorem lv_X6_107 : zz_LV RX6 107 mX6_doBump := ⟨tm_1213, tm_1147, tm_1148⟩
theorem ok_X6_doBump : zz_ok mX6_doBump 3 := ⟨tm_1149, tm_130, ⟨by decide +kernel, by decide +kernel, by decide +kernel⟩, (Nat.le_of_ble_eq_true rfl)⟩
theorem kc_X6_111 : Cond.constantLong RX6 111 (10000 : Int64) ∈ zz_tbl := tm_1214
theorem kc_X6_113 : Cond.constantLong RX6 113 (29999 : Int64) ∈ zz_tbl := tm_1215
theorem lv_X6_115 : zz_LV RX6 115 mX6_doAmount := ⟨tm_1216, tm_1174, tm_1175⟩
theorem ok_X6_doAmount : zz_ok mX6_doAmount 3 := ⟨tm_1176, tm_130, ⟨by decide +kernel, by decide +kernel, by decide +kernel⟩, (Nat.le_of_ble_eq_true rfl)⟩
theorem ls_X11_294 : zz_LS RX11 294 mJ9_min_7cf53 := ⟨tm_1037, tm_617⟩
theorem ls_X11_299 : zz_LS RX11 299 mJ9_max_7cf53 := ⟨tm_1038, tm_716⟩
theorem fl_X11_42 : zz_FL RX11 42 11 8 (.array (.object "PillarDesk$Tray")) true := ⟨RX11, TX11, 20, rfl, (Nat.le_of_ble_eq_true rfl), tm_645, inX11, ⟨tyX11, tyX11_ok, rfl⟩, nmX11, rfl⟩
theorem fl_X0_7 : zz_FL RX0 7 0 1 (.array .byte) true := ⟨RX0, TX0, 2, rfl, (Nat.le_of_ble_eq_true rfl), tm_402, inX0, ⟨tyX0, tyX0_ok, rfl⟩, nmX0, rfl⟩
theorem ls_X0_17 : zz_LS RX0 17 mJ7_fill_031fb := ⟨tm_586, tm_587⟩
theorem ok_J7_fill_031fb : zz_ok mJ7_fill_031fb 2 := ⟨tm_588, tm_141, ⟨by decide +kernel, by decide +kernel, by decide +kernel⟩, (Nat.le_of_ble_eq_true rfl)⟩
theorem fl_X0_13 : zz_FL RX0 13 0 0 (.object "PillarDesk$Plan") true := ⟨RX0, TX0, 2, rfl, (Nat.le_of_ble_eq_true rfl), tm_401, inX0, ⟨tyX0, tyX0_ok, rfl⟩, nmX0, rfl⟩
theorem fl_X0_27 : zz_FL RX0 27 6 0 (.int) false := ⟨RX6, TX6, 14, rfl, (Nat.le_of_ble_eq_true rfl), tm_237, inX6, ⟨tyX6, tyX6_ok, rfl⟩, nmX6, rfl⟩
theorem ls_X0_33 : zz_LS RX0 33 mJ9_floorMod_7cf53 := ⟨tm_601, tm_602⟩
theorem lv_X0_39 : zz_LV RX0 39 mX6_isHoliday := ⟨tm_604, tm_605, tm_606⟩
theorem ok_X6_isHoliday : zz_ok mX6_isHoliday 1 := ⟨tm_607, tm_130, ⟨by decide +kernel, by decide +kernel, by decide +kernel⟩, (Nat.le_of_ble_eq_true rfl)⟩
theorem fl_X0_42 : zz_FL RX0 42 6 12 (.object "PillarDesk$Laws") true := ⟨RX6, TX6, 14, rfl, (Nat.le_of_ble_eq_true rfl), tm_289, inX6, ⟨tyX6, tyX6_ok, rfl⟩, nmX6, rfl⟩
theorem lv_X0_46 : zz_LV RX0 46 mX3_hasOpens := ⟨tm_608, tm_609, tm_610⟩
theorem ok_X3_hasOpens : zz_ok mX3_hasOpens 0 := ⟨tm_611, tm_131, ⟨by decide +kernel, by decide +kernel, by decide +kernel⟩, (Nat.le_of_ble_eq_true rfl)⟩
theorem fl_X0_52 : zz_FL RX0 52 3 1 (.array .int) true := ⟨RX3, TX3, 8, rfl, (Nat.le_of_ble_eq_true rfl), tm_173, inX3, ⟨tyX3, tyX3_ok, rfl⟩, nmX3, rfl⟩
theorem fl_X0_56 : zz_FL RX0 56 3 6 (.int) false := ⟨RX3, TX3, 8, rfl, (Nat.le_of_ble_eq_true rfl), tm_184, inX3, ⟨tyX3, tyX3_ok, rfl⟩, nmX3, rfl⟩
theorem fl_X0_59 : zz_FL RX0 59 3 7 (.int) false := ⟨RX3, TX3, 8, rfl, (Nat.le_of_ble_eq_true rfl), tm_187, inX3, ⟨tyX3, tyX3_ok, rfl⟩, nmX3, rfl⟩
theorem lv_X0_62 : zz_LV RX0 62 mX3_value := ⟨tm_612, tm_613, tm_614⟩
theorem ok_X3_value : zz_ok mX3_value 2 := ⟨tm_615, tm_131, ⟨by decide +kernel, by decide +kernel, by decide +kernel⟩, (Nat.le_of_ble_eq_true rfl)⟩
theorem lv_X0_23 : zz_LV RX0 23 mX0_isOpenByRule := ⟨tm_597, tm_599, tm_0⟩
theorem ok_X0_isOpenByRule : zz_ok mX0_isOpenByRule 1 := ⟨tm_600, tm_136, ⟨by decide +kernel, by decide +kernel, by decide +kernel⟩, (Nat.le_of_ble_eq_true rfl)⟩
theorem lv_X0_65 : zz_LV RX0 65 mX0_isOpen := ⟨tm_593, tm_594, tm_595⟩
theorem ok_X0_isOpen : zz_ok mX0_isOpen 1 := ⟨tm_596, tm_136, ⟨by decide +kernel, by decide +kernel, by decide +kernel⟩, (Nat.le_of_ble_eq_true rfl)⟩
theorem fl_X8_36 : zz_FL RX8 36 8 0 (.object "PillarDesk$Plan") true := ⟨RX8, TX8, 11, rfl, (Nat.le_of_ble_eq_true rfl), tm_408, inX8, ⟨tyX8, tyX8_ok, rfl⟩, nmX8, rfl⟩
theorem fl_X8_81 : zz_FL RX8 81 6 9 (.array .int) true := ⟨RX6, TX6, 14, rfl, (Nat.le_of_ble_eq_true rfl), tm_274, inX6, ⟨tyX6, tyX6_ok, rfl⟩, nmX6, rfl⟩
theorem fl_X8_68 : zz_FL RX8 68 6 8 (.array .int) true := ⟨RX6, TX6, 14, rfl, (Nat.le_of_ble_eq_true rfl), tm_270, inX6, ⟨tyX6, tyX6_ok, rfl⟩, nmX6, rfl⟩
theorem ls_X8_84 : zz_LS RX8 84 mJ9_min_7cf53 := ⟨tm_628, tm_617⟩
theorem fl_X8_18 : zz_FL RX8 18 8 4 (.array .int) true := ⟨RX8, TX8, 11, rfl, (Nat.le_of_ble_eq_true rfl), tm_419, inX8, ⟨tyX8, tyX8_ok, rfl⟩, nmX8, rfl⟩
theorem fl_X8_21 : zz_FL RX8 21 8 5 (.array .int) true := ⟨RX8, TX8, 11, rfl, (Nat.le_of_ble_eq_true rfl), tm_423, inX8, ⟨tyX8, tyX8_ok, rfl⟩, nmX8, rfl⟩
theorem fl_X8_45 : zz_FL RX8 45 8 1 (.object "PillarDesk$Calendar") true := ⟨RX8, TX8, 11, rfl, (Nat.le_of_ble_eq_true rfl), tm_409, inX8, ⟨tyX8, tyX8_ok, rfl⟩, nmX8, rfl⟩
theorem lv_X8_64 : zz_LV RX8 64 mX0_putOff := ⟨tm_589, tm_590, tm_591⟩
theorem ok_X0_putOff : zz_ok mX0_putOff 1 := ⟨tm_592, tm_136, ⟨by decide +kernel, by decide +kernel, by decide +kernel⟩, (Nat.le_of_ble_eq_true rfl)⟩
theorem fl_X8_52 : zz_FL RX8 52 6 5 (.int) false := ⟨RX6, TX6, 14, rfl, (Nat.le_of_ble_eq_true rfl), tm_253, inX6, ⟨tyX6, tyX6_ok, rfl⟩, nmX6, rfl⟩
theorem fl_X8_15 : zz_FL RX8 15 8 3 (.array .int) true := ⟨RX8, TX8, 11, rfl, (Nat.le_of_ble_eq_true rfl), tm_415, inX8, ⟨tyX8, tyX8_ok, rfl⟩, nmX8, rfl⟩
theorem fl_X8_27 : zz_FL RX8 27 8 7 (.array .int) true := ⟨RX8, TX8, 11, rfl, (Nat.le_of_ble_eq_true rfl), tm_426, inX8, ⟨tyX8, tyX8_ok, rfl⟩, nmX8, rfl⟩
theorem fl_X8_30 : zz_FL RX8 30 8 9 (.array .int) true := ⟨RX8, TX8, 11, rfl, (Nat.le_of_ble_eq_true rfl), tm_431, inX8, ⟨tyX8, tyX8_ok, rfl⟩, nmX8, rfl⟩
theorem fl_X8_33 : zz_FL RX8 33 8 10 (.array .int) true := ⟨RX8, TX8, 11, rfl, (Nat.le_of_ble_eq_true rfl), tm_434, inX8, ⟨tyX8, tyX8_ok, rfl⟩, nmX8, rfl⟩
theorem fl_X8_90 : zz_FL RX8 90 8 8 (.int) false := ⟨RX8, TX8, 11, rfl, (Nat.le_of_ble_eq_true rfl), tm_428, inX8, ⟨tyX8, tyX8_ok, rfl⟩, nmX8, rfl⟩
theorem fl_X8_9 : zz_FL RX8 9 8 2 (.array .int) true := ⟨RX8, TX8, 11, rfl, (Nat.le_of_ble_eq_true rfl), tm_411, inX8, ⟨tyX8, tyX8_ok, rfl⟩, nmX8, rfl⟩
theorem fl_X8_24 : zz_FL RX8 24 8 6 (.array .int) true := ⟨RX8, TX8, 11, rfl, (Nat.le_of_ble_eq_true rfl), tm_424, inX8, ⟨tyX8, tyX8_ok, rfl⟩, nmX8, rfl⟩
theorem lv_X8_49 : zz_LV RX8 49 mX0_forget := ⟨tm_582, tm_583, tm_584⟩
theorem ok_X0_forget : zz_ok mX0_forget 0 := ⟨tm_585, tm_136, ⟨by decide +kernel, by decide +kernel, by decide +kernel⟩, (Nat.le_of_ble_eq_true rfl)⟩
theorem fl_X8_58 : zz_FL RX8 58 6 6 (.array .int) true := ⟨RX6, TX6, 14, rfl, (Nat.le_of_ble_eq_true rfl), tm_260, inX6, ⟨tyX6, tyX6_ok, rfl⟩, nmX6, rfl⟩
theorem fl_X8_61 : zz_FL RX8 61 6 7 (.array .int) true := ⟨RX6, TX6, 14, rfl, (Nat.le_of_ble_eq_true rfl), tm_266, inX6, ⟨tyX6, tyX6_ok, rfl⟩, nmX6, rfl⟩
theorem lv_X8_71 : zz_LV RX8 71 mX8_layPeriods := ⟨tm_624, tm_626, tm_1⟩
theorem ok_X8_layPeriods : zz_ok mX8_layPeriods 1 := ⟨tm_627, tm_135, ⟨by decide +kernel, by decide +kernel, by decide +kernel⟩, (Nat.le_of_ble_eq_true rfl)⟩
theorem lv_X8_75 : zz_LV RX8 75 mX8_sortByEnds := ⟨tm_629, tm_631, tm_2⟩
theorem ok_X8_sortByEnds : zz_ok mX8_sortByEnds 0 := ⟨tm_632, tm_135, ⟨by decide +kernel, by decide +kernel, by decide +kernel⟩, (Nat.le_of_ble_eq_true rfl)⟩
theorem lv_X8_78 : zz_LV RX8 78 mX8_layPillars := ⟨tm_633, tm_635, tm_3⟩
theorem ok_X8_layPillars : zz_ok mX8_layPillars 0 := ⟨tm_636, tm_135, ⟨by decide +kernel, by decide +kernel, by decide +kernel⟩, (Nat.le_of_ble_eq_true rfl)⟩
theorem lv_X8_93 : zz_LV RX8 93 mX8_periodEnd := ⟨tm_1055, tm_1056, tm_1057⟩
theorem ok_X8_periodEnd : zz_ok mX8_periodEnd 2 := ⟨tm_1058, tm_135, ⟨by decide +kernel, by decide +kernel, by decide +kernel⟩, (Nat.le_of_ble_eq_true rfl)⟩
theorem lv_X8_96 : zz_LV RX8 96 mX8_pillarAt := ⟨tm_1342, tm_1069, tm_1070⟩
theorem ok_X8_pillarAt : zz_ok mX8_pillarAt 1 := ⟨tm_1071, tm_135, ⟨by decide +kernel, by decide +kernel, by decide +kernel⟩, (Nat.le_of_ble_eq_true rfl)⟩
theorem fl_X8_99 : zz_FL RX8 99 6 1 (.int) false := ⟨RX6, TX6, 14, rfl, (Nat.le_of_ble_eq_true rfl), tm_242, inX6, ⟨tyX6, tyX6_ok, rfl⟩, nmX6, rfl⟩
theorem fl_X1_9 : zz_FL RX1 9 1 2 (.array .int) true := ⟨RX1, TX1, 11, rfl, (Nat.le_of_ble_eq_true rfl), tm_469, inX1, ⟨tyX1, tyX1_ok, rfl⟩, nmX1, rfl⟩
theorem ac_X1_33 : Cond.methodLink RX1 33 arraycopyName ∈ zz_tbl := tm_1295
theorem fl_X1_15 : zz_FL RX1 15 1 3 (.array .int) true := ⟨RX1, TX1, 11, rfl, (Nat.le_of_ble_eq_true rfl), tm_473, inX1, ⟨tyX1, tyX1_ok, rfl⟩, nmX1, rfl⟩
theorem fl_X1_25 : zz_FL RX1 25 1 0 (.object "PillarDesk$Plan") true := ⟨RX1, TX1, 11, rfl, (Nat.le_of_ble_eq_true rfl), tm_467, inX1, ⟨tyX1, tyX1_ok, rfl⟩, nmX1, rfl⟩
theorem fl_X1_58 : zz_FL RX1 58 6 12 (.object "PillarDesk$Laws") true := ⟨RX6, TX6, 14, rfl, (Nat.le_of_ble_eq_true rfl), tm_288, inX6, ⟨tyX6, tyX6_ok, rfl⟩, nmX6, rfl⟩
theorem lv_X1_62 : zz_LV RX1 62 mX3_hasRates := ⟨tm_1025, tm_1026, tm_1027⟩
theorem ok_X3_hasRates : zz_ok mX3_hasRates 0 := ⟨tm_1028, tm_131, ⟨by decide +kernel, by decide +kernel, by decide +kernel⟩, (Nat.le_of_ble_eq_true rfl)⟩
theorem fl_X1_68 : zz_FL RX1 68 3 1 (.array .int) true := ⟨RX3, TX3, 8, rfl, (Nat.le_of_ble_eq_true rfl), tm_172, inX3, ⟨tyX3, tyX3_ok, rfl⟩, nmX3, rfl⟩
theorem fl_X1_29 : zz_FL RX1 29 1 1 (.object "PillarDesk$Schedule") true := ⟨RX1, TX1, 11, rfl, (Nat.le_of_ble_eq_true rfl), tm_468, inX1, ⟨tyX1, tyX1_ok, rfl⟩, nmX1, rfl⟩
theorem lv_X1_71 : zz_LV RX1 71 mX8_daysOf := ⟨tm_1029, tm_1030, tm_1031⟩
theorem ok_X8_daysOf : zz_ok mX8_daysOf 1 := ⟨tm_1032, tm_135, ⟨by decide +kernel, by decide +kernel, by decide +kernel⟩, (Nat.le_of_ble_eq_true rfl)⟩
theorem fl_X1_76 : zz_FL RX1 76 6 6 (.array .int) true := ⟨RX6, TX6, 14, rfl, (Nat.le_of_ble_eq_true rfl), tm_262, inX6, ⟨tyX6, tyX6_ok, rfl⟩, nmX6, rfl⟩
theorem fl_X1_79 : zz_FL RX1 79 3 4 (.int) false := ⟨RX3, TX3, 8, rfl, (Nat.le_of_ble_eq_true rfl), tm_178, inX3, ⟨tyX3, tyX3_ok, rfl⟩, nmX3, rfl⟩
theorem fl_X1_82 : zz_FL RX1 82 3 5 (.int) false := ⟨RX3, TX3, 8, rfl, (Nat.le_of_ble_eq_true rfl), tm_181, inX3, ⟨tyX3, tyX3_ok, rfl⟩, nmX3, rfl⟩
theorem lv_X1_85 : zz_LV RX1 85 mX3_value := ⟨tm_1033, tm_613, tm_614⟩
theorem fl_X1_39 : zz_FL RX1 39 6 5 (.int) false := ⟨RX6, TX6, 14, rfl, (Nat.le_of_ble_eq_true rfl), tm_256, inX6, ⟨tyX6, tyX6_ok, rfl⟩, nmX6, rfl⟩
theorem fl_X1_45 : zz_FL RX1 45 9 0 (.array .int) true := ⟨RX9, TX9, 3, rfl, (Nat.le_of_ble_eq_true rfl), tm_215, inX9, ⟨tyX9, tyX9_ok, rfl⟩, nmX9, rfl⟩
theorem lv_X1_50 : zz_LV RX1 50 mX1_rateByRule := ⟨tm_1021, tm_1023, tm_34⟩
theorem ok_X1_rateByRule : zz_ok mX1_rateByRule 3 := ⟨tm_1024, tm_137, ⟨by decide +kernel, by decide +kernel, by decide +kernel⟩, (Nat.le_of_ble_eq_true rfl)⟩
theorem ln_X1_54 : zz_LN RX1 54 mX11_inRateBounds := ⟨by decide +kernel, tm_1035⟩
theorem ok_X11_inRateBounds : zz_ok mX11_inRateBounds 1 := ⟨tm_1036, tm_129, ⟨by decide +kernel, by decide +kernel, by decide +kernel⟩, (Nat.le_of_ble_eq_true rfl)⟩
theorem lv_X1_190 : zz_LV RX1 190 mX8_pillarAt := ⟨tm_1068, tm_1069, tm_1070⟩
theorem fl_X1_95 : zz_FL RX1 95 8 8 (.int) false := ⟨RX8, TX8, 11, rfl, (Nat.le_of_ble_eq_true rfl), tm_429, inX8, ⟨tyX8, tyX8_ok, rfl⟩, nmX8, rfl⟩
theorem fl_X1_163 : zz_FL RX1 163 6 1 (.int) false := ⟨RX6, TX6, 14, rfl, (Nat.le_of_ble_eq_true rfl), tm_241, inX6, ⟨tyX6, tyX6_ok, rfl⟩, nmX6, rfl⟩
theorem fl_X1_102 : zz_FL RX1 102 8 9 (.array .int) true := ⟨RX8, TX8, 11, rfl, (Nat.le_of_ble_eq_true rfl), tm_432, inX8, ⟨tyX8, tyX8_ok, rfl⟩, nmX8, rfl⟩
theorem ls_X1_166 : zz_LS RX1 166 mJ9_floorDiv_f86c9 := ⟨tm_1072, tm_1073⟩
theorem ok_J9_floorDiv_f86c9 : zz_ok mJ9_floorDiv_f86c9 2 := ⟨tm_1074, tm_142, ⟨by decide +kernel, by decide +kernel, by decide +kernel⟩, (Nat.le_of_ble_eq_true rfl)⟩
theorem fl_X1_108 : zz_FL RX1 108 1 6 (.int) false := ⟨RX1, TX1, 11, rfl, (Nat.le_of_ble_eq_true rfl), tm_477, inX1, ⟨tyX1, tyX1_ok, rfl⟩, nmX1, rfl⟩
theorem fl_X1_18 : zz_FL RX1 18 1 4 (.array .long) true := ⟨RX1, TX1, 11, rfl, (Nat.le_of_ble_eq_true rfl), tm_475, inX1, ⟨tyX1, tyX1_ok, rfl⟩, nmX1, rfl⟩
theorem fl_X1_22 : zz_FL RX1 22 1 5 (.array .int) true := ⟨RX1, TX1, 11, rfl, (Nat.le_of_ble_eq_true rfl), tm_476, inX1, ⟨tyX1, tyX1_ok, rfl⟩, nmX1, rfl⟩
theorem fl_X1_140 : zz_FL RX1 140 1 8 (.long) false := ⟨RX1, TX1, 11, rfl, (Nat.le_of_ble_eq_true rfl), tm_479, inX1, ⟨tyX1, tyX1_ok, rfl⟩, nmX1, rfl⟩
theorem fl_X1_98 : zz_FL RX1 98 1 9 (.long) false := ⟨RX1, TX1, 11, rfl, (Nat.le_of_ble_eq_true rfl), tm_480, inX1, ⟨tyX1, tyX1_ok, rfl⟩, nmX1, rfl⟩
theorem lv_X1_160 : zz_LV RX1 160 mX1_factorAt := ⟨tm_1064, tm_1065, tm_1066⟩
theorem ok_X1_factorAt : zz_ok mX1_factorAt 1 := ⟨tm_1067, tm_137, ⟨by decide +kernel, by decide +kernel, by decide +kernel⟩, (Nat.le_of_ble_eq_true rfl)⟩
theorem fl_X1_137 : zz_FL RX1 137 1 7 (.long) false := ⟨RX1, TX1, 11, rfl, (Nat.le_of_ble_eq_true rfl), tm_478, inX1, ⟨tyX1, tyX1_ok, rfl⟩, nmX1, rfl⟩
theorem fl_X1_132 : zz_FL RX1 132 8 2 (.array .int) true := ⟨RX8, TX8, 11, rfl, (Nat.le_of_ble_eq_true rfl), tm_413, inX8, ⟨tyX8, tyX8_ok, rfl⟩, nmX8, rfl⟩
theorem kc_X1_135 : Cond.constantLong RX1 135 (3600000 : Int64) ∈ zz_tbl := tm_1049
theorem kc_X1_143 : Cond.constantLong RX1 143 (-3600000 : Int64) ∈ zz_tbl := tm_1079
theorem lv_X1_145 : zz_LV RX1 145 mX1_takeIn := ⟨tm_1060, tm_1062, tm_36⟩
theorem ok_X1_takeIn : zz_ok mX1_takeIn 3 := ⟨tm_1063, tm_137, ⟨by decide +kernel, by decide +kernel, by decide +kernel⟩, (Nat.le_of_ble_eq_true rfl)⟩
theorem kc_X1_149 : Cond.constantLong RX1 149 (3600000003599999 : Int64) ∈ zz_tbl := tm_1050
theorem fl_X1_151 : zz_FL RX1 151 8 4 (.array .int) true := ⟨RX8, TX8, 11, rfl, (Nat.le_of_ble_eq_true rfl), tm_421, inX8, ⟨tyX8, tyX8_ok, rfl⟩, nmX8, rfl⟩
theorem lv_X1_154 : zz_LV RX1 154 mX8_periodDays := ⟨tm_1051, tm_1052, tm_1053⟩
theorem ok_X8_periodDays : zz_ok mX8_periodDays 2 := ⟨tm_1054, tm_135, ⟨by decide +kernel, by decide +kernel, by decide +kernel⟩, (Nat.le_of_ble_eq_true rfl)⟩
theorem lv_X1_157 : zz_LV RX1 157 mX8_periodEnd := ⟨tm_1059, tm_1056, tm_1057⟩
theorem kc_X1_173 : Cond.constantLong RX1 173 (1000000000 : Int64) ∈ zz_tbl := tm_1087
theorem ls_X1_175 : zz_LS RX1 175 mJ9_min_f86c9 := ⟨tm_1088, tm_1089⟩
theorem ok_J9_min_f86c9 : zz_ok mJ9_min_f86c9 2 := ⟨tm_1090, tm_142, ⟨by decide +kernel, by decide +kernel, by decide +kernel⟩, (Nat.le_of_ble_eq_true rfl)⟩
theorem ls_X1_178 : zz_LS RX1 178 mJ9_max_f86c9 := ⟨tm_1091, tm_1092⟩
theorem ok_J9_max_f86c9 : zz_ok mJ9_max_f86c9 2 := ⟨tm_1093, tm_142, ⟨by decide +kernel, by decide +kernel, by decide +kernel⟩, (Nat.le_of_ble_eq_true rfl)⟩
theorem ls_X1_170 : zz_LS RX1 170 mX1_inFactorBounds := ⟨tm_1084, tm_1085⟩
theorem ok_X1_inFactorBounds : zz_ok mX1_inFactorBounds 1 := ⟨tm_1086, tm_137, ⟨by decide +kernel, by decide +kernel, by decide +kernel⟩, (Nat.le_of_ble_eq_true rfl)⟩
theorem fl_X1_105 : zz_FL RX1 105 1 10 (.int) false := ⟨RX1, TX1, 11, rfl, (Nat.le_of_ble_eq_true rfl), tm_481, inX1, ⟨tyX1, tyX1_ok, rfl⟩, nmX1, rfl⟩
theorem kc_X1_180 : Cond.constantLong RX1 180 (2000000000 : Int64) ∈ zz_tbl := tm_1102
theorem lv_X1_182 : zz_LV RX1 182 mX1_holds := ⟨tm_1103, tm_1105, tm_41⟩
theorem ok_X1_holds : zz_ok mX1_holds 1 := ⟨tm_1106, tm_137, ⟨by decide +kernel, by decide +kernel, by decide +kernel⟩, (Nat.le_of_ble_eq_true rfl)⟩
theorem kc_X1_186 : Cond.constantLong RX1 186 (1000000001 : Int64) ∈ zz_tbl := tm_1107
theorem kc_X1_188 : Cond.constantLong RX1 188 (2 : Int64) ∈ zz_tbl := tm_1108
theorem kc_X1_89 : Cond.constant RX1 89 (1000000000 : Int32) ∈ zz_tbl := tm_1043
theorem ls_X1_90 : zz_LS RX1 90 mJ9_max_7cf53 := ⟨tm_1044, tm_716⟩
theorem fl_X1_111 : zz_FL RX1 111 8 10 (.array .int) true := ⟨RX8, TX8, 11, rfl, (Nat.le_of_ble_eq_true rfl), tm_435, inX8, ⟨tyX8, tyX8_ok, rfl⟩, nmX8, rfl⟩
theorem lv_X1_118 : zz_LV RX1 118 mX1_askLoan := ⟨tm_1075, tm_1077, tm_37⟩
theorem ok_X1_askLoan : zz_ok mX1_askLoan 2 := ⟨tm_1078, tm_137, ⟨by decide +kernel, by decide +kernel, by decide +kernel⟩, (Nat.le_of_ble_eq_true rfl)⟩
theorem lv_X1_114 : zz_LV RX1 114 mX1_askSwap := ⟨tm_1045, tm_1047, tm_35⟩
theorem ok_X1_askSwap : zz_ok mX1_askSwap 2 := ⟨tm_1048, tm_137, ⟨by decide +kernel, by decide +kernel, by decide +kernel⟩, (Nat.le_of_ble_eq_true rfl)⟩
theorem lv_X1_125 : zz_LV RX1 125 mX1_guess := ⟨tm_1094, tm_1096, tm_39⟩
theorem ok_X1_guess : zz_ok mX1_guess 0 := ⟨tm_1097, tm_137, ⟨by decide +kernel, by decide +kernel, by decide +kernel⟩, (Nat.le_of_ble_eq_true rfl)⟩
theorem lv_X1_128 : zz_LV RX1 128 mX1_greatestFrom := ⟨tm_1098, tm_1100, tm_40⟩
theorem ok_X1_greatestFrom : zz_ok mX1_greatestFrom 1 := ⟨tm_1101, tm_137, ⟨by decide +kernel, by decide +kernel, by decide +kernel⟩, (Nat.le_of_ble_eq_true rfl)⟩
theorem lv_X1_121 : zz_LV RX1 121 mX1_greatestAtOnce := ⟨tm_1080, tm_1082, tm_38⟩
theorem ok_X1_greatestAtOnce : zz_ok mX1_greatestAtOnce 0 := ⟨tm_1083, tm_137, ⟨by decide +kernel, by decide +kernel, by decide +kernel⟩, (Nat.le_of_ble_eq_true rfl)⟩
theorem fl_X1_193 : zz_FL RX1 193 8 3 (.array .int) true := ⟨RX8, TX8, 11, rfl, (Nat.le_of_ble_eq_true rfl), tm_418, inX8, ⟨tyX8, tyX8_ok, rfl⟩, nmX8, rfl⟩
theorem fl_X1_196 : zz_FL RX1 196 6 10 (.int) false := ⟨RX6, TX6, 14, rfl, (Nat.le_of_ble_eq_true rfl), tm_280, inX6, ⟨tyX6, tyX6_ok, rfl⟩, nmX6, rfl⟩
theorem fl_X1_199 : zz_FL RX1 199 6 13 (.object "PillarDesk$Stand") true := ⟨RX6, TX6, 14, rfl, (Nat.le_of_ble_eq_true rfl), tm_295, inX6, ⟨tyX6, tyX6_ok, rfl⟩, nmX6, rfl⟩
theorem fl_X1_203 : zz_FL RX1 203 9 1 (.array .int) true := ⟨RX9, TX9, 3, rfl, (Nat.le_of_ble_eq_true rfl), tm_223, inX9, ⟨tyX9, tyX9_ok, rfl⟩, nmX9, rfl⟩
theorem fl_X1_206 : zz_FL RX1 206 6 11 (.array .int) true := ⟨RX6, TX6, 14, rfl, (Nat.le_of_ble_eq_true rfl), tm_286, inX6, ⟨tyX6, tyX6_ok, rfl⟩, nmX6, rfl⟩
theorem fl_X2_18 : zz_FL RX2 18 2 0 (.object "PillarDesk$Plan") true := ⟨RX2, TX2, 5, rfl, (Nat.le_of_ble_eq_true rfl), tm_512, inX2, ⟨tyX2, tyX2_ok, rfl⟩, nmX2, rfl⟩
theorem fl_X2_30 : zz_FL RX2 30 6 10 (.int) false := ⟨RX6, TX6, 14, rfl, (Nat.le_of_ble_eq_true rfl), tm_277, inX6, ⟨tyX6, tyX6_ok, rfl⟩, nmX6, rfl⟩
theorem fl_X2_36 : zz_FL RX2 36 6 13 (.object "PillarDesk$Stand") true := ⟨RX6, TX6, 14, rfl, (Nat.le_of_ble_eq_true rfl), tm_292, inX6, ⟨tyX6, tyX6_ok, rfl⟩, nmX6, rfl⟩
theorem fl_X2_40 : zz_FL RX2 40 9 1 (.array .int) true := ⟨RX9, TX9, 3, rfl, (Nat.le_of_ble_eq_true rfl), tm_220, inX9, ⟨tyX9, tyX9_ok, rfl⟩, nmX9, rfl⟩
theorem fl_X2_22 : zz_FL RX2 22 2 1 (.object "PillarDesk$Schedule") true := ⟨RX2, TX2, 5, rfl, (Nat.le_of_ble_eq_true rfl), tm_513, inX2, ⟨tyX2, tyX2_ok, rfl⟩, nmX2, rfl⟩
theorem fl_X2_46 : zz_FL RX2 46 6 11 (.array .int) true := ⟨RX6, TX6, 14, rfl, (Nat.le_of_ble_eq_true rfl), tm_283, inX6, ⟨tyX6, tyX6_ok, rfl⟩, nmX6, rfl⟩
theorem lv_X2_49 : zz_LV RX2 49 mX8_weight := ⟨tm_1338, tm_1339, tm_1340⟩
theorem ok_X8_weight : zz_ok mX8_weight 2 := ⟨tm_1341, tm_135, ⟨by decide +kernel, by decide +kernel, by decide +kernel⟩, (Nat.le_of_ble_eq_true rfl)⟩
theorem fl_X2_79 : zz_FL RX2 79 8 4 (.array .int) true := ⟨RX8, TX8, 11, rfl, (Nat.le_of_ble_eq_true rfl), tm_420, inX8, ⟨tyX8, tyX8_ok, rfl⟩, nmX8, rfl⟩
theorem fl_X2_26 : zz_FL RX2 26 2 2 (.object "PillarDesk$Curve") true := ⟨RX2, TX2, 5, rfl, (Nat.le_of_ble_eq_true rfl), tm_514, inX2, ⟨tyX2, tyX2_ok, rfl⟩, nmX2, rfl⟩
theorem fl_X2_67 : zz_FL RX2 67 1 2 (.array .int) true := ⟨RX1, TX1, 11, rfl, (Nat.le_of_ble_eq_true rfl), tm_470, inX1, ⟨tyX1, tyX1_ok, rfl⟩, nmX1, rfl⟩
theorem lv_X2_82 : zz_LV RX2 82 mX8_periodDays := ⟨tm_1366, tm_1052, tm_1053⟩
theorem lv_X2_85 : zz_LV RX2 85 mX8_periodEnd := ⟨tm_1367, tm_1056, tm_1057⟩
theorem kc_X2_55 : Cond.constantLong RX2 55 (3600000 : Int64) ∈ zz_tbl := tm_1352
theorem fl_X2_57 : zz_FL RX2 57 8 3 (.array .int) true := ⟨RX8, TX8, 11, rfl, (Nat.le_of_ble_eq_true rfl), tm_416, inX8, ⟨tyX8, tyX8_ok, rfl⟩, nmX8, rfl⟩
theorem fl_X2_60 : zz_FL RX2 60 6 6 (.array .int) true := ⟨RX6, TX6, 14, rfl, (Nat.le_of_ble_eq_true rfl), tm_261, inX6, ⟨tyX6, tyX6_ok, rfl⟩, nmX6, rfl⟩
theorem lv_X2_72 : zz_LV RX2 72 mX8_daysOf := ⟨tm_1368, tm_1030, tm_1031⟩
theorem fl_X2_76 : zz_FL RX2 76 8 2 (.array .int) true := ⟨RX8, TX8, 11, rfl, (Nat.le_of_ble_eq_true rfl), tm_412, inX8, ⟨tyX8, tyX8_ok, rfl⟩, nmX8, rfl⟩
theorem lv_X2_63 : zz_LV RX2 63 mX2_dueHang := ⟨tm_1362, tm_1364, tm_51⟩
theorem ok_X2_dueHang : zz_ok mX2_dueHang 2 := ⟨tm_1365, tm_138, ⟨by decide +kernel, by decide +kernel, by decide +kernel⟩, (Nat.le_of_ble_eq_true rfl)⟩
theorem fl_X2_101 : zz_FL RX2 101 8 10 (.array .int) true := ⟨RX8, TX8, 11, rfl, (Nat.le_of_ble_eq_true rfl), tm_436, inX8, ⟨tyX8, tyX8_ok, rfl⟩, nmX8, rfl⟩
theorem lv_X2_104 : zz_LV RX2 104 mX2_pieceHang := ⟨tm_1358, tm_1360, tm_50⟩
theorem ok_X2_pieceHang : zz_ok mX2_pieceHang 2 := ⟨tm_1361, tm_138, ⟨by decide +kernel, by decide +kernel, by decide +kernel⟩, (Nat.le_of_ble_eq_true rfl)⟩
theorem fl_X2_9 : zz_FL RX2 9 2 3 (.array .long) true := ⟨RX2, TX2, 5, rfl, (Nat.le_of_ble_eq_true rfl), tm_515, inX2, ⟨tyX2, tyX2_ok, rfl⟩, nmX2, rfl⟩
theorem kc_X2_107 : Cond.constantLong RX2 107 (2 : Int64) ∈ zz_tbl := tm_1369
theorem fl_X2_15 : zz_FL RX2 15 2 4 (.array .long) true := ⟨RX2, TX2, 5, rfl, (Nat.le_of_ble_eq_true rfl), tm_517, inX2, ⟨tyX2, tyX2_ok, rfl⟩, nmX2, rfl⟩
theorem ls_X2_109 : zz_LS RX2 109 mJ9_floorDiv_f86c9 := ⟨tm_1370, tm_1073⟩
theorem fl_X2_88 : zz_FL RX2 88 8 8 (.int) false := ⟨RX8, TX8, 11, rfl, (Nat.le_of_ble_eq_true rfl), tm_427, inX8, ⟨tyX8, tyX8_ok, rfl⟩, nmX8, rfl⟩
theorem lv_X2_91 : zz_LV RX2 91 mX2_bookHang := ⟨tm_1351, tm_1335, tm_1336⟩
theorem ok_X2_bookHang : zz_ok mX2_bookHang 1 := ⟨tm_1337, tm_138, ⟨by decide +kernel, by decide +kernel, by decide +kernel⟩, (Nat.le_of_ble_eq_true rfl)⟩
theorem kc_X2_95 : Cond.constantLong RX2 95 (1000 : Int64) ∈ zz_tbl := tm_1353
theorem lv_X2_97 : zz_LV RX2 97 mX2_takePieces := ⟨tm_1354, tm_1356, tm_49⟩
theorem ok_X2_takePieces : zz_ok mX2_takePieces 1 := ⟨tm_1357, tm_138, ⟨by decide +kernel, by decide +kernel, by decide +kernel⟩, (Nat.le_of_ble_eq_true rfl)⟩
theorem fl_X4_9 : zz_FL RX4 9 4 3 (.array .int) true := ⟨RX4, TX4, 7, rfl, (Nat.le_of_ble_eq_true rfl), tm_539, inX4, ⟨tyX4, tyX4_ok, rfl⟩, nmX4, rfl⟩
theorem kc_X4_79 : Cond.constantLong RX4 79 (6 : Int64) ∈ zz_tbl := tm_1427
theorem kc_X4_77 : Cond.constantLong RX4 77 (3 : Int64) ∈ zz_tbl := tm_1426
theorem kc_X4_75 : Cond.constantLong RX4 75 (2 : Int64) ∈ zz_tbl := tm_1425
theorem fl_X4_23 : zz_FL RX4 23 4 2 (.object "PillarDesk$Curve") true := ⟨RX4, TX4, 7, rfl, (Nat.le_of_ble_eq_true rfl), tm_538, inX4, ⟨tyX4, tyX4_ok, rfl⟩, nmX4, rfl⟩
theorem fl_X4_19 : zz_FL RX4 19 4 1 (.object "PillarDesk$Curve") true := ⟨RX4, TX4, 7, rfl, (Nat.le_of_ble_eq_true rfl), tm_537, inX4, ⟨tyX4, tyX4_ok, rfl⟩, nmX4, rfl⟩
theorem lv_X4_50 : zz_LV RX4 50 mX1_copyFrom := ⟨tm_1420, tm_1292, tm_1293⟩
theorem ok_X1_copyFrom : zz_ok mX1_copyFrom 1 := ⟨tm_1294, tm_137, ⟨by decide +kernel, by decide +kernel, by decide +kernel⟩, (Nat.le_of_ble_eq_true rfl)⟩
theorem lv_X4_56 : zz_LV RX4 56 mX4_orders := ⟨tm_1421, tm_1423, tm_58⟩
theorem ok_X4_orders : zz_ok mX4_orders 1 := ⟨tm_1424, tm_139, ⟨by decide +kernel, by decide +kernel, by decide +kernel⟩, (Nat.le_of_ble_eq_true rfl)⟩
theorem fl_X4_15 : zz_FL RX4 15 4 0 (.object "PillarDesk$Plan") true := ⟨RX4, TX4, 7, rfl, (Nat.le_of_ble_eq_true rfl), tm_536, inX4, ⟨tyX4, tyX4_ok, rfl⟩, nmX4, rfl⟩
theorem fl_X4_36 : zz_FL RX4 36 6 5 (.int) false := ⟨RX6, TX6, 14, rfl, (Nat.le_of_ble_eq_true rfl), tm_254, inX6, ⟨tyX6, tyX6_ok, rfl⟩, nmX6, rfl⟩
theorem fl_X4_60 : zz_FL RX4 60 1 2 (.array .int) true := ⟨RX1, TX1, 11, rfl, (Nat.le_of_ble_eq_true rfl), tm_471, inX1, ⟨tyX1, tyX1_ok, rfl⟩, nmX1, rfl⟩
theorem ln_X4_63 : zz_LN RX4 63 mX11_inRateBounds := ⟨by decide +kernel, tm_1035⟩
theorem lv_X4_67 : zz_LV RX4 67 mX1_solve := ⟨tm_1429, tm_1040, tm_1041⟩
theorem ok_X1_solve : zz_ok mX1_solve 1 := ⟨tm_1042, tm_137, ⟨by decide +kernel, by decide +kernel, by decide +kernel⟩, (Nat.le_of_ble_eq_true rfl)⟩
theorem lv_X4_71 : zz_LV RX4 71 mX1_bookWorth := ⟨tm_1430, tm_1306, tm_1307⟩
theorem ok_X1_bookWorth : zz_ok mX1_bookWorth 0 := ⟨tm_1308, tm_137, ⟨by decide +kernel, by decide +kernel, by decide +kernel⟩, (Nat.le_of_ble_eq_true rfl)⟩
theorem fl_X4_30 : zz_FL RX4 30 4 5 (.long) false := ⟨RX4, TX4, 7, rfl, (Nat.le_of_ble_eq_true rfl), tm_542, inX4, ⟨tyX4, tyX4_ok, rfl⟩, nmX4, rfl⟩
theorem fl_X4_33 : zz_FL RX4 33 4 6 (.long) false := ⟨RX4, TX4, 7, rfl, (Nat.le_of_ble_eq_true rfl), tm_544, inX4, ⟨tyX4, tyX4_ok, rfl⟩, nmX4, rfl⟩
theorem fl_X4_26 : zz_FL RX4 26 4 4 (.long) false := ⟨RX4, TX4, 7, rfl, (Nat.le_of_ble_eq_true rfl), tm_540, inX4, ⟨tyX4, tyX4_ok, rfl⟩, nmX4, rfl⟩
theorem lv_X4_42 : zz_LV RX4 42 mX4_drawInOrder := ⟨tm_1412, tm_1414, tm_56⟩
theorem ok_X4_drawInOrder : zz_ok mX4_drawInOrder 3 := ⟨tm_1415, tm_139, ⟨by decide +kernel, by decide +kernel, by decide +kernel⟩, (Nat.le_of_ble_eq_true rfl)⟩
theorem lv_X4_46 : zz_LV RX4 46 mX4_addDraw := ⟨tm_1416, tm_1418, tm_57⟩
theorem ok_X4_addDraw : zz_ok mX4_addDraw 3 := ⟨tm_1419, tm_139, ⟨by decide +kernel, by decide +kernel, by decide +kernel⟩, (Nat.le_of_ble_eq_true rfl)⟩
theorem ls_X4_81 : zz_LS RX4 81 mJ9_abs_067f4 := ⟨tm_1434, tm_1324⟩
theorem ok_J9_abs_067f4 : zz_ok mJ9_abs_067f4 1 := ⟨tm_1325, tm_142, ⟨by decide +kernel, by decide +kernel, by decide +kernel⟩, (Nat.le_of_ble_eq_true rfl)⟩
theorem fl_X7_32 : zz_FL RX7 32 7 2 (.int) false := ⟨RX7, TX7, 10, rfl, (Nat.le_of_ble_eq_true rfl), tm_333, inX7, ⟨tyX7, tyX7_ok, rfl⟩, nmX7, rfl⟩
theorem fl_X7_9 : zz_FL RX7 9 7 1 (.array .byte) false := ⟨RX7, TX7, 10, rfl, (Nat.le_of_ble_eq_true rfl), tm_332, inX7, ⟨tyX7, tyX7_ok, rfl⟩, nmX7, rfl⟩
theorem fl_X7_38 : zz_FL RX7 38 7 7 (.int) false := ⟨RX7, TX7, 10, rfl, (Nat.le_of_ble_eq_true rfl), tm_338, inX7, ⟨tyX7, tyX7_ok, rfl⟩, nmX7, rfl⟩
theorem fl_X7_58 : zz_FL RX7 58 7 5 (.int) false := ⟨RX7, TX7, 10, rfl, (Nat.le_of_ble_eq_true rfl), tm_336, inX7, ⟨tyX7, tyX7_ok, rfl⟩, nmX7, rfl⟩
theorem fl_X7_15 : zz_FL RX7 15 7 8 (.int) false := ⟨RX7, TX7, 10, rfl, (Nat.le_of_ble_eq_true rfl), tm_340, inX7, ⟨tyX7, tyX7_ok, rfl⟩, nmX7, rfl⟩
theorem fl_X7_52 : zz_FL RX7 52 7 4 (.int) false := ⟨RX7, TX7, 10, rfl, (Nat.le_of_ble_eq_true rfl), tm_335, inX7, ⟨tyX7, tyX7_ok, rfl⟩, nmX7, rfl⟩
theorem fl_X7_35 : zz_FL RX7 35 7 3 (.int) false := ⟨RX7, TX7, 10, rfl, (Nat.le_of_ble_eq_true rfl), tm_334, inX7, ⟨tyX7, tyX7_ok, rfl⟩, nmX7, rfl⟩
theorem lv_X7_61 : zz_LV RX7 61 mX7_byteAt := ⟨tm_730, tm_732, tm_6⟩
theorem ok_X7_byteAt : zz_ok mX7_byteAt 1 := ⟨tm_733, tm_133, ⟨by decide +kernel, by decide +kernel, by decide +kernel⟩, (Nat.le_of_ble_eq_true rfl)⟩
theorem ls_X7_65 : zz_LS RX7 65 mX7_isLetter := ⟨tm_734, tm_735⟩
theorem ok_X7_isLetter : zz_ok mX7_isLetter 1 := ⟨tm_736, tm_133, ⟨by decide +kernel, by decide +kernel, by decide +kernel⟩, (Nat.le_of_ble_eq_true rfl)⟩
theorem fl_X7_89 : zz_FL RX7 89 7 6 (.int) false := ⟨RX7, TX7, 10, rfl, (Nat.le_of_ble_eq_true rfl), tm_337, inX7, ⟨tyX7, tyX7_ok, rfl⟩, nmX7, rfl⟩
theorem ls_X7_72 : zz_LS RX7 72 mX7_isDigit := ⟨tm_741, tm_742⟩
theorem ok_X7_isDigit : zz_ok mX7_isDigit 1 := ⟨tm_743, tm_133, ⟨by decide +kernel, by decide +kernel, by decide +kernel⟩, (Nat.le_of_ble_eq_true rfl)⟩
theorem lv_X7_85 : zz_LV RX7 85 mX7_fail := ⟨tm_748, tm_750, tm_9⟩
theorem ok_X7_fail : zz_ok mX7_fail 1 := ⟨tm_751, tm_133, ⟨by decide +kernel, by decide +kernel, by decide +kernel⟩, (Nat.le_of_ble_eq_true rfl)⟩
theorem lv_X7_80 : zz_LV RX7 80 mJ0_indexOf_0f7a4 := ⟨tm_753, tm_754, tm_755⟩
theorem ok_J0_indexOf_0f7a4 : zz_ok mJ0_indexOf_0f7a4 1 := ⟨tm_756, tm_144, ⟨by decide +kernel, by decide +kernel, by decide +kernel⟩, (Nat.le_of_ble_eq_true rfl)⟩
theorem lv_X7_75 : zz_LV RX7 75 mX7_nextNumber := ⟨tm_744, tm_746, tm_8⟩
theorem ok_X7_nextNumber : zz_ok mX7_nextNumber 0 := ⟨tm_747, tm_133, ⟨by decide +kernel, by decide +kernel, by decide +kernel⟩, (Nat.le_of_ble_eq_true rfl)⟩
theorem lv_X7_69 : zz_LV RX7 69 mX7_nextWord := ⟨tm_737, tm_739, tm_7⟩
theorem ok_X7_nextWord : zz_ok mX7_nextWord 0 := ⟨tm_740, tm_133, ⟨by decide +kernel, by decide +kernel, by decide +kernel⟩, (Nat.le_of_ble_eq_true rfl)⟩
theorem lv_X7_92 : zz_LV RX7 92 mJ0_length_8abf5 := ⟨tm_848, tm_768, tm_769⟩
theorem lv_X7_95 : zz_LV RX7 95 mJ0_charAt_5068e := ⟨tm_849, tm_850, tm_851⟩
theorem ok_J0_charAt_5068e : zz_ok mJ0_charAt_5068e 1 := ⟨tm_852, tm_144, ⟨by decide +kernel, by decide +kernel, by decide +kernel⟩, (Nat.le_of_ble_eq_true rfl)⟩
theorem lv_X7_99 : zz_LV RX7 99 mX7_isWord := ⟨tm_844, tm_846, tm_12⟩
theorem ok_X7_isWord : zz_ok mX7_isWord 1 := ⟨tm_847, tm_133, ⟨by decide +kernel, by decide +kernel, by decide +kernel⟩, (Nat.le_of_ble_eq_true rfl)⟩
theorem lv_X7_46 : zz_LV RX7 46 mX7_next := ⟨tm_726, tm_728, tm_5⟩
theorem ok_X7_next : zz_ok mX7_next 0 := ⟨tm_729, tm_133, ⟨by decide +kernel, by decide +kernel, by decide +kernel⟩, (Nat.le_of_ble_eq_true rfl)⟩
theorem fl_X7_208 : zz_FL RX7 208 7 9 (.boolean) false := ⟨RX7, TX7, 10, rfl, (Nat.le_of_ble_eq_true rfl), tm_342, inX7, ⟨tyX7, tyX7_ok, rfl⟩, nmX7, rfl⟩
theorem lv_X7_266 : zz_LV RX7 266 mX7_opensVariable := ⟨tm_969, tm_971, tm_31⟩
theorem ok_X7_opensVariable : zz_ok mX7_opensVariable 0 := ⟨tm_972, tm_133, ⟨by decide +kernel, by decide +kernel, by decide +kernel⟩, (Nat.le_of_ble_eq_true rfl)⟩
theorem lv_X7_263 : zz_LV RX7 263 mX7_ratesVariable := ⟨tm_961, tm_963, tm_30⟩
theorem ok_X7_ratesVariable : zz_ok mX7_ratesVariable 0 := ⟨tm_964, tm_133, ⟨by decide +kernel, by decide +kernel, by decide +kernel⟩, (Nat.le_of_ble_eq_true rfl)⟩
theorem fl_X7_19 : zz_FL RX7 19 7 0 (.object "PillarDesk$Plan") true := ⟨RX7, TX7, 10, rfl, (Nat.le_of_ble_eq_true rfl), tm_331, inX7, ⟨tyX7, tyX7_ok, rfl⟩, nmX7, rfl⟩
theorem fl_X7_212 : zz_FL RX7 212 6 12 (.object "PillarDesk$Laws") true := ⟨RX6, TX6, 14, rfl, (Nat.le_of_ble_eq_true rfl), tm_290, inX6, ⟨tyX6, tyX6_ok, rfl⟩, nmX6, rfl⟩
theorem lv_X7_240 : zz_LV RX7 240 mX3_add := ⟨tm_922, tm_923, tm_924⟩
theorem ok_X3_add : zz_ok mX3_add 1 := ⟨tm_925, tm_131, ⟨by decide +kernel, by decide +kernel, by decide +kernel⟩, (Nat.le_of_ble_eq_true rfl)⟩
theorem lv_X7_237 : zz_LV RX7 237 mX7_readTerm := ⟨tm_914, tm_916, tm_21⟩
theorem ok_X7_readTerm : zz_ok mX7_readTerm 1 := ⟨tm_917, tm_133, ⟨by decide +kernel, by decide +kernel, by decide +kernel⟩, (Nat.le_of_ble_eq_true rfl)⟩
theorem lv_X7_243 : zz_LV RX7 243 mX7_readAtom := ⟨tm_918, tm_920, tm_22⟩
theorem ok_X7_readAtom : zz_ok mX7_readAtom 1 := ⟨tm_921, tm_133, ⟨by decide +kernel, by decide +kernel, by decide +kernel⟩, (Nat.le_of_ble_eq_true rfl)⟩
theorem lv_X7_254 : zz_LV RX7 254 mX7_readVariable := ⟨tm_957, tm_959, tm_29⟩
theorem ok_X7_readVariable : zz_ok mX7_readVariable 0 := ⟨tm_960, tm_133, ⟨by decide +kernel, by decide +kernel, by decide +kernel⟩, (Nat.le_of_ble_eq_true rfl)⟩
theorem lv_X7_246 : zz_LV RX7 246 mX7_goDeeper := ⟨tm_926, tm_928, tm_23⟩
theorem ok_X7_goDeeper : zz_ok mX7_goDeeper 1 := ⟨tm_929, tm_133, ⟨by decide +kernel, by decide +kernel, by decide +kernel⟩, (Nat.le_of_ble_eq_true rfl)⟩
theorem lv_X7_251 : zz_LV RX7 251 mX7_readChoice := ⟨tm_931, tm_933, tm_24⟩
theorem ok_X7_readChoice : zz_ok mX7_readChoice 1 := ⟨tm_934, tm_133, ⟨by decide +kernel, by decide +kernel, by decide +kernel⟩, (Nat.le_of_ble_eq_true rfl)⟩
theorem lv_X7_222 : zz_LV RX7 222 mX7_readSum := ⟨tm_910, tm_912, tm_20⟩
theorem ok_X7_readSum : zz_ok mX7_readSum 1 := ⟨tm_913, tm_133, ⟨by decide +kernel, by decide +kernel, by decide +kernel⟩, (Nat.le_of_ble_eq_true rfl)⟩
theorem lv_X7_131 : zz_LV RX7 131 mX7_takeSign := ⟨tm_876, tm_878, tm_14⟩
theorem ok_X7_takeSign : zz_ok mX7_takeSign 1 := ⟨tm_879, tm_133, ⟨by decide +kernel, by decide +kernel, by decide +kernel⟩, (Nat.le_of_ble_eq_true rfl)⟩
theorem lv_X7_231 : zz_LV RX7 231 mX7_readTruth := ⟨tm_935, tm_937, tm_25⟩
theorem ok_X7_readTruth : zz_ok mX7_readTruth 1 := ⟨tm_938, tm_133, ⟨by decide +kernel, by decide +kernel, by decide +kernel⟩, (Nat.le_of_ble_eq_true rfl)⟩
theorem lv_X7_105 : zz_LV RX7 105 mX7_takeWord := ⟨tm_840, tm_842, tm_11⟩
theorem ok_X7_takeWord : zz_ok mX7_takeWord 1 := ⟨tm_843, tm_133, ⟨by decide +kernel, by decide +kernel, by decide +kernel⟩, (Nat.le_of_ble_eq_true rfl)⟩
theorem lv_X7_281 : zz_LV RX7 281 mX7_readBoth := ⟨tm_939, tm_941, tm_26⟩
theorem ok_X7_readBoth : zz_ok mX7_readBoth 1 := ⟨tm_942, tm_133, ⟨by decide +kernel, by decide +kernel, by decide +kernel⟩, (Nat.le_of_ble_eq_true rfl)⟩
theorem lv_X7_286 : zz_LV RX7 286 mX7_readUnit := ⟨tm_943, tm_945, tm_27⟩
theorem ok_X7_readUnit : zz_ok mX7_readUnit 1 := ⟨tm_946, tm_133, ⟨by decide +kernel, by decide +kernel, by decide +kernel⟩, (Nat.le_of_ble_eq_true rfl)⟩
theorem lv_X7_293 : zz_LV RX7 293 mX7_readComparison := ⟨tm_948, tm_950, tm_28⟩
theorem ok_X7_readComparison : zz_ok mX7_readComparison 1 := ⟨tm_951, tm_133, ⟨by decide +kernel, by decide +kernel, by decide +kernel⟩, (Nat.le_of_ble_eq_true rfl)⟩
theorem lv_X7_111 : zz_LV RX7 111 mX7_takeNumber := ⟨tm_870, tm_872, tm_13⟩
theorem ok_X7_takeNumber : zz_ok mX7_takeNumber 2 := ⟨tm_873, tm_133, ⟨by decide +kernel, by decide +kernel, by decide +kernel⟩, (Nat.le_of_ble_eq_true rfl)⟩
theorem fl_X7_114 : zz_FL RX7 114 6 0 (.int) false := ⟨RX6, TX6, 14, rfl, (Nat.le_of_ble_eq_true rfl), tm_238, inX6, ⟨tyX6, tyX6_ok, rfl⟩, nmX6, rfl⟩
theorem fl_X7_118 : zz_FL RX7 118 6 1 (.int) false := ⟨RX6, TX6, 14, rfl, (Nat.le_of_ble_eq_true rfl), tm_243, inX6, ⟨tyX6, tyX6_ok, rfl⟩, nmX6, rfl⟩
theorem fl_X7_122 : zz_FL RX7 122 6 13 (.object "PillarDesk$Stand") true := ⟨RX6, TX6, 14, rfl, (Nat.le_of_ble_eq_true rfl), tm_294, inX6, ⟨tyX6, tyX6_ok, rfl⟩, nmX6, rfl⟩
theorem fl_X7_126 : zz_FL RX7 126 9 2 (.int) false := ⟨RX9, TX9, 3, rfl, (Nat.le_of_ble_eq_true rfl), tm_228, inX9, ⟨tyX9, tyX9_ok, rfl⟩, nmX9, rfl⟩
theorem fl_X7_135 : zz_FL RX7 135 6 2 (.int) false := ⟨RX6, TX6, 14, rfl, (Nat.le_of_ble_eq_true rfl), tm_247, inX6, ⟨tyX6, tyX6_ok, rfl⟩, nmX6, rfl⟩
theorem fl_X7_167 : zz_FL RX7 167 6 3 (.int) false := ⟨RX6, TX6, 14, rfl, (Nat.le_of_ble_eq_true rfl), tm_249, inX6, ⟨tyX6, tyX6_ok, rfl⟩, nmX6, rfl⟩
theorem fl_X7_170 : zz_FL RX7 170 6 4 (.array .int) true := ⟨RX6, TX6, 14, rfl, (Nat.le_of_ble_eq_true rfl), tm_252, inX6, ⟨tyX6, tyX6_ok, rfl⟩, nmX6, rfl⟩
theorem fl_X7_174 : zz_FL RX7 174 6 5 (.int) false := ⟨RX6, TX6, 14, rfl, (Nat.le_of_ble_eq_true rfl), tm_257, inX6, ⟨tyX6, tyX6_ok, rfl⟩, nmX6, rfl⟩
theorem fl_X7_177 : zz_FL RX7 177 6 6 (.array .int) true := ⟨RX6, TX6, 14, rfl, (Nat.le_of_ble_eq_true rfl), tm_264, inX6, ⟨tyX6, tyX6_ok, rfl⟩, nmX6, rfl⟩
theorem fl_X7_180 : zz_FL RX7 180 6 7 (.array .int) true := ⟨RX6, TX6, 14, rfl, (Nat.le_of_ble_eq_true rfl), tm_268, inX6, ⟨tyX6, tyX6_ok, rfl⟩, nmX6, rfl⟩
theorem fl_X7_183 : zz_FL RX7 183 6 8 (.array .int) true := ⟨RX6, TX6, 14, rfl, (Nat.le_of_ble_eq_true rfl), tm_272, inX6, ⟨tyX6, tyX6_ok, rfl⟩, nmX6, rfl⟩
theorem fl_X7_186 : zz_FL RX7 186 6 9 (.array .int) true := ⟨RX6, TX6, 14, rfl, (Nat.le_of_ble_eq_true rfl), tm_276, inX6, ⟨tyX6, tyX6_ok, rfl⟩, nmX6, rfl⟩
theorem fl_X7_193 : zz_FL RX7 193 9 0 (.array .int) true := ⟨RX9, TX9, 3, rfl, (Nat.le_of_ble_eq_true rfl), tm_218, inX9, ⟨tyX9, tyX9_ok, rfl⟩, nmX9, rfl⟩
theorem fl_X7_195 : zz_FL RX7 195 6 10 (.int) false := ⟨RX6, TX6, 14, rfl, (Nat.le_of_ble_eq_true rfl), tm_279, inX6, ⟨tyX6, tyX6_ok, rfl⟩, nmX6, rfl⟩
theorem fl_X7_198 : zz_FL RX7 198 6 11 (.array .int) true := ⟨RX6, TX6, 14, rfl, (Nat.le_of_ble_eq_true rfl), tm_285, inX6, ⟨tyX6, tyX6_ok, rfl⟩, nmX6, rfl⟩
theorem fl_X7_205 : zz_FL RX7 205 9 1 (.array .int) true := ⟨RX9, TX9, 3, rfl, (Nat.le_of_ble_eq_true rfl), tm_224, inX9, ⟨tyX9, tyX9_ok, rfl⟩, nmX9, rfl⟩
theorem fl_X7_216 : zz_FL RX7 216 3 3 (.int) false := ⟨RX3, TX3, 8, rfl, (Nat.le_of_ble_eq_true rfl), tm_176, inX3, ⟨tyX3, tyX3_ok, rfl⟩, nmX3, rfl⟩
theorem fl_X7_219 : zz_FL RX7 219 3 4 (.int) false := ⟨RX3, TX3, 8, rfl, (Nat.le_of_ble_eq_true rfl), tm_179, inX3, ⟨tyX3, tyX3_ok, rfl⟩, nmX3, rfl⟩
theorem fl_X7_225 : zz_FL RX7 225 3 5 (.int) false := ⟨RX3, TX3, 8, rfl, (Nat.le_of_ble_eq_true rfl), tm_182, inX3, ⟨tyX3, tyX3_ok, rfl⟩, nmX3, rfl⟩
theorem fl_X7_228 : zz_FL RX7 228 3 6 (.int) false := ⟨RX3, TX3, 8, rfl, (Nat.le_of_ble_eq_true rfl), tm_185, inX3, ⟨tyX3, tyX3_ok, rfl⟩, nmX3, rfl⟩
theorem fl_X7_234 : zz_FL RX7 234 3 7 (.int) false := ⟨RX3, TX3, 8, rfl, (Nat.le_of_ble_eq_true rfl), tm_188, inX3, ⟨tyX3, tyX3_ok, rfl⟩, nmX3, rfl⟩
theorem lv_X7_164 : zz_LV RX7 164 mX7_readOpens := ⟨tm_976, tm_978, tm_32⟩
theorem ok_X7_readOpens : zz_ok mX7_readOpens 0 := ⟨tm_979, tm_133, ⟨by decide +kernel, by decide +kernel, by decide +kernel⟩, (Nat.le_of_ble_eq_true rfl)⟩
theorem lv_X7_159 : zz_LV RX7 159 mX7_readRates := ⟨tm_906, tm_908, tm_19⟩
theorem ok_X7_readRates : zz_ok mX7_readRates 0 := ⟨tm_909, tm_133, ⟨by decide +kernel, by decide +kernel, by decide +kernel⟩, (Nat.le_of_ble_eq_true rfl)⟩
theorem lv_X7_154 : zz_LV RX7 154 mX7_readFlow := ⟨tm_899, tm_901, tm_18⟩
theorem ok_X7_readFlow : zz_ok mX7_readFlow 0 := ⟨tm_902, tm_133, ⟨by decide +kernel, by decide +kernel, by decide +kernel⟩, (Nat.le_of_ble_eq_true rfl)⟩
theorem lv_X7_145 : zz_LV RX7 145 mX7_readInput := ⟨tm_890, tm_892, tm_17⟩
theorem ok_X7_readInput : zz_ok mX7_readInput 1 := ⟨tm_893, tm_133, ⟨by decide +kernel, by decide +kernel, by decide +kernel⟩, (Nat.le_of_ble_eq_true rfl)⟩
theorem lv_X7_140 : zz_LV RX7 140 mX7_readHoliday := ⟨tm_885, tm_887, tm_16⟩
theorem ok_X7_readHoliday : zz_ok mX7_readHoliday 0 := ⟨tm_888, tm_133, ⟨by decide +kernel, by decide +kernel, by decide +kernel⟩, (Nat.le_of_ble_eq_true rfl)⟩
theorem ls_X7_23 : zz_LS RX7 23 mJ9_min_7cf53 := ⟨tm_714, tm_617⟩
theorem ls_X7_29 : zz_LS RX7 29 mJ9_max_7cf53 := ⟨tm_715, tm_716⟩
theorem lv_X7_41 : zz_LV RX7 41 mX6_clear := ⟨tm_718, tm_719, tm_720⟩
theorem ok_X6_clear : zz_ok mX6_clear 0 := ⟨tm_721, tm_130, ⟨by decide +kernel, by decide +kernel, by decide +kernel⟩, (Nat.le_of_ble_eq_true rfl)⟩
theorem lv_X7_49 : zz_LV RX7 49 mX7_readHead := ⟨tm_835, tm_837, tm_10⟩
theorem ok_X7_readHead : zz_ok mX7_readHead 0 := ⟨tm_838, tm_133, ⟨by decide +kernel, by decide +kernel, by decide +kernel⟩, (Nat.le_of_ble_eq_true rfl)⟩
theorem lv_X7_55 : zz_LV RX7 55 mX7_readLine := ⟨tm_880, tm_882, tm_15⟩
theorem ok_X7_readLine : zz_ok mX7_readLine 0 := ⟨tm_883, tm_133, ⟨by decide +kernel, by decide +kernel, by decide +kernel⟩, (Nat.le_of_ble_eq_true rfl)⟩
theorem fl_X11_112 : zz_FL RX11 112 11 1 (.int) false := ⟨RX11, TX11, 20, rfl, (Nat.le_of_ble_eq_true rfl), tm_638, inX11, ⟨tyX11, tyX11_ok, rfl⟩, nmX11, rfl⟩
theorem fl_X11_9 : zz_FL RX11 9 11 0 (.array .byte) true := ⟨RX11, TX11, 20, rfl, (Nat.le_of_ble_eq_true rfl), tm_637, inX11, ⟨tyX11, tyX11_ok, rfl⟩, nmX11, rfl⟩
theorem lv_X11_115 : zz_LV RX11 115 mX11_feedWord := ⟨tm_702, tm_704, tm_4⟩
theorem ok_X11_feedWord : zz_ok mX11_feedWord 1 := ⟨tm_705, tm_129, ⟨by decide +kernel, by decide +kernel, by decide +kernel⟩, (Nat.le_of_ble_eq_true rfl)⟩
theorem fl_X11_32 : zz_FL RX11 32 11 6 (.object "PillarDesk$Reader") true := ⟨RX11, TX11, 20, rfl, (Nat.le_of_ble_eq_true rfl), tm_643, inX11, ⟨tyX11, tyX11_ok, rfl⟩, nmX11, rfl⟩
theorem lv_X11_119 : zz_LV RX11 119 mX7_read := ⟨tm_710, tm_711, tm_712⟩
theorem ok_X7_read : zz_ok mX7_read 2 := ⟨tm_713, tm_133, ⟨by decide +kernel, by decide +kernel, by decide +kernel⟩, (Nat.le_of_ble_eq_true rfl)⟩
theorem fl_X11_123 : zz_FL RX11 123 7 7 (.int) false := ⟨RX7, TX7, 10, rfl, (Nat.le_of_ble_eq_true rfl), tm_339, inX7, ⟨tyX7, tyX7_ok, rfl⟩, nmX7, rfl⟩
theorem fl_X11_126 : zz_FL RX11 126 11 2 (.int) false := ⟨RX11, TX11, 20, rfl, (Nat.le_of_ble_eq_true rfl), tm_639, inX11, ⟨tyX11, tyX11_ok, rfl⟩, nmX11, rfl⟩
theorem fl_X11_129 : zz_FL RX11 129 7 8 (.int) false := ⟨RX7, TX7, 10, rfl, (Nat.le_of_ble_eq_true rfl), tm_341, inX7, ⟨tyX7, tyX7_ok, rfl⟩, nmX7, rfl⟩
theorem fl_X11_13 : zz_FL RX11 13 11 3 (.int) false := ⟨RX11, TX11, 20, rfl, (Nat.le_of_ble_eq_true rfl), tm_640, inX11, ⟨tyX11, tyX11_ok, rfl⟩, nmX11, rfl⟩
theorem fl_X11_20 : zz_FL RX11 20 11 4 (.object "PillarDesk$Plan") true := ⟨RX11, TX11, 20, rfl, (Nat.le_of_ble_eq_true rfl), tm_641, inX11, ⟨tyX11, tyX11_ok, rfl⟩, nmX11, rfl⟩
theorem fl_X11_24 : zz_FL RX11 24 11 5 (.object "PillarDesk$Plan") true := ⟨RX11, TX11, 20, rfl, (Nat.le_of_ble_eq_true rfl), tm_642, inX11, ⟨tyX11, tyX11_ok, rfl⟩, nmX11, rfl⟩
theorem lv_X11_132 : zz_LV RX11 132 mX6_copyFrom := ⟨tm_980, tm_981, tm_982⟩
theorem ok_X6_copyFrom : zz_ok mX6_copyFrom 1 := ⟨tm_983, tm_130, ⟨by decide +kernel, by decide +kernel, by decide +kernel⟩, (Nat.le_of_ble_eq_true rfl)⟩
theorem fl_X11_49 : zz_FL RX11 49 11 9 (.object "PillarDesk$Past") true := ⟨RX11, TX11, 20, rfl, (Nat.le_of_ble_eq_true rfl), tm_646, inX11, ⟨tyX11, tyX11_ok, rfl⟩, nmX11, rfl⟩
theorem lv_X11_135 : zz_LV RX11 135 mX5_clear := ⟨tm_997, tm_998, tm_999⟩
theorem ok_X5_clear : zz_ok mX5_clear 0 := ⟨tm_1000, tm_134, ⟨by decide +kernel, by decide +kernel, by decide +kernel⟩, (Nat.le_of_ble_eq_true rfl)⟩
theorem fl_X11_66 : zz_FL RX11 66 11 12 (.object "PillarDesk$Schedule") true := ⟨RX11, TX11, 20, rfl, (Nat.le_of_ble_eq_true rfl), tm_649, inX11, ⟨tyX11, tyX11_ok, rfl⟩, nmX11, rfl⟩
theorem lv_X11_109 : zz_LV RX11 109 mX8_lay := ⟨tm_578, tm_579, tm_580⟩
theorem ok_X8_lay : zz_ok mX8_lay 0 := ⟨tm_581, tm_135, ⟨by decide +kernel, by decide +kernel, by decide +kernel⟩, (Nat.le_of_ble_eq_true rfl)⟩
theorem fl_X11_104 : zz_FL RX11 104 11 18 (.boolean) false := ⟨RX11, TX11, 20, rfl, (Nat.le_of_ble_eq_true rfl), tm_655, inX11, ⟨tyX11, tyX11_ok, rfl⟩, nmX11, rfl⟩
theorem fl_X11_138 : zz_FL RX11 138 6 2 (.int) false := ⟨RX6, TX6, 14, rfl, (Nat.le_of_ble_eq_true rfl), tm_246, inX6, ⟨tyX6, tyX6_ok, rfl⟩, nmX6, rfl⟩
theorem fl_X11_75 : zz_FL RX11 75 11 13 (.object "PillarDesk$Curve") true := ⟨RX11, TX11, 20, rfl, (Nat.le_of_ble_eq_true rfl), tm_650, inX11, ⟨tyX11, tyX11_ok, rfl⟩, nmX11, rfl⟩
theorem fl_X11_160 : zz_FL RX11 160 6 13 (.object "PillarDesk$Stand") true := ⟨RX6, TX6, 14, rfl, (Nat.le_of_ble_eq_true rfl), tm_293, inX6, ⟨tyX6, tyX6_ok, rfl⟩, nmX6, rfl⟩
theorem fl_X11_224 : zz_FL RX11 224 9 2 (.int) false := ⟨RX9, TX9, 3, rfl, (Nat.le_of_ble_eq_true rfl), tm_227, inX9, ⟨tyX9, tyX9_ok, rfl⟩, nmX9, rfl⟩
theorem lv_X11_268 : zz_LV RX11 268 mX1_countRates := ⟨tm_1017, tm_1018, tm_1019⟩
theorem ok_X1_countRates : zz_ok mX1_countRates 2 := ⟨tm_1020, tm_137, ⟨by decide +kernel, by decide +kernel, by decide +kernel⟩, (Nat.le_of_ble_eq_true rfl)⟩
theorem lv_X11_272 : zz_LV RX11 272 mX1_solve := ⟨tm_1039, tm_1040, tm_1041⟩
theorem lv_X11_141 : zz_LV RX11 141 mX6_hasInput := ⟨tm_1009, tm_1010, tm_1011⟩
theorem fl_X11_145 : zz_FL RX11 145 6 6 (.array .int) true := ⟨RX6, TX6, 14, rfl, (Nat.le_of_ble_eq_true rfl), tm_263, inX6, ⟨tyX6, tyX6_ok, rfl⟩, nmX6, rfl⟩
theorem fl_X11_148 : zz_FL RX11 148 6 7 (.array .int) true := ⟨RX6, TX6, 14, rfl, (Nat.le_of_ble_eq_true rfl), tm_267, inX6, ⟨tyX6, tyX6_ok, rfl⟩, nmX6, rfl⟩
theorem fl_X11_151 : zz_FL RX11 151 6 8 (.array .int) true := ⟨RX6, TX6, 14, rfl, (Nat.le_of_ble_eq_true rfl), tm_271, inX6, ⟨tyX6, tyX6_ok, rfl⟩, nmX6, rfl⟩
theorem fl_X11_154 : zz_FL RX11 154 8 2 (.array .int) true := ⟨RX8, TX8, 11, rfl, (Nat.le_of_ble_eq_true rfl), tm_414, inX8, ⟨tyX8, tyX8_ok, rfl⟩, nmX8, rfl⟩
theorem fl_X11_157 : zz_FL RX11 157 8 3 (.array .int) true := ⟨RX8, TX8, 11, rfl, (Nat.le_of_ble_eq_true rfl), tm_417, inX8, ⟨tyX8, tyX8_ok, rfl⟩, nmX8, rfl⟩
theorem fl_X11_163 : zz_FL RX11 163 9 0 (.array .int) true := ⟨RX9, TX9, 3, rfl, (Nat.le_of_ble_eq_true rfl), tm_216, inX9, ⟨tyX9, tyX9_ok, rfl⟩, nmX9, rfl⟩
theorem lv_X11_166 : zz_LV RX11 166 mX11_solvedNow := ⟨tm_1013, tm_1015, tm_33⟩
theorem ok_X11_solvedNow : zz_ok mX11_solvedNow 0 := ⟨tm_1016, tm_129, ⟨by decide +kernel, by decide +kernel, by decide +kernel⟩, (Nat.le_of_ble_eq_true rfl)⟩
theorem fl_X11_170 : zz_FL RX11 170 1 2 (.array .int) true := ⟨RX1, TX1, 11, rfl, (Nat.le_of_ble_eq_true rfl), tm_472, inX1, ⟨tyX1, tyX1_ok, rfl⟩, nmX1, rfl⟩
theorem fl_X11_173 : zz_FL RX11 173 6 9 (.array .int) true := ⟨RX6, TX6, 14, rfl, (Nat.le_of_ble_eq_true rfl), tm_275, inX6, ⟨tyX6, tyX6_ok, rfl⟩, nmX6, rfl⟩
theorem fl_X11_176 : zz_FL RX11 176 8 6 (.array .int) true := ⟨RX8, TX8, 11, rfl, (Nat.le_of_ble_eq_true rfl), tm_425, inX8, ⟨tyX8, tyX8_ok, rfl⟩, nmX8, rfl⟩
theorem lv_X11_179 : zz_LV RX11 179 mX6_hasFlow := ⟨tm_1113, tm_1114, tm_1115⟩
theorem kc_X11_182 : Cond.constantLong RX11 182 (-9000000000000000002 : Int64) ∈ zz_tbl := tm_1117
theorem fl_X11_187 : zz_FL RX11 187 9 1 (.array .int) true := ⟨RX9, TX9, 3, rfl, (Nat.le_of_ble_eq_true rfl), tm_221, inX9, ⟨tyX9, tyX9_ok, rfl⟩, nmX9, rfl⟩
theorem fl_X11_184 : zz_FL RX11 184 6 11 (.array .int) true := ⟨RX6, TX6, 14, rfl, (Nat.le_of_ble_eq_true rfl), tm_284, inX6, ⟨tyX6, tyX6_ok, rfl⟩, nmX6, rfl⟩
theorem fl_X11_190 : zz_FL RX11 190 8 1 (.object "PillarDesk$Calendar") true := ⟨RX8, TX8, 11, rfl, (Nat.le_of_ble_eq_true rfl), tm_410, inX8, ⟨tyX8, tyX8_ok, rfl⟩, nmX8, rfl⟩
theorem lv_X11_194 : zz_LV RX11 194 mX0_isOpen := ⟨tm_1122, tm_594, tm_595⟩
theorem lv_X11_199 : zz_LV RX11 199 mX0_putOff := ⟨tm_1127, tm_590, tm_591⟩
theorem fl_X11_203 : zz_FL RX11 203 8 4 (.array .int) true := ⟨RX8, TX8, 11, rfl, (Nat.le_of_ble_eq_true rfl), tm_422, inX8, ⟨tyX8, tyX8_ok, rfl⟩, nmX8, rfl⟩
theorem lv_X11_206 : zz_LV RX11 206 mX8_periodEnd := ⟨tm_1140, tm_1056, tm_1057⟩
theorem fl_X11_56 : zz_FL RX11 56 11 10 (.object "PillarDesk$Stand") true := ⟨RX11, TX11, 20, rfl, (Nat.le_of_ble_eq_true rfl), tm_647, inX11, ⟨tyX11, tyX11_ok, rfl⟩, nmX11, rfl⟩
theorem lv_X11_230 : zz_LV RX11 230 mX5_push := ⟨tm_1155, tm_1156, tm_1157⟩
theorem ok_X5_push : zz_ok mX5_push 1 := ⟨tm_1158, tm_134, ⟨by decide +kernel, by decide +kernel, by decide +kernel⟩, (Nat.le_of_ble_eq_true rfl)⟩
theorem lv_X11_210 : zz_LV RX11 210 mX9_copyFrom := ⟨tm_1145, tm_993, tm_994⟩
theorem lv_X11_213 : zz_LV RX11 213 mX6_doBump := ⟨tm_1146, tm_1147, tm_1148⟩
theorem lv_X11_217 : zz_LV RX11 217 mX11_remember := ⟨tm_1151, tm_1153, tm_42⟩
theorem ok_X11_remember : zz_ok mX11_remember 1 := ⟨tm_1154, tm_129, ⟨by decide +kernel, by decide +kernel, by decide +kernel⟩, (Nat.le_of_ble_eq_true rfl)⟩
theorem lv_X11_220 : zz_LV RX11 220 mX6_doShift := ⟨tm_1165, tm_1166, tm_1167⟩
theorem lv_X11_227 : zz_LV RX11 227 mX6_doAmount := ⟨tm_1173, tm_1174, tm_1175⟩
theorem fl_X11_233 : zz_FL RX11 233 5 2 (.int) false := ⟨RX5, TX5, 3, rfl, (Nat.le_of_ble_eq_true rfl), tm_379, inX5, ⟨tyX5, tyX5_ok, rfl⟩, nmX5, rfl⟩
theorem lv_X11_236 : zz_LV RX11 236 mX5_back := ⟨tm_1182, tm_1183, tm_1184⟩
theorem ok_X5_back : zz_ok mX5_back 2 := ⟨tm_1185, tm_134, ⟨by decide +kernel, by decide +kernel, by decide +kernel⟩, (Nat.le_of_ble_eq_true rfl)⟩
theorem fl_X11_251 : zz_FL RX11 251 10 2 (.int) false := ⟨RX10, TX10, 3, rfl, (Nat.le_of_ble_eq_true rfl), tm_570, inX10, ⟨tyX10, tyX10_ok, rfl⟩, nmX10, rfl⟩
theorem fl_X11_252 : zz_FL RX11 252 10 0 (.array .long) true := ⟨RX10, TX10, 3, rfl, (Nat.le_of_ble_eq_true rfl), tm_567, inX10, ⟨tyX10, tyX10_ok, rfl⟩, nmX10, rfl⟩
theorem lv_X11_256 : zz_LV RX11 256 mX6_doDeed := ⟨tm_1204, tm_1205, tm_1206⟩
theorem ok_X6_doDeed : zz_ok mX6_doDeed 2 := ⟨tm_1207, tm_130, ⟨by decide +kernel, by decide +kernel, by decide +kernel⟩, (Nat.le_of_ble_eq_true rfl)⟩
theorem fl_X11_79 : zz_FL RX11 79 11 14 (.object "PillarDesk$Curve") true := ⟨RX11, TX11, 20, rfl, (Nat.le_of_ble_eq_true rfl), tm_651, inX11, ⟨tyX11, tyX11_ok, rfl⟩, nmX11, rfl⟩
theorem fl_X11_60 : zz_FL RX11 60 11 11 (.object "PillarDesk$Stand") true := ⟨RX11, TX11, 20, rfl, (Nat.le_of_ble_eq_true rfl), tm_648, inX11, ⟨tyX11, tyX11_ok, rfl⟩, nmX11, rfl⟩
theorem lv_X11_275 : zz_LV RX11 275 mX1_lastFactor := ⟨tm_1225, tm_1226, tm_1227⟩
theorem ok_X1_lastFactor : zz_ok mX1_lastFactor 0 := ⟨tm_1228, tm_137, ⟨by decide +kernel, by decide +kernel, by decide +kernel⟩, (Nat.le_of_ble_eq_true rfl)⟩
theorem lv_X11_240 : zz_LV RX11 240 mX11_noTray := ⟨tm_1192, tm_1194, tm_43⟩
theorem ok_X11_noTray : zz_ok mX11_noTray 1 := ⟨tm_1195, tm_129, ⟨by decide +kernel, by decide +kernel, by decide +kernel⟩, (Nat.le_of_ble_eq_true rfl)⟩
theorem lv_X11_243 : zz_LV RX11 243 mX10_isMissing := ⟨tm_1196, tm_1197, tm_1198⟩
theorem ok_X10_isMissing : zz_ok mX10_isMissing 0 := ⟨tm_1199, tm_140, ⟨by decide +kernel, by decide +kernel, by decide +kernel⟩, (Nat.le_of_ble_eq_true rfl)⟩
theorem lv_X11_247 : zz_LV RX11 247 mX11_doAll := ⟨tm_1200, tm_1202, tm_44⟩
theorem ok_X11_doAll : zz_ok mX11_doAll 2 := ⟨tm_1203, tm_129, ⟨by decide +kernel, by decide +kernel, by decide +kernel⟩, (Nat.le_of_ble_eq_true rfl)⟩
theorem lv_X11_260 : zz_LV RX11 260 mX6_rateSum := ⟨tm_1217, tm_1218, tm_1219⟩
theorem ok_X6_rateSum : zz_ok mX6_rateSum 1 := ⟨tm_1220, tm_130, ⟨by decide +kernel, by decide +kernel, by decide +kernel⟩, (Nat.le_of_ble_eq_true rfl)⟩
theorem lv_X11_264 : zz_LV RX11 264 mX11_lastFactorTried := ⟨tm_1221, tm_1223, tm_45⟩
theorem ok_X11_lastFactorTried : zz_ok mX11_lastFactorTried 0 := ⟨tm_1224, tm_129, ⟨by decide +kernel, by decide +kernel, by decide +kernel⟩, (Nat.le_of_ble_eq_true rfl)⟩
theorem kc_X11_284 : Cond.constant RX11 284 (1103515245 : Int32) ∈ zz_tbl := tm_1245
theorem fl_X11_278 : zz_FL RX11 278 11 19 (.int) false := ⟨RX11, TX11, 20, rfl, (Nat.le_of_ble_eq_true rfl), tm_656, inX11, ⟨tyX11, tyX11_ok, rfl⟩, nmX11, rfl⟩
theorem lv_X11_285 : zz_LV RX11 285 mX11_drawn := ⟨tm_1241, tm_1243, tm_47⟩
theorem ok_X11_drawn : zz_ok mX11_drawn 0 := ⟨tm_1244, tm_129, ⟨by decide +kernel, by decide +kernel, by decide +kernel⟩, (Nat.le_of_ble_eq_true rfl)⟩
theorem lv_X11_281 : zz_LV RX11 281 mX11_drawnDeed := ⟨tm_1237, tm_1239, tm_46⟩
theorem ok_X11_drawnDeed : zz_ok mX11_drawnDeed 0 := ⟨tm_1240, tm_129, ⟨by decide +kernel, by decide +kernel, by decide +kernel⟩, (Nat.le_of_ble_eq_true rfl)⟩
theorem lv_X11_288 : zz_LV RX11 288 mX1_copyFrom := ⟨tm_1291, tm_1292, tm_1293⟩
theorem ls_X11_291 : zz_LS RX11 291 mX11_inRateBounds := ⟨tm_1296, tm_1035⟩
theorem fl_X11_302 : zz_FL RX11 302 8 8 (.int) false := ⟨RX8, TX8, 11, rfl, (Nat.le_of_ble_eq_true rfl), tm_430, inX8, ⟨tyX8, tyX8_ok, rfl⟩, nmX8, rfl⟩
theorem lv_X11_305 : zz_LV RX11 305 mX8_hasPillar := ⟨tm_1254, tm_1255, tm_1256⟩
theorem ok_X8_hasPillar : zz_ok mX8_hasPillar 1 := ⟨tm_1257, tm_135, ⟨by decide +kernel, by decide +kernel, by decide +kernel⟩, (Nat.le_of_ble_eq_true rfl)⟩
theorem fl_X11_308 : zz_FL RX11 308 8 9 (.array .int) true := ⟨RX8, TX8, 11, rfl, (Nat.le_of_ble_eq_true rfl), tm_433, inX8, ⟨tyX8, tyX8_ok, rfl⟩, nmX8, rfl⟩
theorem fl_X11_311 : zz_FL RX11 311 1 3 (.array .int) true := ⟨RX1, TX1, 11, rfl, (Nat.le_of_ble_eq_true rfl), tm_474, inX1, ⟨tyX1, tyX1_ok, rfl⟩, nmX1, rfl⟩
theorem fl_X11_314 : zz_FL RX11 314 8 10 (.array .int) true := ⟨RX8, TX8, 11, rfl, (Nat.le_of_ble_eq_true rfl), tm_437, inX8, ⟨tyX8, tyX8_ok, rfl⟩, nmX8, rfl⟩
theorem lv_X11_317 : zz_LV RX11 317 mX1_factorAt := ⟨tm_1262, tm_1065, tm_1066⟩
theorem lv_X11_320 : zz_LV RX11 320 mX1_rateBetween := ⟨tm_1267, tm_1268, tm_1269⟩
theorem ok_X1_rateBetween : zz_ok mX1_rateBetween 2 := ⟨tm_1270, tm_137, ⟨by decide +kernel, by decide +kernel, by decide +kernel⟩, (Nat.le_of_ble_eq_true rfl)⟩
theorem lv_X11_323 : zz_LV RX11 323 mX1_swapRate := ⟨tm_1275, tm_1276, tm_1277⟩
theorem ok_X1_swapRate : zz_ok mX1_swapRate 1 := ⟨tm_1278, tm_137, ⟨by decide +kernel, by decide +kernel, by decide +kernel⟩, (Nat.le_of_ble_eq_true rfl)⟩
theorem lv_X11_326 : zz_LV RX11 326 mX11_bumpedTrial := ⟨tm_1287, tm_1289, tm_48⟩
theorem ok_X11_bumpedTrial : zz_ok mX11_bumpedTrial 2 := ⟨tm_1290, tm_129, ⟨by decide +kernel, by decide +kernel, by decide +kernel⟩, (Nat.le_of_ble_eq_true rfl)⟩
theorem lv_X11_330 : zz_LV RX11 330 mX1_bookWorth := ⟨tm_1305, tm_1306, tm_1307⟩
theorem kc_X11_334 : Cond.constantLong RX11 334 (-9000000000000000003 : Int64) ∈ zz_tbl := tm_1317
theorem kc_X11_336 : Cond.constantLong RX11 336 (-1 : Int64) ∈ zz_tbl := tm_1322
theorem fl_X11_338 : zz_FL RX11 338 6 5 (.int) false := ⟨RX6, TX6, 14, rfl, (Nat.le_of_ble_eq_true rfl), tm_258, inX6, ⟨tyX6, tyX6_ok, rfl⟩, nmX6, rfl⟩
theorem ls_X11_341 : zz_LS RX11 341 mJ9_abs_067f4 := ⟨tm_1323, tm_1324⟩
theorem fl_X11_87 : zz_FL RX11 87 11 15 (.object "PillarDesk$Hedge") true := ⟨RX11, TX11, 20, rfl, (Nat.le_of_ble_eq_true rfl), tm_652, inX11, ⟨tyX11, tyX11_ok, rfl⟩, nmX11, rfl⟩
theorem lv_X11_345 : zz_LV RX11 345 mX2_bookHang := ⟨tm_1334, tm_1335, tm_1336⟩
theorem lv_X11_349 : zz_LV RX11 349 mX2_flatten := ⟨tm_1347, tm_1348, tm_1349⟩
theorem ok_X2_flatten : zz_ok mX2_flatten 0 := ⟨tm_1350, tm_138, ⟨by decide +kernel, by decide +kernel, by decide +kernel⟩, (Nat.le_of_ble_eq_true rfl)⟩
theorem fl_X11_352 : zz_FL RX11 352 2 3 (.array .long) true := ⟨RX2, TX2, 5, rfl, (Nat.le_of_ble_eq_true rfl), tm_516, inX2, ⟨tyX2, tyX2_ok, rfl⟩, nmX2, rfl⟩
theorem fl_X11_355 : zz_FL RX11 355 2 4 (.array .long) true := ⟨RX2, TX2, 5, rfl, (Nat.le_of_ble_eq_true rfl), tm_518, inX2, ⟨tyX2, tyX2_ok, rfl⟩, nmX2, rfl⟩
theorem kc_X11_365 : Cond.constantLong RX11 365 (999999999999 : Int64) ∈ zz_tbl := tm_1383
theorem kc_X11_371 : Cond.constantLong RX11 371 (100000000 : Int64) ∈ zz_tbl := tm_1392
theorem fl_X11_100 : zz_FL RX11 100 11 17 (.array .int) true := ⟨RX11, TX11, 20, rfl, (Nat.le_of_ble_eq_true rfl), tm_654, inX11, ⟨tyX11, tyX11_ok, rfl⟩, nmX11, rfl⟩
theorem lv_X11_367 : zz_LV RX11 367 mX11_trialIsTold := ⟨tm_1388, tm_1390, tm_54⟩
theorem ok_X11_trialIsTold : zz_ok mX11_trialIsTold 1 := ⟨tm_1391, tm_129, ⟨by decide +kernel, by decide +kernel, by decide +kernel⟩, (Nat.le_of_ble_eq_true rfl)⟩
theorem lv_X11_358 : zz_LV RX11 358 mX11_toldRefusal := ⟨tm_1379, tm_1381, tm_52⟩
theorem ok_X11_toldRefusal : zz_ok mX11_toldRefusal 1 := ⟨tm_1382, tm_129, ⟨by decide +kernel, by decide +kernel, by decide +kernel⟩, (Nat.le_of_ble_eq_true rfl)⟩
theorem lv_X11_361 : zz_LV RX11 361 mX11_shiftsTold := ⟨tm_1384, tm_1386, tm_53⟩
theorem ok_X11_shiftsTold : zz_ok mX11_shiftsTold 1 := ⟨tm_1387, tm_129, ⟨by decide +kernel, by decide +kernel, by decide +kernel⟩, (Nat.le_of_ble_eq_true rfl)⟩
theorem lv_X11_373 : zz_LV RX11 373 mX11_mostAlike := ⟨tm_1397, tm_1399, tm_55⟩
theorem ok_X11_mostAlike : zz_ok mX11_mostAlike 2 := ⟨tm_1400, tm_129, ⟨by decide +kernel, by decide +kernel, by decide +kernel⟩, (Nat.le_of_ble_eq_true rfl)⟩
theorem kc_X11_376 : Cond.constantLong RX11 376 (-1000000 : Int64) ∈ zz_tbl := tm_1405
theorem kc_X11_378 : Cond.constantLong RX11 378 (1000000 : Int64) ∈ zz_tbl := tm_1406
theorem fl_X11_96 : zz_FL RX11 96 11 16 (.object "PillarDesk$Odds") true := ⟨RX11, TX11, 20, rfl, (Nat.le_of_ble_eq_true rfl), tm_653, inX11, ⟨tyX11, tyX11_ok, rfl⟩, nmX11, rfl⟩
theorem kc_X11_380 : Cond.constantLong RX11 380 (1000000000 : Int64) ∈ zz_tbl := tm_1407
theorem lv_X11_382 : zz_LV RX11 382 mX4_tally := ⟨tm_1408, tm_1409, tm_1410⟩
theorem ok_X4_tally : zz_ok mX4_tally 3 := ⟨tm_1411, tm_139, ⟨by decide +kernel, by decide +kernel, by decide +kernel⟩, (Nat.le_of_ble_eq_true rfl)⟩
theorem fl_X11_386 : zz_FL RX11 386 4 4 (.long) false := ⟨RX4, TX4, 7, rfl, (Nat.le_of_ble_eq_true rfl), tm_541, inX4, ⟨tyX4, tyX4_ok, rfl⟩, nmX4, rfl⟩
theorem fl_X11_390 : zz_FL RX11 390 4 5 (.long) false := ⟨RX4, TX4, 7, rfl, (Nat.le_of_ble_eq_true rfl), tm_543, inX4, ⟨tyX4, tyX4_ok, rfl⟩, nmX4, rfl⟩
theorem ls_X11_393 : zz_LS RX11 393 mX4_inLowestTerms := ⟨tm_1431, tm_1432⟩
theorem ok_X4_inLowestTerms : zz_ok mX4_inLowestTerms 3 := ⟨tm_1433, tm_139, ⟨by decide +kernel, by decide +kernel, by decide +kernel⟩, (Nat.le_of_ble_eq_true rfl)⟩
theorem fl_X11_397 : zz_FL RX11 397 4 6 (.long) false := ⟨RX4, TX4, 7, rfl, (Nat.le_of_ble_eq_true rfl), tm_545, inX4, ⟨tyX4, tyX4_ok, rfl⟩, nmX4, rfl⟩
theorem lv_X11_400 : zz_LV RX11 400 mX10_renew := ⟨tm_1443, tm_1444, tm_1445⟩
theorem ok_X10_renew : zz_ok mX10_renew 2 := ⟨tm_1446, tm_140, ⟨by decide +kernel, by decide +kernel, by decide +kernel⟩, (Nat.le_of_ble_eq_true rfl)⟩
theorem kc_X11_408 : Cond.constantLong RX11 408 (-7 : Int64) ∈ zz_tbl := tm_1456
theorem lv_X11_410 : zz_LV RX11 410 mX10_put := ⟨tm_1457, tm_1458, tm_1459⟩
theorem ok_X10_put : zz_ok mX10_put 2 := ⟨tm_1460, tm_140, ⟨by decide +kernel, by decide +kernel, by decide +kernel⟩, (Nat.le_of_ble_eq_true rfl)⟩
theorem kc_X11_406 : Cond.constantLong RX11 406 (-6 : Int64) ∈ zz_tbl := tm_1455
theorem kc_X11_404 : Cond.constantLong RX11 404 (-2 : Int64) ∈ zz_tbl := tm_1454
theorem fl_X11_414 : zz_FL RX11 414 6 10 (.int) false := ⟨RX6, TX6, 14, rfl, (Nat.le_of_ble_eq_true rfl), tm_281, inX6, ⟨tyX6, tyX6_ok, rfl⟩, nmX6, rfl⟩
theorem fl_X11_417 : zz_FL RX11 417 6 3 (.int) false := ⟨RX6, TX6, 14, rfl, (Nat.le_of_ble_eq_true rfl), tm_250, inX6, ⟨tyX6, tyX6_ok, rfl⟩, nmX6, rfl⟩
theorem fl_X11_420 : zz_FL RX11 420 6 0 (.int) false := ⟨RX6, TX6, 14, rfl, (Nat.le_of_ble_eq_true rfl), tm_239, inX6, ⟨tyX6, tyX6_ok, rfl⟩, nmX6, rfl⟩
theorem fl_X11_423 : zz_FL RX11 423 6 1 (.int) false := ⟨RX6, TX6, 14, rfl, (Nat.le_of_ble_eq_true rfl), tm_244, inX6, ⟨tyX6, tyX6_ok, rfl⟩, nmX6, rfl⟩
theorem fl_X12_1 : zz_FL RX12 1 12 0 (.int) false := ⟨RX12, TX12, 42, rfl, (Nat.le_of_ble_eq_true rfl), tm_1511, inX12, ⟨tyX12, tyX12_ok, rfl⟩, nmX12, rfl⟩
theorem fl_X12_101 : zz_FL RX12 101 12 5 (.int) false := ⟨RX12, TX12, 42, rfl, (Nat.le_of_ble_eq_true rfl), tm_1516, inX12, ⟨tyX12, tyX12_ok, rfl⟩, nmX12, rfl⟩
theorem fl_X12_21 : zz_FL RX12 21 12 3 (.array .int) true := ⟨RX12, TX12, 42, rfl, (Nat.le_of_ble_eq_true rfl), tm_1514, inX12, ⟨tyX12, tyX12_ok, rfl⟩, nmX12, rfl⟩
theorem fl_X12_104 : zz_FL RX12 104 12 8 (.int) false := ⟨RX12, TX12, 42, rfl, (Nat.le_of_ble_eq_true rfl), tm_1519, inX12, ⟨tyX12, tyX12_ok, rfl⟩, nmX12, rfl⟩
theorem lv_X12_109 : zz_LV RX12 109 mJ0_length_8abf5 := ⟨tm_1666, tm_768, tm_769⟩
theorem lv_X12_115 : zz_LV RX12 115 mJ0_charAt_5068e := ⟨tm_1667, tm_850, tm_851⟩
theorem fl_X12_119 : zz_FL RX12 119 12 6 (.int) false := ⟨RX12, TX12, 42, rfl, (Nat.le_of_ble_eq_true rfl), tm_1517, inX12, ⟨tyX12, tyX12_ok, rfl⟩, nmX12, rfl⟩
theorem fl_X12_122 : zz_FL RX12 122 12 7 (.int) false := ⟨RX12, TX12, 42, rfl, (Nat.le_of_ble_eq_true rfl), tm_1518, inX12, ⟨tyX12, tyX12_ok, rfl⟩, nmX12, rfl⟩
theorem lv_X12_125 : zz_LV RX12 125 mX12_see := ⟨tm_1654, tm_1656, tm_65⟩
theorem ok_X12_see : zz_ok mX12_see 1 := ⟨tm_1657, tm_143, ⟨by decide +kernel, by decide +kernel, by decide +kernel⟩, (Nat.le_of_ble_eq_true rfl)⟩
theorem ls_X12_132 : zz_LS RX12 132 mX12_isSmall := ⟨tm_1658, tm_1659⟩
theorem ok_X12_isSmall : zz_ok mX12_isSmall 1 := ⟨tm_1660, tm_143, ⟨by decide +kernel, by decide +kernel, by decide +kernel⟩, (Nat.le_of_ble_eq_true rfl)⟩
theorem ls_X12_139 : zz_LS RX12 139 mX12_isDigit := ⟨tm_1668, tm_1669⟩
theorem ok_X12_isDigit : zz_ok mX12_isDigit 1 := ⟨tm_1670, tm_143, ⟨by decide +kernel, by decide +kernel, by decide +kernel⟩, (Nat.le_of_ble_eq_true rfl)⟩
theorem fl_X12_129 : zz_FL RX12 129 12 9 (.int) false := ⟨RX12, TX12, 42, rfl, (Nat.le_of_ble_eq_true rfl), tm_1520, inX12, ⟨tyX12, tyX12_ok, rfl⟩, nmX12, rfl⟩
theorem fl_X12_142 : zz_FL RX12 142 12 10 (.int) false := ⟨RX12, TX12, 42, rfl, (Nat.le_of_ble_eq_true rfl), tm_1521, inX12, ⟨tyX12, tyX12_ok, rfl⟩, nmX12, rfl⟩
theorem lv_X12_136 : zz_LV RX12 136 mX12_keyAt := ⟨tm_1661, tm_1663, tm_66⟩
theorem ok_X12_keyAt : zz_ok mX12_keyAt 0 := ⟨tm_1664, tm_143, ⟨by decide +kernel, by decide +kernel, by decide +kernel⟩, (Nat.le_of_ble_eq_true rfl)⟩
theorem fl_X12_147 : zz_FL RX12 147 12 11 (.int) false := ⟨RX12, TX12, 42, rfl, (Nat.le_of_ble_eq_true rfl), tm_1522, inX12, ⟨tyX12, tyX12_ok, rfl⟩, nmX12, rfl⟩
theorem fl_X12_150 : zz_FL RX12 150 12 12 (.int) false := ⟨RX12, TX12, 42, rfl, (Nat.le_of_ble_eq_true rfl), tm_1523, inX12, ⟨tyX12, tyX12_ok, rfl⟩, nmX12, rfl⟩
theorem lv_X12_153 : zz_LV RX12 153 mX12_is := ⟨tm_1676, tm_1678, tm_68⟩
theorem ok_X12_is : zz_ok mX12_is 1 := ⟨tm_1679, tm_143, ⟨by decide +kernel, by decide +kernel, by decide +kernel⟩, (Nat.le_of_ble_eq_true rfl)⟩
theorem lv_X12_156 : zz_LV RX12 156 mX12_next := ⟨tm_1650, tm_1652, tm_64⟩
theorem ok_X12_next : zz_ok mX12_next 0 := ⟨tm_1653, tm_143, ⟨by decide +kernel, by decide +kernel, by decide +kernel⟩, (Nat.le_of_ble_eq_true rfl)⟩
theorem ls_X12_163 : zz_LS RX12 163 mX12_within := ⟨tm_1647, tm_1648⟩
theorem ok_X12_within : zz_ok mX12_within 3 := ⟨tm_1649, tm_143, ⟨by decide +kernel, by decide +kernel, by decide +kernel⟩, (Nat.le_of_ble_eq_true rfl)⟩
theorem lv_X12_159 : zz_LV RX12 159 mX12_fails := ⟨tm_1680, tm_1682, tm_69⟩
theorem ok_X12_fails : zz_ok mX12_fails 1 := ⟨tm_1683, tm_143, ⟨by decide +kernel, by decide +kernel, by decide +kernel⟩, (Nat.le_of_ble_eq_true rfl)⟩
theorem fl_X12_167 : zz_FL RX12 167 12 15 (.int) false := ⟨RX12, TX12, 42, rfl, (Nat.le_of_ble_eq_true rfl), tm_1526, inX12, ⟨tyX12, tyX12_ok, rfl⟩, nmX12, rfl⟩
theorem fl_X12_24 : zz_FL RX12 24 12 4 (.array .int) true := ⟨RX12, TX12, 42, rfl, (Nat.le_of_ble_eq_true rfl), tm_1515, inX12, ⟨tyX12, tyX12_ok, rfl⟩, nmX12, rfl⟩
theorem lv_X12_194 : zz_LV RX12 194 mX12_readTerm := ⟨tm_1720, tm_1722, tm_79⟩
theorem ok_X12_readTerm : zz_ok mX12_readTerm 1 := ⟨tm_1723, tm_143, ⟨by decide +kernel, by decide +kernel, by decide +kernel⟩, (Nat.le_of_ble_eq_true rfl)⟩
theorem lv_X12_170 : zz_LV RX12 170 mX12_codes := ⟨tm_1728, tm_1730, tm_81⟩
theorem ok_X12_codes : zz_ok mX12_codes 1 := ⟨tm_1731, tm_143, ⟨by decide +kernel, by decide +kernel, by decide +kernel⟩, (Nat.le_of_ble_eq_true rfl)⟩
theorem lv_X12_191 : zz_LV RX12 191 mX12_readAtom := ⟨tm_1724, tm_1726, tm_80⟩
theorem ok_X12_readAtom : zz_ok mX12_readAtom 1 := ⟨tm_1727, tm_143, ⟨by decide +kernel, by decide +kernel, by decide +kernel⟩, (Nat.le_of_ble_eq_true rfl)⟩
theorem lv_X12_182 : zz_LV RX12 182 mX12_eats := ⟨tm_1672, tm_1674, tm_67⟩
theorem ok_X12_eats : zz_ok mX12_eats 1 := ⟨tm_1675, tm_143, ⟨by decide +kernel, by decide +kernel, by decide +kernel⟩, (Nat.le_of_ble_eq_true rfl)⟩
theorem lv_X12_173 : zz_LV RX12 173 mX12_wordOf := ⟨tm_1732, tm_1734, tm_82⟩
theorem ok_X12_wordOf : zz_ok mX12_wordOf 1 := ⟨tm_1735, tm_143, ⟨by decide +kernel, by decide +kernel, by decide +kernel⟩, (Nat.le_of_ble_eq_true rfl)⟩
theorem lv_X12_185 : zz_LV RX12 185 mX12_readIf := ⟨tm_1740, tm_1742, tm_84⟩
theorem ok_X12_readIf : zz_ok mX12_readIf 1 := ⟨tm_1743, tm_143, ⟨by decide +kernel, by decide +kernel, by decide +kernel⟩, (Nat.le_of_ble_eq_true rfl)⟩
theorem lv_X12_176 : zz_LV RX12 176 mX12_goesIn := ⟨tm_1736, tm_1738, tm_83⟩
theorem ok_X12_goesIn : zz_ok mX12_goesIn 1 := ⟨tm_1739, tm_143, ⟨by decide +kernel, by decide +kernel, by decide +kernel⟩, (Nat.le_of_ble_eq_true rfl)⟩
theorem lv_X12_179 : zz_LV RX12 179 mX12_readSum := ⟨tm_1716, tm_1718, tm_78⟩
theorem ok_X12_readSum : zz_ok mX12_readSum 1 := ⟨tm_1719, tm_143, ⟨by decide +kernel, by decide +kernel, by decide +kernel⟩, (Nat.le_of_ble_eq_true rfl)⟩
theorem lv_X12_188 : zz_LV RX12 188 mX12_readTruth := ⟨tm_1744, tm_1746, tm_85⟩
theorem ok_X12_readTruth : zz_ok mX12_readTruth 1 := ⟨tm_1747, tm_143, ⟨by decide +kernel, by decide +kernel, by decide +kernel⟩, (Nat.le_of_ble_eq_true rfl)⟩
theorem lv_X12_200 : zz_LV RX12 200 mX12_readBoth := ⟨tm_1748, tm_1750, tm_86⟩
theorem ok_X12_readBoth : zz_ok mX12_readBoth 1 := ⟨tm_1751, tm_143, ⟨by decide +kernel, by decide +kernel, by decide +kernel⟩, (Nat.le_of_ble_eq_true rfl)⟩
theorem lv_X12_197 : zz_LV RX12 197 mX12_readUnit := ⟨tm_1752, tm_1754, tm_87⟩
theorem ok_X12_readUnit : zz_ok mX12_readUnit 1 := ⟨tm_1755, tm_143, ⟨by decide +kernel, by decide +kernel, by decide +kernel⟩, (Nat.le_of_ble_eq_true rfl)⟩
theorem lv_X12_203 : zz_LV RX12 203 mX12_takes := ⟨tm_1688, tm_1690, tm_71⟩
theorem ok_X12_takes : zz_ok mX12_takes 2 := ⟨tm_1691, tm_143, ⟨by decide +kernel, by decide +kernel, by decide +kernel⟩, (Nat.le_of_ble_eq_true rfl)⟩
theorem lv_X12_207 : zz_LV RX12 207 mX12_named := ⟨tm_1684, tm_1686, tm_70⟩
theorem ok_X12_named : zz_ok mX12_named 3 := ⟨tm_1687, tm_143, ⟨by decide +kernel, by decide +kernel, by decide +kernel⟩, (Nat.le_of_ble_eq_true rfl)⟩
theorem lv_X12_217 : zz_LV RX12 217 mX12_readFlow := ⟨tm_1708, tm_1710, tm_76⟩
theorem ok_X12_readFlow : zz_ok mX12_readFlow 0 := ⟨tm_1711, tm_143, ⟨by decide +kernel, by decide +kernel, by decide +kernel⟩, (Nat.le_of_ble_eq_true rfl)⟩
theorem lv_X12_211 : zz_LV RX12 211 mX12_readHoliday := ⟨tm_1700, tm_1702, tm_74⟩
theorem ok_X12_readHoliday : zz_ok mX12_readHoliday 0 := ⟨tm_1703, tm_143, ⟨by decide +kernel, by decide +kernel, by decide +kernel⟩, (Nat.le_of_ble_eq_true rfl)⟩
theorem lv_X12_220 : zz_LV RX12 220 mX12_readLaw := ⟨tm_1712, tm_1714, tm_77⟩
theorem ok_X12_readLaw : zz_ok mX12_readLaw 1 := ⟨tm_1715, tm_143, ⟨by decide +kernel, by decide +kernel, by decide +kernel⟩, (Nat.le_of_ble_eq_true rfl)⟩
theorem lv_X12_214 : zz_LV RX12 214 mX12_readInput := ⟨tm_1704, tm_1706, tm_75⟩
theorem ok_X12_readInput : zz_ok mX12_readInput 0 := ⟨tm_1707, tm_143, ⟨by decide +kernel, by decide +kernel, by decide +kernel⟩, (Nat.le_of_ble_eq_true rfl)⟩
theorem kc_X12_232 : Cond.constantLong RX12 232 (1000000 : Int64) ∈ zz_tbl := tm_1505
theorem kc_X12_234 : Cond.constantLong RX12 234 (-1000000 : Int64) ∈ zz_tbl := tm_1506
theorem fl_X12_13 : zz_FL RX12 13 12 1 (.array .int) true := ⟨RX12, TX12, 42, rfl, (Nat.le_of_ble_eq_true rfl), tm_1512, inX12, ⟨tyX12, tyX12_ok, rfl⟩, nmX12, rfl⟩
theorem fl_X12_30 : zz_FL RX12 30 12 16 (.array .int) true := ⟨RX12, TX12, 42, rfl, (Nat.le_of_ble_eq_true rfl), tm_1527, inX12, ⟨tyX12, tyX12_ok, rfl⟩, nmX12, rfl⟩
theorem ls_X12_236 : zz_LS RX12 236 mX12_between := ⟨tm_1502, tm_1503⟩
theorem ok_X12_between : zz_ok mX12_between 3 := ⟨tm_1504, tm_143, ⟨by decide +kernel, by decide +kernel, by decide +kernel⟩, (Nat.le_of_ble_eq_true rfl)⟩
theorem fl_X12_33 : zz_FL RX12 33 12 17 (.array .int) true := ⟨RX12, TX12, 42, rfl, (Nat.le_of_ble_eq_true rfl), tm_1528, inX12, ⟨tyX12, tyX12_ok, rfl⟩, nmX12, rfl⟩
theorem lv_X12_239 : zz_LV RX12 239 mX12_reckons := ⟨tm_1498, tm_1500, tm_62⟩
theorem ok_X12_reckons : zz_ok mX12_reckons 1 := ⟨tm_1501, tm_143, ⟨by decide +kernel, by decide +kernel, by decide +kernel⟩, (Nat.le_of_ble_eq_true rfl)⟩
theorem lv_X12_242 : zz_LV RX12 242 mX12_isOpen := ⟨tm_1494, tm_1496, tm_61⟩
theorem ok_X12_isOpen : zz_ok mX12_isOpen 1 := ⟨tm_1497, tm_143, ⟨by decide +kernel, by decide +kernel, by decide +kernel⟩, (Nat.le_of_ble_eq_true rfl)⟩
theorem fl_X12_45 : zz_FL RX12 45 12 21 (.array .int) true := ⟨RX12, TX12, 42, rfl, (Nat.le_of_ble_eq_true rfl), tm_1532, inX12, ⟨tyX12, tyX12_ok, rfl⟩, nmX12, rfl⟩
theorem fl_X12_48 : zz_FL RX12 48 12 22 (.array .int) true := ⟨RX12, TX12, 42, rfl, (Nat.le_of_ble_eq_true rfl), tm_1533, inX12, ⟨tyX12, tyX12_ok, rfl⟩, nmX12, rfl⟩
theorem lv_X12_245 : zz_LV RX12 245 mX12_offOf := ⟨tm_1490, tm_1492, tm_60⟩
theorem ok_X12_offOf : zz_ok mX12_offOf 1 := ⟨tm_1493, tm_143, ⟨by decide +kernel, by decide +kernel, by decide +kernel⟩, (Nat.le_of_ble_eq_true rfl)⟩
theorem fl_X12_36 : zz_FL RX12 36 12 18 (.array .int) true := ⟨RX12, TX12, 42, rfl, (Nat.le_of_ble_eq_true rfl), tm_1529, inX12, ⟨tyX12, tyX12_ok, rfl⟩, nmX12, rfl⟩
theorem fl_X12_39 : zz_FL RX12 39 12 19 (.array .int) true := ⟨RX12, TX12, 42, rfl, (Nat.le_of_ble_eq_true rfl), tm_1530, inX12, ⟨tyX12, tyX12_ok, rfl⟩, nmX12, rfl⟩
theorem lv_X12_248 : zz_LV RX12 248 mX12_laysPeriods := ⟨tm_1507, tm_1509, tm_63⟩
theorem ok_X12_laysPeriods : zz_ok mX12_laysPeriods 1 := ⟨tm_1510, tm_143, ⟨by decide +kernel, by decide +kernel, by decide +kernel⟩, (Nat.le_of_ble_eq_true rfl)⟩
theorem fl_X12_42 : zz_FL RX12 42 12 20 (.array .int) true := ⟨RX12, TX12, 42, rfl, (Nat.le_of_ble_eq_true rfl), tm_1531, inX12, ⟨tyX12, tyX12_ok, rfl⟩, nmX12, rfl⟩
theorem ls_X12_94 : zz_LS RX12 94 mX12_plain := ⟨tm_1483, tm_1484⟩
theorem ok_X12_plain : zz_ok mX12_plain 1 := ⟨tm_1485, tm_143, ⟨by decide +kernel, by decide +kernel, by decide +kernel⟩, (Nat.le_of_ble_eq_true rfl)⟩
theorem lv_X12_223 : zz_LV RX12 223 mX12_closes := ⟨tm_1692, tm_1694, tm_72⟩
theorem ok_X12_closes : zz_ok mX12_closes 0 := ⟨tm_1695, tm_143, ⟨by decide +kernel, by decide +kernel, by decide +kernel⟩, (Nat.le_of_ble_eq_true rfl)⟩
theorem lv_X12_226 : zz_LV RX12 226 mX12_readLine := ⟨tm_1696, tm_1698, tm_73⟩
theorem ok_X12_readLine : zz_ok mX12_readLine 0 := ⟨tm_1699, tm_143, ⟨by decide +kernel, by decide +kernel, by decide +kernel⟩, (Nat.le_of_ble_eq_true rfl)⟩
theorem fl_X12_229 : zz_FL RX12 229 12 13 (.int) false := ⟨RX12, TX12, 42, rfl, (Nat.le_of_ble_eq_true rfl), tm_1524, inX12, ⟨tyX12, tyX12_ok, rfl⟩, nmX12, rfl⟩
theorem fl_X12_27 : zz_FL RX12 27 12 14 (.int) false := ⟨RX12, TX12, 42, rfl, (Nat.le_of_ble_eq_true rfl), tm_1525, inX12, ⟨tyX12, tyX12_ok, rfl⟩, nmX12, rfl⟩
theorem lv_X12_98 : zz_LV RX12 98 mX12_laysDays := ⟨tm_1486, tm_1488, tm_59⟩
theorem ok_X12_laysDays : zz_ok mX12_laysDays 0 := ⟨tm_1489, tm_143, ⟨by decide +kernel, by decide +kernel, by decide +kernel⟩, (Nat.le_of_ble_eq_true rfl)⟩
theorem lv_X12_251 : zz_LV RX12 251 mX12_endOf := ⟨tm_1789, tm_1791, tm_89⟩
theorem ok_X12_endOf : zz_ok mX12_endOf 2 := ⟨tm_1792, tm_143, ⟨by decide +kernel, by decide +kernel, by decide +kernel⟩, (Nat.le_of_ble_eq_true rfl)⟩
theorem ls_X12_254 : zz_LS RX12 254 mX12_isDay := ⟨tm_1764, tm_1765⟩
theorem ok_X12_isDay : zz_ok mX12_isDay 2 := ⟨tm_1766, tm_143, ⟨by decide +kernel, by decide +kernel, by decide +kernel⟩, (Nat.le_of_ble_eq_true rfl)⟩
theorem kc_X12_258 : Cond.constantLong RX12 258 (999 : Int64) ∈ zz_tbl := tm_1775
theorem kc_X12_260 : Cond.constantLong RX12 260 (99 : Int64) ∈ zz_tbl := tm_1780
theorem lv_X12_262 : zz_LV RX12 262 mX12_isInput := ⟨tm_1785, tm_1787, tm_88⟩
theorem ok_X12_isInput : zz_ok mX12_isInput 1 := ⟨tm_1788, tm_143, ⟨by decide +kernel, by decide +kernel, by decide +kernel⟩, (Nat.le_of_ble_eq_true rfl)⟩
theorem ls_X12_266 : zz_LS RX12 266 mX12_kept := ⟨tm_1801, tm_1802⟩
theorem ok_X12_kept : zz_ok mX12_kept 3 := ⟨tm_1803, tm_143, ⟨by decide +kernel, by decide +kernel, by decide +kernel⟩, (Nat.le_of_ble_eq_true rfl)⟩
theorem fl_X12_51 : zz_FL RX12 51 12 23 (.array .int) true := ⟨RX12, TX12, 42, rfl, (Nat.le_of_ble_eq_true rfl), tm_1534, inX12, ⟨tyX12, tyX12_ok, rfl⟩, nmX12, rfl⟩
theorem lv_X12_269 : zz_LV RX12 269 mX12_countOf := ⟨tm_1797, tm_1799, tm_90⟩
theorem ok_X12_countOf : zz_ok mX12_countOf 2 := ⟨tm_1800, tm_143, ⟨by decide +kernel, by decide +kernel, by decide +kernel⟩, (Nat.le_of_ble_eq_true rfl)⟩
theorem fl_X12_272 : zz_FL RX12 272 12 28 (.int) false := ⟨RX12, TX12, 42, rfl, (Nat.le_of_ble_eq_true rfl), tm_1539, inX12, ⟨tyX12, tyX12_ok, rfl⟩, nmX12, rfl⟩
theorem fl_X12_54 : zz_FL RX12 54 12 24 (.array .int) true := ⟨RX12, TX12, 42, rfl, (Nat.le_of_ble_eq_true rfl), tm_1535, inX12, ⟨tyX12, tyX12_ok, rfl⟩, nmX12, rfl⟩
theorem lv_X12_275 : zz_LV RX12 275 mX12_pillarAt := ⟨tm_1835, tm_1837, tm_98⟩
theorem ok_X12_pillarAt : zz_ok mX12_pillarAt 1 := ⟨tm_1838, tm_143, ⟨by decide +kernel, by decide +kernel, by decide +kernel⟩, (Nat.le_of_ble_eq_true rfl)⟩
theorem fl_X12_57 : zz_FL RX12 57 12 25 (.array .int) true := ⟨RX12, TX12, 42, rfl, (Nat.le_of_ble_eq_true rfl), tm_1536, inX12, ⟨tyX12, tyX12_ok, rfl⟩, nmX12, rfl⟩
theorem ls_X12_278 : zz_LS RX12 278 mX12_floorOf := ⟨tm_1839, tm_1840⟩
theorem ok_X12_floorOf : zz_ok mX12_floorOf 2 := ⟨tm_1841, tm_143, ⟨by decide +kernel, by decide +kernel, by decide +kernel⟩, (Nat.le_of_ble_eq_true rfl)⟩
theorem kc_X12_282 : Cond.constantLong RX12 282 (3600000 : Int64) ∈ zz_tbl := tm_1825
theorem lv_X12_284 : zz_LV RX12 284 mX12_dueOf := ⟨tm_1826, tm_1828, tm_96⟩
theorem ok_X12_dueOf : zz_ok mX12_dueOf 2 := ⟨tm_1829, tm_143, ⟨by decide +kernel, by decide +kernel, by decide +kernel⟩, (Nat.le_of_ble_eq_true rfl)⟩
theorem lv_X12_290 : zz_LV RX12 290 mX12_factorAt := ⟨tm_1831, tm_1833, tm_97⟩
theorem ok_X12_factorAt : zz_ok mX12_factorAt 1 := ⟨tm_1834, tm_143, ⟨by decide +kernel, by decide +kernel, by decide +kernel⟩, (Nat.le_of_ble_eq_true rfl)⟩
theorem kc_X12_288 : Cond.constantLong RX12 288 (3600000000000000 : Int64) ∈ zz_tbl := tm_1830
theorem lv_X12_293 : zz_LV RX12 293 mX12_lengthOf := ⟨tm_1842, tm_1844, tm_99⟩
theorem ok_X12_lengthOf : zz_ok mX12_lengthOf 2 := ⟨tm_1845, tm_143, ⟨by decide +kernel, by decide +kernel, by decide +kernel⟩, (Nat.le_of_ble_eq_true rfl)⟩
theorem kc_X12_296 : Cond.constantLong RX12 296 (1000000000 : Int64) ∈ zz_tbl := tm_1846
theorem fl_X12_60 : zz_FL RX12 60 12 26 (.array .int) true := ⟨RX12, TX12, 42, rfl, (Nat.le_of_ble_eq_true rfl), tm_1537, inX12, ⟨tyX12, tyX12_ok, rfl⟩, nmX12, rfl⟩
theorem kc_X12_298 : Cond.constant RX12 298 (1000000000 : Int32) ∈ zz_tbl := tm_1816
theorem lv_X12_299 : zz_LV RX12 299 mX12_fits := ⟨tm_1821, tm_1823, tm_95⟩
theorem ok_X12_fits : zz_ok mX12_fits 2 := ⟨tm_1824, tm_143, ⟨by decide +kernel, by decide +kernel, by decide +kernel⟩, (Nat.le_of_ble_eq_true rfl)⟩
theorem fl_X12_63 : zz_FL RX12 63 12 27 (.array .boolean) true := ⟨RX12, TX12, 42, rfl, (Nat.le_of_ble_eq_true rfl), tm_1538, inX12, ⟨tyX12, tyX12_ok, rfl⟩, nmX12, rfl⟩
theorem lv_X12_303 : zz_LV RX12 303 mX12_solves := ⟨tm_1817, tm_1819, tm_94⟩
theorem ok_X12_solves : zz_ok mX12_solves 1 := ⟨tm_1820, tm_143, ⟨by decide +kernel, by decide +kernel, by decide +kernel⟩, (Nat.le_of_ble_eq_true rfl)⟩
theorem lv_X12_306 : zz_LV RX12 306 mX12_laysCounts := ⟨tm_1808, tm_1810, tm_92⟩
theorem ok_X12_laysCounts : zz_ok mX12_laysCounts 1 := ⟨tm_1811, tm_143, ⟨by decide +kernel, by decide +kernel, by decide +kernel⟩, (Nat.le_of_ble_eq_true rfl)⟩
theorem lv_X12_309 : zz_LV RX12 309 mX12_laysPillars := ⟨tm_1812, tm_1814, tm_93⟩
theorem ok_X12_laysPillars : zz_ok mX12_laysPillars 0 := ⟨tm_1815, tm_143, ⟨by decide +kernel, by decide +kernel, by decide +kernel⟩, (Nat.le_of_ble_eq_true rfl)⟩
theorem lv_X12_312 : zz_LV RX12 312 mX12_laysCurve := ⟨tm_1804, tm_1806, tm_91⟩
theorem ok_X12_laysCurve : zz_ok mX12_laysCurve 0 := ⟨tm_1807, tm_143, ⟨by decide +kernel, by decide +kernel, by decide +kernel⟩, (Nat.le_of_ble_eq_true rfl)⟩
theorem lv_X12_315 : zz_LV RX12 315 mX12_isFlow := ⟨tm_1851, tm_1853, tm_100⟩
theorem ok_X12_isFlow : zz_ok mX12_isFlow 1 := ⟨tm_1854, tm_143, ⟨by decide +kernel, by decide +kernel, by decide +kernel⟩, (Nat.le_of_ble_eq_true rfl)⟩
theorem kc_X12_318 : Cond.constantLong RX12 318 (-9000000000000000002 : Int64) ∈ zz_tbl := tm_1855
theorem fl_X12_66 : zz_FL RX12 66 12 29 (.array .int) true := ⟨RX12, TX12, 42, rfl, (Nat.le_of_ble_eq_true rfl), tm_1540, inX12, ⟨tyX12, tyX12_ok, rfl⟩, nmX12, rfl⟩
theorem kc_X12_320 : Cond.constantLong RX12 320 (-99 : Int64) ∈ zz_tbl := tm_1864
theorem kc_X12_322 : Cond.constantLong RX12 322 (-999 : Int64) ∈ zz_tbl := tm_1886
theorem lv_X12_324 : zz_LV RX12 324 mX12_whyBump := ⟨tm_1860, tm_1862, tm_101⟩
theorem ok_X12_whyBump : zz_ok mX12_whyBump 2 := ⟨tm_1863, tm_143, ⟨by decide +kernel, by decide +kernel, by decide +kernel⟩, (Nat.le_of_ble_eq_true rfl)⟩
theorem lv_X12_328 : zz_LV RX12 328 mX12_stores := ⟨tm_1865, tm_1867, tm_102⟩
theorem ok_X12_stores : zz_ok mX12_stores 0 := ⟨tm_1868, tm_143, ⟨by decide +kernel, by decide +kernel, by decide +kernel⟩, (Nat.le_of_ble_eq_true rfl)⟩
theorem lv_X12_331 : zz_LV RX12 331 mX12_notes := ⟨tm_1869, tm_1871, tm_103⟩
theorem ok_X12_notes : zz_ok mX12_notes 0 := ⟨tm_1872, tm_143, ⟨by decide +kernel, by decide +kernel, by decide +kernel⟩, (Nat.le_of_ble_eq_true rfl)⟩
theorem kc_X12_334 : Cond.constantLong RX12 334 (9 : Int64) ∈ zz_tbl := tm_1877
theorem lv_X12_336 : zz_LV RX12 336 mX12_whyAmount := ⟨tm_1882, tm_1884, tm_104⟩
theorem ok_X12_whyAmount : zz_ok mX12_whyAmount 2 := ⟨tm_1885, tm_143, ⟨by decide +kernel, by decide +kernel, by decide +kernel⟩, (Nat.le_of_ble_eq_true rfl)⟩
theorem kc_X12_339 : Cond.constantLong RX12 339 (10 : Int64) ∈ zz_tbl := tm_1891
theorem kc_X12_341 : Cond.constantLong RX12 341 (19 : Int64) ∈ zz_tbl := tm_1909
theorem kc_X12_343 : Cond.constantLong RX12 343 (1000 : Int64) ∈ zz_tbl := tm_1910
theorem kc_X12_345 : Cond.constantLong RX12 345 (8999 : Int64) ∈ zz_tbl := tm_1911
theorem kc_X12_347 : Cond.constantLong RX12 347 (10000 : Int64) ∈ zz_tbl := tm_1912
theorem kc_X12_349 : Cond.constantLong RX12 349 (29999 : Int64) ∈ zz_tbl := tm_1913
theorem kc_X12_351 : Cond.constantLong RX12 351 (2000 : Int64) ∈ zz_tbl := tm_1914
theorem fl_X12_353 : zz_FL RX12 353 12 30 (.int) false := ⟨RX12, TX12, 42, rfl, (Nat.le_of_ble_eq_true rfl), tm_1541, inX12, ⟨tyX12, tyX12_ok, rfl⟩, nmX12, rfl⟩
theorem fl_X12_88 : zz_FL RX12 88 12 40 (.array .int) true := ⟨RX12, TX12, 42, rfl, (Nat.le_of_ble_eq_true rfl), tm_1551, inX12, ⟨tyX12, tyX12_ok, rfl⟩, nmX12, rfl⟩
theorem fl_X12_91 : zz_FL RX12 91 12 41 (.array .long) true := ⟨RX12, TX12, 42, rfl, (Nat.le_of_ble_eq_true rfl), tm_1552, inX12, ⟨tyX12, tyX12_ok, rfl⟩, nmX12, rfl⟩
theorem lv_X12_356 : zz_LV RX12 356 mX12_whyNot := ⟨tm_1905, tm_1907, tm_107⟩
theorem ok_X12_whyNot : zz_ok mX12_whyNot 1 := ⟨tm_1908, tm_143, ⟨by decide +kernel, by decide +kernel, by decide +kernel⟩, (Nat.le_of_ble_eq_true rfl)⟩
theorem lv_X12_360 : zz_LV RX12 360 mX12_does := ⟨tm_1915, tm_1917, tm_108⟩
theorem ok_X12_does : zz_ok mX12_does 1 := ⟨tm_1918, tm_143, ⟨by decide +kernel, by decide +kernel, by decide +kernel⟩, (Nat.le_of_ble_eq_true rfl)⟩
theorem kc_X12_363 : Cond.constantLong RX12 363 (3 : Int64) ∈ zz_tbl := tm_1896
theorem fl_X12_85 : zz_FL RX12 85 12 39 (.array .int) true := ⟨RX12, TX12, 42, rfl, (Nat.le_of_ble_eq_true rfl), tm_1550, inX12, ⟨tyX12, tyX12_ok, rfl⟩, nmX12, rfl⟩
theorem lv_X12_365 : zz_LV RX12 365 mX12_noTray := ⟨tm_1897, tm_1899, tm_105⟩
theorem ok_X12_noTray : zz_ok mX12_noTray 1 := ⟨tm_1900, tm_143, ⟨by decide +kernel, by decide +kernel, by decide +kernel⟩, (Nat.le_of_ble_eq_true rfl)⟩
theorem lv_X12_368 : zz_LV RX12 368 mX12_tells := ⟨tm_1901, tm_1903, tm_106⟩
theorem ok_X12_tells : zz_ok mX12_tells 1 := ⟨tm_1904, tm_143, ⟨by decide +kernel, by decide +kernel, by decide +kernel⟩, (Nat.le_of_ble_eq_true rfl)⟩
theorem lv_X12_371 : zz_LV RX12 371 mX12_ratesSum := ⟨tm_1919, tm_1921, tm_109⟩
theorem ok_X12_ratesSum : zz_ok mX12_ratesSum 0 := ⟨tm_1922, tm_143, ⟨by decide +kernel, by decide +kernel, by decide +kernel⟩, (Nat.le_of_ble_eq_true rfl)⟩
theorem lv_X12_374 : zz_LV RX12 374 mX12_isAgain := ⟨tm_1923, tm_1925, tm_110⟩
theorem ok_X12_isAgain : zz_ok mX12_isAgain 0 := ⟨tm_1926, tm_143, ⟨by decide +kernel, by decide +kernel, by decide +kernel⟩, (Nat.le_of_ble_eq_true rfl)⟩
theorem kc_X12_377 : Cond.constant RX12 377 (1103515245 : Int32) ∈ zz_tbl := tm_1944
theorem fl_X12_378 : zz_FL RX12 378 12 31 (.int) false := ⟨RX12, TX12, 42, rfl, (Nat.le_of_ble_eq_true rfl), tm_1542, inX12, ⟨tyX12, tyX12_ok, rfl⟩, nmX12, rfl⟩
theorem lv_X12_381 : zz_LV RX12 381 mX12_draw := ⟨tm_1940, tm_1942, tm_112⟩
theorem ok_X12_draw : zz_ok mX12_draw 1 := ⟨tm_1943, tm_143, ⟨by decide +kernel, by decide +kernel, by decide +kernel⟩, (Nat.le_of_ble_eq_true rfl)⟩
theorem kc_X12_384 : Cond.constantLong RX12 384 (40 : Int64) ∈ zz_tbl := tm_1935
theorem lv_X12_386 : zz_LV RX12 386 mX12_drawn := ⟨tm_1936, tm_1938, tm_111⟩
theorem ok_X12_drawn : zz_ok mX12_drawn 0 := ⟨tm_1939, tm_143, ⟨by decide +kernel, by decide +kernel, by decide +kernel⟩, (Nat.le_of_ble_eq_true rfl)⟩
theorem lv_X12_389 : zz_LV RX12 389 mX12_isPillar := ⟨tm_1953, tm_1955, tm_113⟩
theorem ok_X12_isPillar : zz_ok mX12_isPillar 1 := ⟨tm_1956, tm_143, ⟨by decide +kernel, by decide +kernel, by decide +kernel⟩, (Nat.le_of_ble_eq_true rfl)⟩
theorem kc_X12_392 : Cond.constantLong RX12 392 (9999 : Int64) ∈ zz_tbl := tm_1965
theorem lv_X12_394 : zz_LV RX12 394 mX12_rateOf := ⟨tm_1966, tm_1968, tm_114⟩
theorem ok_X12_rateOf : zz_ok mX12_rateOf 2 := ⟨tm_1969, tm_143, ⟨by decide +kernel, by decide +kernel, by decide +kernel⟩, (Nat.le_of_ble_eq_true rfl)⟩
theorem lv_X12_397 : zz_LV RX12 397 mX12_laysWith := ⟨tm_1982, tm_1984, tm_115⟩
theorem ok_X12_laysWith : zz_ok mX12_laysWith 2 := ⟨tm_1985, tm_143, ⟨by decide +kernel, by decide +kernel, by decide +kernel⟩, (Nat.le_of_ble_eq_true rfl)⟩
theorem fl_X12_69 : zz_FL RX12 69 12 32 (.array .int) true := ⟨RX12, TX12, 42, rfl, (Nat.le_of_ble_eq_true rfl), tm_1543, inX12, ⟨tyX12, tyX12_ok, rfl⟩, nmX12, rfl⟩
theorem lv_X12_401 : zz_LV RX12 401 mX12_worthBy := ⟨tm_1998, tm_2000, tm_117⟩
theorem ok_X12_worthBy : zz_ok mX12_worthBy 0 := ⟨tm_2001, tm_143, ⟨by decide +kernel, by decide +kernel, by decide +kernel⟩, (Nat.le_of_ble_eq_true rfl)⟩
theorem lv_X12_405 : zz_LV RX12 405 mX12_worthNow := ⟨tm_1994, tm_1996, tm_116⟩
theorem ok_X12_worthNow : zz_ok mX12_worthNow 0 := ⟨tm_1997, tm_143, ⟨by decide +kernel, by decide +kernel, by decide +kernel⟩, (Nat.le_of_ble_eq_true rfl)⟩
theorem lv_X12_408 : zz_LV RX12 408 mX12_worthWith := ⟨tm_2006, tm_2008, tm_118⟩
theorem ok_X12_worthWith : zz_ok mX12_worthWith 2 := ⟨tm_2009, tm_143, ⟨by decide +kernel, by decide +kernel, by decide +kernel⟩, (Nat.le_of_ble_eq_true rfl)⟩
theorem kc_X12_411 : Cond.constantLong RX12 411 (-9000000000000000003 : Int64) ∈ zz_tbl := tm_2014
theorem kc_X12_413 : Cond.constantLong RX12 413 (-1 : Int64) ∈ zz_tbl := tm_2019
theorem lv_X12_415 : zz_LV RX12 415 mX12_weightAt := ⟨tm_2032, tm_2034, tm_120⟩
theorem ok_X12_weightAt : zz_ok mX12_weightAt 2 := ⟨tm_2035, tm_143, ⟨by decide +kernel, by decide +kernel, by decide +kernel⟩, (Nat.le_of_ble_eq_true rfl)⟩
theorem fl_X12_76 : zz_FL RX12 76 12 34 (.array .long) true := ⟨RX12, TX12, 42, rfl, (Nat.le_of_ble_eq_true rfl), tm_1545, inX12, ⟨tyX12, tyX12_ok, rfl⟩, nmX12, rfl⟩
theorem lv_X12_418 : zz_LV RX12 418 mX12_hangOf := ⟨tm_2028, tm_2030, tm_119⟩
theorem ok_X12_hangOf : zz_ok mX12_hangOf 1 := ⟨tm_2031, tm_143, ⟨by decide +kernel, by decide +kernel, by decide +kernel⟩, (Nat.le_of_ble_eq_true rfl)⟩
theorem lv_X12_422 : zz_LV RX12 422 mX12_pieceOn := ⟨tm_2044, tm_2046, tm_122⟩
theorem ok_X12_pieceOn : zz_ok mX12_pieceOn 2 := ⟨tm_2047, tm_143, ⟨by decide +kernel, by decide +kernel, by decide +kernel⟩, (Nat.le_of_ble_eq_true rfl)⟩
theorem fl_X12_72 : zz_FL RX12 72 12 33 (.array .long) true := ⟨RX12, TX12, 42, rfl, (Nat.le_of_ble_eq_true rfl), tm_1544, inX12, ⟨tyX12, tyX12_ok, rfl⟩, nmX12, rfl⟩
theorem kc_X12_425 : Cond.constantLong RX12 425 (2 : Int64) ∈ zz_tbl := tm_2048
theorem lv_X12_427 : zz_LV RX12 427 mX12_laysFlat := ⟨tm_2040, tm_2042, tm_121⟩
theorem ok_X12_laysFlat : zz_ok mX12_laysFlat 0 := ⟨tm_2043, tm_143, ⟨by decide +kernel, by decide +kernel, by decide +kernel⟩, (Nat.le_of_ble_eq_true rfl)⟩
theorem kc_X12_430 : Cond.constantLong RX12 430 (8 : Int64) ∈ zz_tbl := tm_2061
theorem kc_X12_432 : Cond.constantLong RX12 432 (999999999999 : Int64) ∈ zz_tbl := tm_2062
theorem kc_X12_434 : Cond.constantLong RX12 434 (100000000 : Int64) ∈ zz_tbl := tm_2067
theorem lv_X12_436 : zz_LV RX12 436 mX12_noTold := ⟨tm_2057, tm_2059, tm_123⟩
theorem ok_X12_noTold : zz_ok mX12_noTold 1 := ⟨tm_2060, tm_143, ⟨by decide +kernel, by decide +kernel, by decide +kernel⟩, (Nat.le_of_ble_eq_true rfl)⟩
theorem lv_X12_439 : zz_LV RX12 439 mX12_shiftsOf := ⟨tm_2063, tm_2065, tm_124⟩
theorem ok_X12_shiftsOf : zz_ok mX12_shiftsOf 1 := ⟨tm_2066, tm_143, ⟨by decide +kernel, by decide +kernel, by decide +kernel⟩, (Nat.le_of_ble_eq_true rfl)⟩
theorem ls_X12_442 : zz_LS RX12 442 mX12_isIn := ⟨tm_2077, tm_2078⟩
theorem ok_X12_isIn : zz_ok mX12_isIn 2 := ⟨tm_2079, tm_143, ⟨by decide +kernel, by decide +kernel, by decide +kernel⟩, (Nat.le_of_ble_eq_true rfl)⟩
theorem fl_X12_79 : zz_FL RX12 79 12 35 (.array .int) true := ⟨RX12, TX12, 42, rfl, (Nat.le_of_ble_eq_true rfl), tm_1546, inX12, ⟨tyX12, tyX12_ok, rfl⟩, nmX12, rfl⟩
theorem kc_X12_446 : Cond.constant RX12 446 (268435456 : Int32) ∈ zz_tbl := tm_2072
theorem lv_X12_447 : zz_LV RX12 447 mX12_mostAlike := ⟨tm_2073, tm_2075, tm_125⟩
theorem ok_X12_mostAlike : zz_ok mX12_mostAlike 2 := ⟨tm_2076, tm_143, ⟨by decide +kernel, by decide +kernel, by decide +kernel⟩, (Nat.le_of_ble_eq_true rfl)⟩
theorem fl_X12_82 : zz_FL RX12 82 12 36 (.array .int) true := ⟨RX12, TX12, 42, rfl, (Nat.le_of_ble_eq_true rfl), tm_1547, inX12, ⟨tyX12, tyX12_ok, rfl⟩, nmX12, rfl⟩
theorem fl_X12_450 : zz_FL RX12 450 12 37 (.long) false := ⟨RX12, TX12, 42, rfl, (Nat.le_of_ble_eq_true rfl), tm_1548, inX12, ⟨tyX12, tyX12_ok, rfl⟩, nmX12, rfl⟩
theorem fl_X12_454 : zz_FL RX12 454 12 38 (.long) false := ⟨RX12, TX12, 42, rfl, (Nat.le_of_ble_eq_true rfl), tm_1549, inX12, ⟨tyX12, tyX12_ok, rfl⟩, nmX12, rfl⟩
theorem lv_X12_457 : zz_LV RX12 457 mX12_goesLots := ⟨tm_2091, tm_2093, tm_127⟩
theorem ok_X12_goesLots : zz_ok mX12_goesLots 5 := ⟨tm_2094, tm_143, ⟨by decide +kernel, by decide +kernel, by decide +kernel⟩, (Nat.le_of_ble_eq_true rfl)⟩
theorem ls_X12_461 : zz_LS RX12 461 mX12_common := ⟨tm_2098, tm_2099⟩
theorem ok_X12_common : zz_ok mX12_common 2 := ⟨tm_2100, tm_143, ⟨by decide +kernel, by decide +kernel, by decide +kernel⟩, (Nat.le_of_ble_eq_true rfl)⟩
theorem ls_X12_464 : zz_LS RX12 464 mX12_isLots := ⟨tm_2084, tm_2085⟩
theorem ok_X12_isLots : zz_ok mX12_isLots 2 := ⟨tm_2086, tm_143, ⟨by decide +kernel, by decide +kernel, by decide +kernel⟩, (Nat.le_of_ble_eq_true rfl)⟩
theorem lv_X12_467 : zz_LV RX12 467 mX12_laysLots := ⟨tm_2087, tm_2089, tm_126⟩
theorem ok_X12_laysLots : zz_ok mX12_laysLots 3 := ⟨tm_2090, tm_143, ⟨by decide +kernel, by decide +kernel, by decide +kernel⟩, (Nat.le_of_ble_eq_true rfl)⟩
theorem ls_X12_471 : zz_LS RX12 471 mX12_wholeOf := ⟨tm_2095, tm_2096⟩
theorem ok_X12_wholeOf : zz_ok mX12_wholeOf 1 := ⟨tm_2097, tm_143, ⟨by decide +kernel, by decide +kernel, by decide +kernel⟩, (Nat.le_of_ble_eq_true rfl)⟩
theorem ls_X12_476 : zz_LS RX12 476 mX12_cut := ⟨tm_2114, tm_2115⟩
theorem ok_X12_cut : zz_ok mX12_cut 2 := ⟨tm_2116, tm_143, ⟨by decide +kernel, by decide +kernel, by decide +kernel⟩, (Nat.le_of_ble_eq_true rfl)⟩
theorem kc_X12_474 : Cond.constantLong RX12 474 (-7 : Int64) ∈ zz_tbl := tm_2113
theorem fl_X12_17 : zz_FL RX12 17 12 2 (.array .boolean) true := ⟨RX12, TX12, 42, rfl, (Nat.le_of_ble_eq_true rfl), tm_1513, inX12, ⟨tyX12, tyX12_ok, rfl⟩, nmX12, rfl⟩
