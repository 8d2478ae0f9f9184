theorem tb0 {w : Cond} (h : w ∈ k2_sels lw_privs) : w ∈ lw_tbl := List.mem_append_left _ h
theorem tb1 {w : Cond} (h : w ∈ tables_1_1) : w ∈ lw_tbl := List.mem_append_right _ (List.mem_append_left _ h)
theorem tb2 {w : Cond} (h : w ∈ tables_1_2) : w ∈ lw_tbl := List.mem_append_right _ (List.mem_append_right _ (List.mem_append_left _ h))
theorem tb3 {w : Cond} (h : w ∈ tables_1_3) : w ∈ lw_tbl := List.mem_append_right _ (List.mem_append_right _ (List.mem_append_right _ (List.mem_append_left _ h)))
theorem tb4 {w : Cond} (h : w ∈ tables_1_4) : w ∈ lw_tbl := List.mem_append_right _ (List.mem_append_right _ (List.mem_append_right _ (List.mem_append_right _ (List.mem_append_left _ h))))
theorem tb5 {w : Cond} (h : w ∈ tables_1_5) : w ∈ lw_tbl := List.mem_append_right _ (List.mem_append_right _ (List.mem_append_right _ (List.mem_append_right _ (List.mem_append_right _ h))))
theorem kcX0 : ClsOK 0 RX0 TX0 3 tyX0 := ⟨rfl, iaX0, tyX0_ok, nmX0, rfl⟩
theorem kcX1 : ClsOK 1 RX1 TX1 14 tyX1 := ⟨rfl, iaX1, tyX1_ok, nmX1, rfl⟩
theorem kcX2 : ClsOK 2 RX2 TX2 7 tyX2 := ⟨rfl, iaX2, tyX2_ok, nmX2, rfl⟩
theorem kcX3 : ClsOK 3 RX3 TX3 5 tyX3 := ⟨rfl, iaX3, tyX3_ok, nmX3, rfl⟩
theorem kcX4 : ClsOK 4 RX4 TX4 7 tyX4 := ⟨rfl, iaX4, tyX4_ok, nmX4, rfl⟩
theorem kcX5 : ClsOK 5 RX5 TX5 4 tyX5 := ⟨rfl, iaX5, tyX5_ok, nmX5, rfl⟩
theorem kcX6 : ClsOK 6 RX6 TX6 10 tyX6 := ⟨rfl, iaX6, tyX6_ok, nmX6, rfl⟩
theorem kcX7 : ClsOK 7 RX7 TX7 39 tyX7 := ⟨rfl, iaX7, tyX7_ok, nmX7, rfl⟩
def mX0_foresee : Mt := (RX0, yX0_foresee, cX0_foresee, 7, none, 2, 44)
def mX0_runsAhead : Mt := (RX0, yX0_runsAhead, cX0_runsAhead, 8, (some .long), 2, 51)
def mX0_chanceMinute : Mt := (RX0, yX0_chanceMinute, cX0_chanceMinute, 9, none, 1, 23)
def mX1_reset : Mt := (RX1, yX1_reset, cX1_reset, 2, none, 0, 0)
def mX1_addWagon : Mt := (RX1, yX1_addWagon, cX1_addWagon, 5, none, 0, 0)
def mX1_addPair : Mt := (RX1, yX1_addPair, cX1_addPair, 3, none, 0, 0)
def mX1_settle : Mt := (RX1, yX1_settle, cX1_settle, 2, none, 2, 47)
def mX1_joinPaces : Mt := (RX1, yX1_joinPaces, cX1_joinPaces, 5, none, 1, 23)
def mX1_hasPlace : Mt := (RX1, yX1_hasPlace, cX1_hasPlace, 2, (some .boolean), 0, 0)
def mX1_hasWagon : Mt := (RX1, yX1_hasWagon, cX1_hasWagon, 2, (some .boolean), 0, 0)
def mX1_hasPoints : Mt := (RX1, yX1_hasPoints, cX1_hasPoints, 2, (some .boolean), 1, 21)
def mX1_placeOf : Mt := (RX1, yX1_placeOf, cX1_placeOf, 2, (some .int), 0, 0)
def mX1_minutesFor : Mt := (RX1, yX1_minutesFor, cX1_minutesFor, 4, (some .int), 1, 21)
def mX1_sunWay : Mt := (RX1, yX1_sunWay, cX1_sunWay, 3, (some .int), 0, 0)
def mX1_isTaken : Mt := (RX1, yX1_isTaken, cX1_isTaken, 5, (some .boolean), 0, 0)
def mX1_pass : Mt := (RX1, yX1_pass, cX1_pass, 6, (some .int), 3, 69)
def mX1_foremost : Mt := (RX1, yX1_foremost, cX1_foremost, 5, (some .int), 0, 0)
def mX1_goOn : Mt := (RX1, yX1_goOn, cX1_goOn, 4, (some .boolean), 2, 46)
def mX1_isBarred : Mt := (RX1, yX1_isBarred, cX1_isBarred, 6, (some .boolean), 1, 21)
def mX1_catchLate : Mt := (RX1, yX1_catchLate, cX1_catchLate, 4, none, 1, 22)
def mX1_withWorkDone : Mt := (RX1, yX1_withWorkDone, cX1_withWorkDone, 4, (some .int), 0, 0)
def mX1_wagonsAt : Mt := (RX1, yX1_wagonsAt, cX1_wagonsAt, 5, (some .int), 1, 21)
def mX1_lengthOn : Mt := (RX1, yX1_lengthOn, cX1_lengthOn, 6, (some .int), 1, 23)
def mX2_copyFrom : Mt := (RX2, yX2_copyFrom, cX2_copyFrom, 2, none, 1, 26)
def mX2_isCaught : Mt := (RX2, yX2_isCaught, cX2_isCaught, 2, (some .boolean), 0, 0)
def mX3_gatherNone : Mt := (RX3, yX3_gatherNone, cX3_gatherNone, 1, none, 0, 0)
def mX3_gather : Mt := (RX3, yX3_gather, cX3_gather, 5, none, 1, 21)
def mX3_setStarts : Mt := (RX3, yX3_setStarts, cX3_setStarts, 4, none, 0, 0)
def mX3_latest : Mt := (RX3, yX3_latest, cX3_latest, 2, (some .int), 0, 0)
def mX3_order : Mt := (RX3, yX3_order, cX3_order, 4, none, 1, 21)
def mX3_sum : Mt := (RX3, yX3_sum, cX3_sum, 3, (some .int), 0, 0)
def mX3_startOf : Mt := (RX3, yX3_startOf, cX3_startOf, 3, (some .int), 0, 0)
def mX4_add : Mt := (RX4, yX4_add, cX4_add, 2, (some .boolean), 0, 0)
def mX4_tell : Mt := (RX4, yX4_tell, cX4_tell, 4, (some .int), 6, 132)
def mX4_tellItem : Mt := (RX4, yX4_tellItem, cX4_tellItem, 3, none, 5, 110)
def mX4_tellRing : Mt := (RX4, yX4_tellRing, cX4_tellRing, 3, none, 4, 85)
def mX4_tellCost : Mt := (RX4, yX4_tellCost, cX4_tellCost, 4, none, 4, 85)
def mX4_tellSun : Mt := (RX4, yX4_tellSun, cX4_tellSun, 2, none, 4, 85)
def mX4_tellBridge : Mt := (RX4, yX4_tellBridge, cX4_tellBridge, 2, none, 4, 85)
def mX4_tellWagon : Mt := (RX4, yX4_tellWagon, cX4_tellWagon, 6, none, 4, 85)
def mX4_tellPair : Mt := (RX4, yX4_tellPair, cX4_tellPair, 4, none, 4, 85)
def mX4_readNumber : Mt := (RX4, yX4_readNumber, cX4_readNumber, 3, (some .int), 3, 63)
def mX4_readStop : Mt := (RX4, yX4_readStop, cX4_readStop, 1, none, 3, 63)
def mX4_readToken : Mt := (RX4, yX4_readToken, cX4_readToken, 1, none, 2, 43)
def mX4_readLetters : Mt := (RX4, yX4_readLetters, cX4_readLetters, 1, none, 1, 20)
def mX4_readDigits : Mt := (RX4, yX4_readDigits, cX4_readDigits, 1, none, 1, 23)
def mX4_isLetter : Mt := (RX4, yX4_isLetter, cX4_isLetter, 1, (some .boolean), 0, 0)
def mX4_isDigit : Mt := (RX4, yX4_isDigit, cX4_isDigit, 1, (some .boolean), 0, 0)
def mX5_begin : Mt := (RX5, yX5_begin, cX5_begin, 2, none, 2, 47)
def mX5_remember : Mt := (RX5, yX5_remember, cX5_remember, 1, none, 2, 47)
def mX5_loseOldest : Mt := (RX5, yX5_loseOldest, cX5_loseOldest, 3, none, 0, 0)
def mX5_takeBack : Mt := (RX5, yX5_takeBack, cX5_takeBack, 1, (some .boolean), 2, 47)
def mX5_copyFrom : Mt := (RX5, yX5_copyFrom, cX5_copyFrom, 3, none, 2, 47)
def mX6_type : Mt := (RX6, yX6_type, cX6_type, 2, (some .int), 1, 21)
def mX6_clear : Mt := (RX6, yX6_clear, cX6_clear, 2, (some .int), 0, 0)
def mX6_world : Mt := (RX6, yX6_world, cX6_world, 3, (some .int), 7, 155)
def mX6_place : Mt := (RX6, yX6_place, cX6_place, 3, (some .int), 1, 21)
def mX6_wagon : Mt := (RX6, yX6_wagon, cX6_wagon, 4, (some .int), 1, 21)
def mX6_now : Mt := (RX6, yX6_now, cX6_now, 2, (some .int), 1, 23)
def mX6_sun : Mt := (RX6, yX6_sun, cX6_sun, 2, (some .int), 1, 22)
def mX6_minute : Mt := (RX6, yX6_minute, cX6_minute, 1, (some .int), 4, 94)
def mX6_stand : Mt := (RX6, yX6_stand, cX6_stand, 4, (some .int), 3, 67)
def mX6_change : Mt := (RX6, yX6_change, cX6_change, 5, (some .int), 3, 67)
def mX6_undo : Mt := (RX6, yX6_undo, cX6_undo, 1, (some .int), 3, 67)
def mX6_behind : Mt := (RX6, yX6_behind, cX6_behind, 5, (some .int), 4, 94)
def mX6_caught : Mt := (RX6, yX6_caught, cX6_caught, 4, (some .int), 4, 94)
def mX6_waits : Mt := (RX6, yX6_waits, cX6_waits, 4, (some .int), 4, 94)
def mX6_stands : Mt := (RX6, yX6_stands, cX6_stands, 3, (some .int), 5, 115)
def mX6_starts : Mt := (RX6, yX6_starts, cX6_starts, 2, (some .int), 6, 141)
def mX6_bars : Mt := (RX6, yX6_bars, cX6_bars, 2, (some .int), 6, 141)
def mX6_pieces : Mt := (RX6, yX6_pieces, cX6_pieces, 5, (some .int), 4, 94)
def mX6_met : Mt := (RX6, yX6_met, cX6_met, 4, (some .int), 4, 94)
def mX6_odds : Mt := (RX6, yX6_odds, cX6_odds, 11, (some .long), 3, 78)
def mX6_keepAhead : Mt := (RX6, yX6_keepAhead, cX6_keepAhead, 8, (some .int), 3, 78)
def mX6_mark : Mt := (RX6, yX6_mark, cX6_mark, 3, (some .int), 3, 63)
def mX6_keep : Mt := (RX6, yX6_keep, cX6_keep, 3, (some .int), 3, 69)
def mX6_back : Mt := (RX6, yX6_back, cX6_back, 3, (some .int), 3, 69)
def mX6_count : Mt := (RX6, yX6_count, cX6_count, 2, (some .int), 1, 20)
def mX6_trace : Mt := (RX6, yX6_trace, cX6_trace, 1, (some .long), 0, 0)
def mX6_leastOf : Mt := (RX6, yX6_leastOf, cX6_leastOf, 2, (some .int), 0, 0)
def mX6_findStarts : Mt := (RX6, yX6_findStarts, cX6_findStarts, 7, (some .boolean), 5, 115)
def mX6_isTrialSafe : Mt := (RX6, yX6_isTrialSafe, cX6_isTrialSafe, 2, (some .boolean), 4, 94)
def mX6_isChance : Mt := (RX6, yX6_isChance, cX6_isChance, 4, (some .boolean), 1, 21)
def mX6_powerOfTen : Mt := (RX6, yX6_powerOfTen, cX6_powerOfTen, 4, (some .long), 0, 0)
def mX6_commonDivisor : Mt := (RX6, yX6_commonDivisor, cX6_commonDivisor, 11, (some .long), 0, 0)
def mX6_wagonMark : Mt := (RX6, yX6_wagonMark, cX6_wagonMark, 2, (some .int), 0, 0)
def mX6_forgeMark : Mt := (RX6, yX6_forgeMark, cX6_forgeMark, 2, (some .int), 1, 21)
def mX6_chapelMark : Mt := (RX6, yX6_chapelMark, cX6_chapelMark, 2, (some .int), 1, 21)
def mX6_tenderMark : Mt := (RX6, yX6_tenderMark, cX6_tenderMark, 2, (some .int), 2, 42)
def mX6_houseMark : Mt := (RX6, yX6_houseMark, cX6_houseMark, 2, (some .int), 2, 42)
def mX6_railcartMark : Mt := (RX6, yX6_railcartMark, cX6_railcartMark, 3, (some .int), 1, 22)
def mX7_in : Mt := (RX7, yX7_in, cX7_in, 3, (some .boolean), 0, 0)
def mX7_type : Mt := (RX7, yX7_type, cX7_type, 2, (some .int), 1, 22)
def mX7_clear : Mt := (RX7, yX7_clear, cX7_clear, 2, (some .int), 0, 0)
def mX7_here : Mt := (RX7, yX7_here, cX7_here, 1, (some .int), 0, 0)
def mX7_next : Mt := (RX7, yX7_next, cX7_next, 2, none, 1, 22)
def mX7_due : Mt := (RX7, yX7_due, cX7_due, 3, (some .int), 2, 43)
def mX7_number : Mt := (RX7, yX7_number, cX7_number, 3, (some .int), 3, 65)
def mX7_placeTold : Mt := (RX7, yX7_placeTold, cX7_placeTold, 1, (some .int), 4, 87)
def mX7_mayBe : Mt := (RX7, yX7_mayBe, cX7_mayBe, 2, (some .boolean), 0, 0)
def mX7_isFreeAtFirst : Mt := (RX7, yX7_isFreeAtFirst, cX7_isFreeAtFirst, 5, (some .boolean), 0, 0)
def mX7_readWagon : Mt := (RX7, yX7_readWagon, cX7_readWagon, 3, none, 4, 87)
def mX7_readRow : Mt := (RX7, yX7_readRow, cX7_readRow, 4, none, 5, 109)
def mX7_world : Mt := (RX7, yX7_world, cX7_world, 2, (some .int), 6, 132)
def mX7_take : Mt := (RX7, yX7_take, cX7_take, 6, none, 0, 0)
def mX7_costAt : Mt := (RX7, yX7_costAt, cX7_costAt, 2, (some .int), 0, 0)
def mX7_beginThen : Mt := (RX7, yX7_beginThen, cX7_beginThen, 2, none, 1, 21)
def mX7_begin : Mt := (RX7, yX7_begin, cX7_begin, 1, none, 2, 42)
def mX7_toNow : Mt := (RX7, yX7_toNow, cX7_toNow, 2, none, 0, 0)
def mX7_toThen : Mt := (RX7, yX7_toThen, cX7_toThen, 2, none, 0, 0)
def mX7_isWagon : Mt := (RX7, yX7_isWagon, cX7_isWagon, 2, (some .boolean), 1, 22)
def mX7_place : Mt := (RX7, yX7_place, cX7_place, 3, (some .int), 1, 22)
def mX7_wagon : Mt := (RX7, yX7_wagon, cX7_wagon, 3, (some .int), 2, 43)
def mX7_sunAt : Mt := (RX7, yX7_sunAt, cX7_sunAt, 2, (some .int), 0, 0)
def mX7_sun : Mt := (RX7, yX7_sun, cX7_sun, 2, (some .int), 1, 22)
def mX7_caughtThen : Mt := (RX7, yX7_caughtThen, cX7_caughtThen, 3, (some .int), 0, 0)
def mX7_manyOf : Mt := (RX7, yX7_manyOf, cX7_manyOf, 3, (some .int), 0, 0)
def mX7_now : Mt := (RX7, yX7_now, cX7_now, 4, (some .int), 1, 22)
def mX7_isFree : Mt := (RX7, yX7_isFree, cX7_isFree, 6, (some .boolean), 0, 0)
def mX7_move : Mt := (RX7, yX7_move, cX7_move, 3, none, 1, 25)
def mX7_pass : Mt := (RX7, yX7_pass, cX7_pass, 5, none, 2, 47)
def mX7_know : Mt := (RX7, yX7_know, cX7_know, 2, none, 0, 0)
def mX7_minute : Mt := (RX7, yX7_minute, cX7_minute, 1, (some .int), 3, 71)
def mX7_stand : Mt := (RX7, yX7_stand, cX7_stand, 3, (some .int), 2, 43)
def mX7_isThere : Mt := (RX7, yX7_isThere, cX7_isThere, 5, (some .boolean), 0, 0)
def mX7_change : Mt := (RX7, yX7_change, cX7_change, 5, (some .int), 2, 43)
def mX7_undo : Mt := (RX7, yX7_undo, cX7_undo, 2, (some .int), 0, 0)
def mX7_passMany : Mt := (RX7, yX7_passMany, cX7_passMany, 3, none, 3, 71)
def mX7_behind : Mt := (RX7, yX7_behind, cX7_behind, 4, (some .int), 4, 93)
def mX7_caught : Mt := (RX7, yX7_caught, cX7_caught, 6, (some .int), 3, 71)
def mX7_waits : Mt := (RX7, yX7_waits, cX7_waits, 3, (some .int), 3, 71)
def mX7_stands : Mt := (RX7, yX7_stands, cX7_stands, 4, (some .int), 4, 93)
def mX7_findLacking : Mt := (RX7, yX7_findLacking, cX7_findLacking, 3, none, 0, 0)
def mX7_isWell : Mt := (RX7, yX7_isWell, cX7_isWell, 6, (some .boolean), 3, 71)
def mX7_findStarts : Mt := (RX7, yX7_findStarts, cX7_findStarts, 9, (some .int), 4, 96)
def mX7_starts : Mt := (RX7, yX7_starts, cX7_starts, 5, (some .int), 5, 124)
def mX7_bars : Mt := (RX7, yX7_bars, cX7_bars, 2, (some .int), 5, 124)
def mX7_pieces : Mt := (RX7, yX7_pieces, cX7_pieces, 8, (some .int), 3, 71)
def mX7_met : Mt := (RX7, yX7_met, cX7_met, 5, (some .int), 4, 93)
def mX7_findOdds : Mt := (RX7, yX7_findOdds, cX7_findOdds, 13, none, 1, 21)
def mX7_isAsked : Mt := (RX7, yX7_isAsked, cX7_isAsked, 4, (some .boolean), 2, 43)
def mX7_odds : Mt := (RX7, yX7_odds, cX7_odds, 11, (some .long), 3, 66)
def mX7_keepAhead : Mt := (RX7, yX7_keepAhead, cX7_keepAhead, 6, (some .int), 3, 66)
def mX7_mark : Mt := (RX7, yX7_mark, cX7_mark, 4, (some .int), 2, 43)
def mX7_copy : Mt := (RX7, yX7_copy, cX7_copy, 4, none, 0, 0)
def mX7_keep : Mt := (RX7, yX7_keep, cX7_keep, 2, (some .int), 1, 23)
def mX7_back : Mt := (RX7, yX7_back, cX7_back, 2, (some .int), 1, 23)
def mX7_count : Mt := (RX7, yX7_count, cX7_count, 4, (some .int), 0, 0)
def mX7_trace : Mt := (RX7, yX7_trace, cX7_trace, 1, (some .long), 0, 0)
def mJ6_bitCount_0f7a4 : Mt := (RJ6, yJ6_bitCount_0f7a4, cJ6_bitCount_0f7a4, 1, (some .int), 0, 0)
theorem fX0_19 : Fld RX0 19 2 0 (0, 0) .int false := ⟨RX2, TX2, 7, tyX2, kcX2, by decide, rfl, (wsA_in (tb1 (List.mem_of_getElem? (i := 99) rfl)) rfl), rfl, rfl⟩
theorem fX0_25 : Fld RX0 25 0 0 (0, 0) .int false := ⟨RX0, TX0, 3, tyX0, kcX0, by decide, rfl, (wsA_in (tb1 (List.mem_of_getElem? (i := 81) rfl)) rfl), rfl, rfl⟩
theorem fX0_26 : Fld RX0 26 2 2 (2, 1) (.array .int) true := ⟨RX2, TX2, 7, tyX2, kcX2, by decide, rfl, (wsA_in (tb1 (List.mem_of_getElem? (i := 106) rfl)) rfl), rfl, rfl⟩
theorem fX0_29 : Fld RX0 29 2 4 (2, 3) (.array .int) true := ⟨RX2, TX2, 7, tyX2, kcX2, by decide, rfl, (wsA_in (tb1 (List.mem_of_getElem? (i := 113) rfl)) rfl), rfl, rfl⟩
theorem fX0_9 : Fld RX0 9 0 1 (2, 1) (.array .int) true := ⟨RX0, TX0, 3, tyX0, kcX0, by decide, rfl, (wsA_in (tb1 (List.mem_of_getElem? (i := 82) rfl)) rfl), rfl, rfl⟩
theorem vX0_32 : Cond.methodLink RX0 32 Lib.Math.max.name ∈ wsA ∧ Cond.static Lib.Math.max.name ∈ wsA ∧ Cond.initialized "java/lang/Math" ∈ wsA ∧ Cond.code Lib.Math.max.name Lib.Math.max.code 2 (some .int) ∈ wsA := ⟨(wsA_in (tb3 (List.mem_of_getElem? (i := 112) rfl)) rfl), (wsA_in (tb2 (List.mem_of_getElem? (i := 139) rfl)) rfl), (wsA_in (tb1 (List.mem_of_getElem? (i := 9) rfl)) rfl), (wsA_in (tb2 (List.mem_of_getElem? (i := 140) rfl)) rfl)⟩
theorem vX0_38 : Cv RX0 38 mX1_minutesFor 2 := ⟨(wsA_in (tb3 (List.mem_of_getElem? (i := 113) rfl)) rfl), (wsA_in (tb2 (List.mem_of_getElem? (i := 142) rfl)) rfl), (wsA_in (tb2 (List.mem_of_getElem? (i := 143) rfl)) rfl), (wsA_in (tb1 (List.mem_of_getElem? (i := 7) rfl)) rfl), (wsA_in (tb2 (List.mem_of_getElem? (i := 144) rfl)) rfl), by decide +kernel⟩
theorem fX0_15 : Fld RX0 15 0 2 (2, 2) (.array .long) true := ⟨RX0, TX0, 3, tyX0, kcX0, by decide, rfl, (wsA_in (tb1 (List.mem_of_getElem? (i := 83) rfl)) rfl), rfl, rfl⟩
theorem vX0_43 : Cv RX0 43 mX1_sunWay 2 := ⟨(wsA_in (tb3 (List.mem_of_getElem? (i := 118) rfl)) rfl), (wsA_in (tb2 (List.mem_of_getElem? (i := 189) rfl)) rfl), (wsA_in (tb2 (List.mem_of_getElem? (i := 190) rfl)) rfl), (wsA_in (tb1 (List.mem_of_getElem? (i := 7) rfl)) rfl), (wsA_in (tb2 (List.mem_of_getElem? (i := 191) rfl)) rfl), by decide +kernel⟩
theorem vX0_46 : Cv RX0 46 mX0_chanceMinute 3 := ⟨(wsA_in (tb3 (List.mem_of_getElem? (i := 119) rfl)) rfl), (wsA_in (tb3 (List.mem_of_getElem? (i := 121) rfl)) rfl), (wsA_in (tb0 (List.mem_of_getElem? (i := 21) rfl)) rfl), (wsA_in (tb1 (List.mem_of_getElem? (i := 4) rfl)) rfl), (wsA_in (tb3 (List.mem_of_getElem? (i := 122) rfl)) rfl), by decide +kernel⟩
theorem vX0_50 : Cond.methodLink RX0 50 Lib.Math.min.name ∈ wsA ∧ Cond.static Lib.Math.min.name ∈ wsA ∧ Cond.initialized "java/lang/Math" ∈ wsA ∧ Cond.code Lib.Math.min.name Lib.Math.min.code 2 (some .int) ∈ wsA := ⟨(wsA_in (tb3 (List.mem_of_getElem? (i := 123) rfl)) rfl), (wsA_in (tb2 (List.mem_of_getElem? (i := 72) rfl)) rfl), (wsA_in (tb1 (List.mem_of_getElem? (i := 9) rfl)) rfl), (wsA_in (tb2 (List.mem_of_getElem? (i := 73) rfl)) rfl)⟩
theorem fX1_37 : Fld RX1 37 1 0 (0, 0) .int false := ⟨RX1, TX1, 14, tyX1, kcX1, by decide, rfl, (wsA_in (tb1 (List.mem_of_getElem? (i := 175) rfl)) rfl), rfl, rfl⟩
theorem fX1_41 : Fld RX1 41 1 1 (0, 0) .int false := ⟨RX1, TX1, 14, tyX1, kcX1, by decide, rfl, (wsA_in (tb1 (List.mem_of_getElem? (i := 178) rfl)) rfl), rfl, rfl⟩
theorem fX1_44 : Fld RX1 44 1 2 (0, 0) .int false := ⟨RX1, TX1, 14, tyX1, kcX1, by decide, rfl, (wsA_in (tb1 (List.mem_of_getElem? (i := 181) rfl)) rfl), rfl, rfl⟩
theorem fX1_47 : Fld RX1 47 1 3 (0, 0) .boolean false := ⟨RX1, TX1, 14, tyX1, kcX1, by decide, rfl, (wsA_in (tb1 (List.mem_of_getElem? (i := 184) rfl)) rfl), rfl, rfl⟩
theorem fX1_51 : Fld RX1 51 1 4 (0, 0) .int false := ⟨RX1, TX1, 14, tyX1, kcX1, by decide, rfl, (wsA_in (tb1 (List.mem_of_getElem? (i := 186) rfl)) rfl), rfl, rfl⟩
theorem fX1_54 : Fld RX1 54 1 5 (0, 0) .int false := ⟨RX1, TX1, 14, tyX1, kcX1, by decide, rfl, (wsA_in (tb1 (List.mem_of_getElem? (i := 189) rfl)) rfl), rfl, rfl⟩
theorem fX1_57 : Fld RX1 57 1 6 (0, 0) .int false := ⟨RX1, TX1, 14, tyX1, kcX1, by decide, rfl, (wsA_in (tb1 (List.mem_of_getElem? (i := 192) rfl)) rfl), rfl, rfl⟩
theorem fX1_60 : Fld RX1 60 1 7 (0, 0) .int false := ⟨RX1, TX1, 14, tyX1, kcX1, by decide, rfl, (wsA_in (tb1 (List.mem_of_getElem? (i := 196) rfl)) rfl), rfl, rfl⟩
theorem fX1_9 : Fld RX1 9 1 8 (2, 1) (.array .int) true := ⟨RX1, TX1, 14, tyX1, kcX1, by decide, rfl, (wsA_in (tb1 (List.mem_of_getElem? (i := 199) rfl)) rfl), rfl, rfl⟩
theorem fX1_15 : Fld RX1 15 1 9 (2, 2) (.array .int) true := ⟨RX1, TX1, 14, tyX1, kcX1, by decide, rfl, (wsA_in (tb1 (List.mem_of_getElem? (i := 202) rfl)) rfl), rfl, rfl⟩
theorem fX1_18 : Fld RX1 18 1 10 (2, 3) (.array .int) true := ⟨RX1, TX1, 14, tyX1, kcX1, by decide, rfl, (wsA_in (tb1 (List.mem_of_getElem? (i := 204) rfl)) rfl), rfl, rfl⟩
theorem fX1_30 : Fld RX1 30 1 13 (2, 6) (.object "WheelTown$Moment") true := ⟨RX1, TX1, 14, tyX1, kcX1, by decide, rfl, (wsA_in (tb1 (List.mem_of_getElem? (i := 209) rfl)) rfl), rfl, rfl⟩
theorem fX1_63 : Fld RX1 63 2 2 (2, 1) (.array .int) true := ⟨RX2, TX2, 7, tyX2, kcX2, by decide, rfl, (wsA_in (tb1 (List.mem_of_getElem? (i := 107) rfl)) rfl), rfl, rfl⟩
theorem fX1_66 : Fld RX1 66 2 3 (2, 2) (.array .int) true := ⟨RX2, TX2, 7, tyX2, kcX2, by decide, rfl, (wsA_in (tb1 (List.mem_of_getElem? (i := 110) rfl)) rfl), rfl, rfl⟩
theorem fX1_21 : Fld RX1 21 1 11 (2, 4) (.array .int) true := ⟨RX1, TX1, 14, tyX1, kcX1, by decide, rfl, (wsA_in (tb1 (List.mem_of_getElem? (i := 207) rfl)) rfl), rfl, rfl⟩
theorem fX1_24 : Fld RX1 24 1 12 (2, 5) (.array .int) true := ⟨RX1, TX1, 14, tyX1, kcX1, by decide, rfl, (wsA_in (tb1 (List.mem_of_getElem? (i := 208) rfl)) rfl), rfl, rfl⟩
theorem vX1_69 : Cv RX1 69 mX1_joinPaces 0 := ⟨(wsA_in (tb2 (List.mem_of_getElem? (i := 130) rfl)) rfl), (wsA_in (tb2 (List.mem_of_getElem? (i := 132) rfl)) rfl), (wsA_in (tb0 (List.mem_of_getElem? (i := 12) rfl)) rfl), (wsA_in (tb1 (List.mem_of_getElem? (i := 7) rfl)) rfl), (wsA_in (tb2 (List.mem_of_getElem? (i := 133) rfl)) rfl), by decide +kernel⟩
theorem fX1_72 : Fld RX1 72 2 4 (2, 3) (.array .int) true := ⟨RX2, TX2, 7, tyX2, kcX2, by decide, rfl, (wsA_in (tb1 (List.mem_of_getElem? (i := 114) rfl)) rfl), rfl, rfl⟩
theorem vX1_75 : Cv RX1 75 mX1_minutesFor 2 := ⟨(wsA_in (tb2 (List.mem_of_getElem? (i := 141) rfl)) rfl), (wsA_in (tb2 (List.mem_of_getElem? (i := 142) rfl)) rfl), (wsA_in (tb2 (List.mem_of_getElem? (i := 143) rfl)) rfl), (wsA_in (tb1 (List.mem_of_getElem? (i := 7) rfl)) rfl), (wsA_in (tb2 (List.mem_of_getElem? (i := 144) rfl)) rfl), by decide +kernel⟩
theorem vX1_79 : Cv RX1 79 mX1_hasWagon 1 := ⟨(wsA_in (tb2 (List.mem_of_getElem? (i := 134) rfl)) rfl), (wsA_in (tb2 (List.mem_of_getElem? (i := 135) rfl)) rfl), (wsA_in (tb2 (List.mem_of_getElem? (i := 136) rfl)) rfl), (wsA_in (tb1 (List.mem_of_getElem? (i := 7) rfl)) rfl), (wsA_in (tb2 (List.mem_of_getElem? (i := 137) rfl)) rfl), by decide +kernel⟩
theorem vX1_83 : Cond.methodLink RX1 83 Lib.Math.max.name ∈ wsA ∧ Cond.static Lib.Math.max.name ∈ wsA ∧ Cond.initialized "java/lang/Math" ∈ wsA ∧ Cond.code Lib.Math.max.name Lib.Math.max.code 2 (some .int) ∈ wsA := ⟨(wsA_in (tb2 (List.mem_of_getElem? (i := 138) rfl)) rfl), (wsA_in (tb2 (List.mem_of_getElem? (i := 139) rfl)) rfl), (wsA_in (tb1 (List.mem_of_getElem? (i := 9) rfl)) rfl), (wsA_in (tb2 (List.mem_of_getElem? (i := 140) rfl)) rfl)⟩
theorem vX1_88 : Cv RX1 88 mX1_placeOf 1 := ⟨(wsA_in (tb2 (List.mem_of_getElem? (i := 145) rfl)) rfl), (wsA_in (tb2 (List.mem_of_getElem? (i := 146) rfl)) rfl), (wsA_in (tb2 (List.mem_of_getElem? (i := 147) rfl)) rfl), (wsA_in (tb1 (List.mem_of_getElem? (i := 7) rfl)) rfl), (wsA_in (tb2 (List.mem_of_getElem? (i := 148) rfl)) rfl), by decide +kernel⟩
theorem vX1_92 : Cv RX1 92 mX1_hasPlace 1 := ⟨(wsA_in (tb2 (List.mem_of_getElem? (i := 149) rfl)) rfl), (wsA_in (tb2 (List.mem_of_getElem? (i := 91) rfl)) rfl), (wsA_in (tb2 (List.mem_of_getElem? (i := 92) rfl)) rfl), (wsA_in (tb1 (List.mem_of_getElem? (i := 7) rfl)) rfl), (wsA_in (tb2 (List.mem_of_getElem? (i := 93) rfl)) rfl), by decide +kernel⟩
theorem vX1_95 : Cv RX1 95 mX1_foremost 2 := ⟨(wsA_in (tb2 (List.mem_of_getElem? (i := 208) rfl)) rfl), (wsA_in (tb2 (List.mem_of_getElem? (i := 210) rfl)) rfl), (wsA_in (tb0 (List.mem_of_getElem? (i := 14) rfl)) rfl), (wsA_in (tb1 (List.mem_of_getElem? (i := 7) rfl)) rfl), (wsA_in (tb2 (List.mem_of_getElem? (i := 211) rfl)) rfl), by decide +kernel⟩
theorem vX1_99 : Cv RX1 99 mX1_goOn 2 := ⟨(wsA_in (tb2 (List.mem_of_getElem? (i := 212) rfl)) rfl), (wsA_in (tb2 (List.mem_of_getElem? (i := 214) rfl)) rfl), (wsA_in (tb0 (List.mem_of_getElem? (i := 15) rfl)) rfl), (wsA_in (tb1 (List.mem_of_getElem? (i := 7) rfl)) rfl), (wsA_in (tb2 (List.mem_of_getElem? (i := 215) rfl)) rfl), by decide +kernel⟩
theorem fX1_103 : Fld RX1 103 2 0 (0, 0) .int false := ⟨RX2, TX2, 7, tyX2, kcX2, by decide, rfl, (wsA_in (tb1 (List.mem_of_getElem? (i := 101) rfl)) rfl), rfl, rfl⟩
theorem vX1_106 : Cv RX1 106 mX1_catchLate 1 := ⟨(wsA_in (tb2 (List.mem_of_getElem? (i := 221) rfl)) rfl), (wsA_in (tb2 (List.mem_of_getElem? (i := 223) rfl)) rfl), (wsA_in (tb0 (List.mem_of_getElem? (i := 17) rfl)) rfl), (wsA_in (tb1 (List.mem_of_getElem? (i := 7) rfl)) rfl), (wsA_in (tb2 (List.mem_of_getElem? (i := 224) rfl)) rfl), by decide +kernel⟩
theorem vX1_110 : Cv RX1 110 mX2_isCaught 1 := ⟨(wsA_in (tb2 (List.mem_of_getElem? (i := 216) rfl)) rfl), (wsA_in (tb2 (List.mem_of_getElem? (i := 172) rfl)) rfl), (wsA_in (tb2 (List.mem_of_getElem? (i := 173) rfl)) rfl), (wsA_in (tb1 (List.mem_of_getElem? (i := 5) rfl)) rfl), (wsA_in (tb2 (List.mem_of_getElem? (i := 174) rfl)) rfl), by decide +kernel⟩
theorem fX1_113 : Fld RX1 113 2 5 (2, 4) (.array .int) true := ⟨RX2, TX2, 7, tyX2, kcX2, by decide, rfl, (wsA_in (tb1 (List.mem_of_getElem? (i := 119) rfl)) rfl), rfl, rfl⟩
theorem fX1_116 : Fld RX1 116 2 6 (2, 5) (.array .int) true := ⟨RX2, TX2, 7, tyX2, kcX2, by decide, rfl, (wsA_in (tb1 (List.mem_of_getElem? (i := 123) rfl)) rfl), rfl, rfl⟩
theorem vX1_119 : Cv RX1 119 mX1_isBarred 3 := ⟨(wsA_in (tb2 (List.mem_of_getElem? (i := 217) rfl)) rfl), (wsA_in (tb2 (List.mem_of_getElem? (i := 219) rfl)) rfl), (wsA_in (tb0 (List.mem_of_getElem? (i := 16) rfl)) rfl), (wsA_in (tb1 (List.mem_of_getElem? (i := 7) rfl)) rfl), (wsA_in (tb2 (List.mem_of_getElem? (i := 220) rfl)) rfl), by decide +kernel⟩
theorem vX1_123 : Cv RX1 123 mX1_sunWay 2 := ⟨(wsA_in (tb2 (List.mem_of_getElem? (i := 225) rfl)) rfl), (wsA_in (tb2 (List.mem_of_getElem? (i := 189) rfl)) rfl), (wsA_in (tb2 (List.mem_of_getElem? (i := 190) rfl)) rfl), (wsA_in (tb1 (List.mem_of_getElem? (i := 7) rfl)) rfl), (wsA_in (tb2 (List.mem_of_getElem? (i := 191) rfl)) rfl), by decide +kernel⟩
theorem fX1_126 : Fld RX1 126 2 1 (0, 0) .int false := ⟨RX2, TX2, 7, tyX2, kcX2, by decide, rfl, (wsA_in (tb1 (List.mem_of_getElem? (i := 104) rfl)) rfl), rfl, rfl⟩
theorem vX1_129 : Cond.methodLink RX1 129 Lib.Math.min.name ∈ wsA ∧ Cond.static Lib.Math.min.name ∈ wsA ∧ Cond.initialized "java/lang/Math" ∈ wsA ∧ Cond.code Lib.Math.min.name Lib.Math.min.code 2 (some .int) ∈ wsA := ⟨(wsA_in (tb3 (List.mem_of_getElem? (i := 89) rfl)) rfl), (wsA_in (tb2 (List.mem_of_getElem? (i := 72) rfl)) rfl), (wsA_in (tb1 (List.mem_of_getElem? (i := 9) rfl)) rfl), (wsA_in (tb2 (List.mem_of_getElem? (i := 73) rfl)) rfl)⟩
theorem fX2_27 : Fld RX2 27 2 0 (0, 0) .int false := ⟨RX2, TX2, 7, tyX2, kcX2, by decide, rfl, (wsA_in (tb1 (List.mem_of_getElem? (i := 98) rfl)) rfl), rfl, rfl⟩
theorem fX2_31 : Fld RX2 31 2 1 (0, 0) .int false := ⟨RX2, TX2, 7, tyX2, kcX2, by decide, rfl, (wsA_in (tb1 (List.mem_of_getElem? (i := 102) rfl)) rfl), rfl, rfl⟩
theorem fX2_9 : Fld RX2 9 2 2 (2, 1) (.array .int) true := ⟨RX2, TX2, 7, tyX2, kcX2, by decide, rfl, (wsA_in (tb1 (List.mem_of_getElem? (i := 105) rfl)) rfl), rfl, rfl⟩
theorem vX2_34 : Cond.methodLink RX2 34 arraycopyName ∈ wsA ∧ Cond.native arraycopyName ∈ wsA ∧ Cond.static arraycopyName ∈ wsA ∧ Cond.initialized "java/lang/System" ∈ wsA := ⟨(wsA_in (tb2 (List.mem_of_getElem? (i := 158) rfl)) rfl), (wsA_in (tb2 (List.mem_of_getElem? (i := 160) rfl)) rfl), (wsA_in (tb2 (List.mem_of_getElem? (i := 159) rfl)) rfl), (wsA_in (tb1 (List.mem_of_getElem? (i := 10) rfl)) rfl)⟩
theorem fX2_15 : Fld RX2 15 2 3 (2, 2) (.array .int) true := ⟨RX2, TX2, 7, tyX2, kcX2, by decide, rfl, (wsA_in (tb1 (List.mem_of_getElem? (i := 109) rfl)) rfl), rfl, rfl⟩
theorem fX2_18 : Fld RX2 18 2 4 (2, 3) (.array .int) true := ⟨RX2, TX2, 7, tyX2, kcX2, by decide, rfl, (wsA_in (tb1 (List.mem_of_getElem? (i := 112) rfl)) rfl), rfl, rfl⟩
theorem fX2_21 : Fld RX2 21 2 5 (2, 4) (.array .int) true := ⟨RX2, TX2, 7, tyX2, kcX2, by decide, rfl, (wsA_in (tb1 (List.mem_of_getElem? (i := 116) rfl)) rfl), rfl, rfl⟩
theorem fX2_24 : Fld RX2 24 2 6 (2, 5) (.array .int) true := ⟨RX2, TX2, 7, tyX2, kcX2, by decide, rfl, (wsA_in (tb1 (List.mem_of_getElem? (i := 120) rfl)) rfl), rfl, rfl⟩
theorem fX3_21 : Fld RX3 21 3 0 (0, 0) .int false := ⟨RX3, TX3, 5, tyX3, kcX3, by decide, rfl, (wsA_in (tb1 (List.mem_of_getElem? (i := 56) rfl)) rfl), rfl, rfl⟩
theorem fX3_25 : Fld RX3 25 3 1 (0, 0) .int false := ⟨RX3, TX3, 5, tyX3, kcX3, by decide, rfl, (wsA_in (tb1 (List.mem_of_getElem? (i := 58) rfl)) rfl), rfl, rfl⟩
theorem vX3_28 : Cv RX3 28 mX3_gatherNone 0 := ⟨(wsA_in (tb3 (List.mem_of_getElem? (i := 55) rfl)) rfl), (wsA_in (tb3 (List.mem_of_getElem? (i := 34) rfl)) rfl), (wsA_in (tb3 (List.mem_of_getElem? (i := 35) rfl)) rfl), (wsA_in (tb1 (List.mem_of_getElem? (i := 3) rfl)) rfl), (wsA_in (tb3 (List.mem_of_getElem? (i := 36) rfl)) rfl), by decide +kernel⟩
theorem fX3_31 : Fld RX3 31 1 6 (0, 0) .int false := ⟨RX1, TX1, 14, tyX1, kcX1, by decide, rfl, (wsA_in (tb1 (List.mem_of_getElem? (i := 193) rfl)) rfl), rfl, rfl⟩
theorem fX3_36 : Fld RX3 36 1 10 (2, 3) (.array .int) true := ⟨RX1, TX1, 14, tyX1, kcX1, by decide, rfl, (wsA_in (tb1 (List.mem_of_getElem? (i := 205) rfl)) rfl), rfl, rfl⟩
theorem fX3_39 : Fld RX3 39 2 6 (2, 5) (.array .int) true := ⟨RX2, TX2, 7, tyX2, kcX2, by decide, rfl, (wsA_in (tb1 (List.mem_of_getElem? (i := 121) rfl)) rfl), rfl, rfl⟩
theorem fX3_44 : Fld RX3 44 2 5 (2, 4) (.array .int) true := ⟨RX2, TX2, 7, tyX2, kcX2, by decide, rfl, (wsA_in (tb1 (List.mem_of_getElem? (i := 117) rfl)) rfl), rfl, rfl⟩
theorem vX3_47 : Cv RX3 47 mX2_isCaught 1 := ⟨(wsA_in (tb3 (List.mem_of_getElem? (i := 46) rfl)) rfl), (wsA_in (tb2 (List.mem_of_getElem? (i := 172) rfl)) rfl), (wsA_in (tb2 (List.mem_of_getElem? (i := 173) rfl)) rfl), (wsA_in (tb1 (List.mem_of_getElem? (i := 5) rfl)) rfl), (wsA_in (tb2 (List.mem_of_getElem? (i := 174) rfl)) rfl), by decide +kernel⟩
theorem fX3_9 : Fld RX3 9 3 2 (2, 1) (.array .int) true := ⟨RX3, TX3, 5, tyX3, kcX3, by decide, rfl, (wsA_in (tb1 (List.mem_of_getElem? (i := 60) rfl)) rfl), rfl, rfl⟩
theorem fX3_15 : Fld RX3 15 3 3 (2, 2) (.array .int) true := ⟨RX3, TX3, 5, tyX3, kcX3, by decide, rfl, (wsA_in (tb1 (List.mem_of_getElem? (i := 62) rfl)) rfl), rfl, rfl⟩
theorem fX3_18 : Fld RX3 18 3 4 (2, 3) (.array .int) true := ⟨RX3, TX3, 5, tyX3, kcX3, by decide, rfl, (wsA_in (tb1 (List.mem_of_getElem? (i := 63) rfl)) rfl), rfl, rfl⟩
theorem fX4_15 : Fld RX4 15 4 1 (0, 0) .int false := ⟨RX4, TX4, 7, tyX4, kcX4, by decide, rfl, (wsA_in (tb1 (List.mem_of_getElem? (i := 27) rfl)) rfl), rfl, rfl⟩
theorem fX4_9 : Fld RX4 9 4 0 (2, 1) (.array .int) true := ⟨RX4, TX4, 7, tyX4, kcX4, by decide, rfl, (wsA_in (tb1 (List.mem_of_getElem? (i := 26) rfl)) rfl), rfl, rfl⟩
theorem fX4_19 : Fld RX4 19 4 2 (0, 0) .int false := ⟨RX4, TX4, 7, tyX4, kcX4, by decide, rfl, (wsA_in (tb1 (List.mem_of_getElem? (i := 29) rfl)) rfl), rfl, rfl⟩
theorem fX4_22 : Fld RX4 22 4 6 (0, 0) .boolean false := ⟨RX4, TX4, 7, tyX4, kcX4, by decide, rfl, (wsA_in (tb1 (List.mem_of_getElem? (i := 33) rfl)) rfl), rfl, rfl⟩
theorem vX4_26 : Cv RX4 26 mX4_readToken 0 := ⟨(wsA_in (tb2 (List.mem_of_getElem? (i := 53) rfl)) rfl), (wsA_in (tb2 (List.mem_of_getElem? (i := 55) rfl)) rfl), (wsA_in (tb0 (List.mem_of_getElem? (i := 0) rfl)) rfl), (wsA_in (tb1 (List.mem_of_getElem? (i := 2) rfl)) rfl), (wsA_in (tb2 (List.mem_of_getElem? (i := 56) rfl)) rfl), by decide +kernel⟩
theorem fX4_29 : Fld RX4 29 4 3 (0, 0) .int false := ⟨RX4, TX4, 7, tyX4, kcX4, by decide, rfl, (wsA_in (tb1 (List.mem_of_getElem? (i := 30) rfl)) rfl), rfl, rfl⟩
theorem vX4_32 : Cv RX4 32 mX4_tellItem 2 := ⟨(wsA_in (tb2 (List.mem_of_getElem? (i := 74) rfl)) rfl), (wsA_in (tb2 (List.mem_of_getElem? (i := 76) rfl)) rfl), (wsA_in (tb0 (List.mem_of_getElem? (i := 3) rfl)) rfl), (wsA_in (tb1 (List.mem_of_getElem? (i := 2) rfl)) rfl), (wsA_in (tb2 (List.mem_of_getElem? (i := 77) rfl)) rfl), by decide +kernel⟩
theorem vX4_36 : Cv RX4 36 mX4_readStop 0 := ⟨(wsA_in (tb2 (List.mem_of_getElem? (i := 122) rfl)) rfl), (wsA_in (tb2 (List.mem_of_getElem? (i := 124) rfl)) rfl), (wsA_in (tb0 (List.mem_of_getElem? (i := 11) rfl)) rfl), (wsA_in (tb1 (List.mem_of_getElem? (i := 2) rfl)) rfl), (wsA_in (tb2 (List.mem_of_getElem? (i := 125) rfl)) rfl), by decide +kernel⟩
theorem fX4_39 : Fld RX4 39 4 4 (0, 0) .int false := ⟨RX4, TX4, 7, tyX4, kcX4, by decide, rfl, (wsA_in (tb1 (List.mem_of_getElem? (i := 31) rfl)) rfl), rfl, rfl⟩
theorem fX4_42 : Fld RX4 42 4 5 (0, 0) .int false := ⟨RX4, TX4, 7, tyX4, kcX4, by decide, rfl, (wsA_in (tb1 (List.mem_of_getElem? (i := 32) rfl)) rfl), rfl, rfl⟩
theorem vX4_45 : Cv RX4 45 mX4_tellRing 2 := ⟨(wsA_in (tb2 (List.mem_of_getElem? (i := 78) rfl)) rfl), (wsA_in (tb2 (List.mem_of_getElem? (i := 80) rfl)) rfl), (wsA_in (tb0 (List.mem_of_getElem? (i := 4) rfl)) rfl), (wsA_in (tb1 (List.mem_of_getElem? (i := 2) rfl)) rfl), (wsA_in (tb2 (List.mem_of_getElem? (i := 81) rfl)) rfl), by decide +kernel⟩
theorem vX4_48 : Cv RX4 48 mX4_tellCost 1 := ⟨(wsA_in (tb2 (List.mem_of_getElem? (i := 86) rfl)) rfl), (wsA_in (tb2 (List.mem_of_getElem? (i := 88) rfl)) rfl), (wsA_in (tb0 (List.mem_of_getElem? (i := 6) rfl)) rfl), (wsA_in (tb1 (List.mem_of_getElem? (i := 2) rfl)) rfl), (wsA_in (tb2 (List.mem_of_getElem? (i := 89) rfl)) rfl), by decide +kernel⟩
theorem vX4_52 : Cv RX4 52 mX4_tellSun 1 := ⟨(wsA_in (tb2 (List.mem_of_getElem? (i := 94) rfl)) rfl), (wsA_in (tb2 (List.mem_of_getElem? (i := 96) rfl)) rfl), (wsA_in (tb0 (List.mem_of_getElem? (i := 7) rfl)) rfl), (wsA_in (tb1 (List.mem_of_getElem? (i := 2) rfl)) rfl), (wsA_in (tb2 (List.mem_of_getElem? (i := 97) rfl)) rfl), by decide +kernel⟩
theorem vX4_55 : Cv RX4 55 mX4_tellBridge 1 := ⟨(wsA_in (tb2 (List.mem_of_getElem? (i := 98) rfl)) rfl), (wsA_in (tb2 (List.mem_of_getElem? (i := 100) rfl)) rfl), (wsA_in (tb0 (List.mem_of_getElem? (i := 8) rfl)) rfl), (wsA_in (tb1 (List.mem_of_getElem? (i := 2) rfl)) rfl), (wsA_in (tb2 (List.mem_of_getElem? (i := 101) rfl)) rfl), by decide +kernel⟩
theorem fX4_58 : Fld RX4 58 1 5 (0, 0) .int false := ⟨RX1, TX1, 14, tyX1, kcX1, by decide, rfl, (wsA_in (tb1 (List.mem_of_getElem? (i := 190) rfl)) rfl), rfl, rfl⟩
theorem fX4_63 : Fld RX4 63 1 0 (0, 0) .int false := ⟨RX1, TX1, 14, tyX1, kcX1, by decide, rfl, (wsA_in (tb1 (List.mem_of_getElem? (i := 176) rfl)) rfl), rfl, rfl⟩
theorem vX4_66 : Cv RX4 66 mX4_readNumber 2 := ⟨(wsA_in (tb2 (List.mem_of_getElem? (i := 82) rfl)) rfl), (wsA_in (tb2 (List.mem_of_getElem? (i := 84) rfl)) rfl), (wsA_in (tb0 (List.mem_of_getElem? (i := 5) rfl)) rfl), (wsA_in (tb1 (List.mem_of_getElem? (i := 2) rfl)) rfl), (wsA_in (tb2 (List.mem_of_getElem? (i := 85) rfl)) rfl), by decide +kernel⟩
theorem vX4_70 : Cv RX4 70 mX4_tellWagon 1 := ⟨(wsA_in (tb2 (List.mem_of_getElem? (i := 102) rfl)) rfl), (wsA_in (tb2 (List.mem_of_getElem? (i := 104) rfl)) rfl), (wsA_in (tb0 (List.mem_of_getElem? (i := 9) rfl)) rfl), (wsA_in (tb1 (List.mem_of_getElem? (i := 2) rfl)) rfl), (wsA_in (tb2 (List.mem_of_getElem? (i := 105) rfl)) rfl), by decide +kernel⟩
theorem vX4_73 : Cv RX4 73 mX4_tellPair 1 := ⟨(wsA_in (tb2 (List.mem_of_getElem? (i := 114) rfl)) rfl), (wsA_in (tb2 (List.mem_of_getElem? (i := 116) rfl)) rfl), (wsA_in (tb0 (List.mem_of_getElem? (i := 10) rfl)) rfl), (wsA_in (tb1 (List.mem_of_getElem? (i := 2) rfl)) rfl), (wsA_in (tb2 (List.mem_of_getElem? (i := 117) rfl)) rfl), by decide +kernel⟩
theorem vX4_76 : Cv RX4 76 mX1_hasPlace 1 := ⟨(wsA_in (tb2 (List.mem_of_getElem? (i := 90) rfl)) rfl), (wsA_in (tb2 (List.mem_of_getElem? (i := 91) rfl)) rfl), (wsA_in (tb2 (List.mem_of_getElem? (i := 92) rfl)) rfl), (wsA_in (tb1 (List.mem_of_getElem? (i := 7) rfl)) rfl), (wsA_in (tb2 (List.mem_of_getElem? (i := 93) rfl)) rfl), by decide +kernel⟩
theorem fX4_80 : Fld RX4 80 1 8 (2, 1) (.array .int) true := ⟨RX1, TX1, 14, tyX1, kcX1, by decide, rfl, (wsA_in (tb1 (List.mem_of_getElem? (i := 201) rfl)) rfl), rfl, rfl⟩
theorem fX4_83 : Fld RX4 83 1 3 (0, 0) .boolean false := ⟨RX1, TX1, 14, tyX1, kcX1, by decide, rfl, (wsA_in (tb1 (List.mem_of_getElem? (i := 185) rfl)) rfl), rfl, rfl⟩
theorem fX4_86 : Fld RX4 86 1 1 (0, 0) .int false := ⟨RX1, TX1, 14, tyX1, kcX1, by decide, rfl, (wsA_in (tb1 (List.mem_of_getElem? (i := 179) rfl)) rfl), rfl, rfl⟩
theorem fX4_89 : Fld RX4 89 1 2 (0, 0) .int false := ⟨RX1, TX1, 14, tyX1, kcX1, by decide, rfl, (wsA_in (tb1 (List.mem_of_getElem? (i := 182) rfl)) rfl), rfl, rfl⟩
theorem fX4_92 : Fld RX4 92 1 4 (0, 0) .int false := ⟨RX1, TX1, 14, tyX1, kcX1, by decide, rfl, (wsA_in (tb1 (List.mem_of_getElem? (i := 188) rfl)) rfl), rfl, rfl⟩
theorem fX4_95 : Fld RX4 95 1 6 (0, 0) .int false := ⟨RX1, TX1, 14, tyX1, kcX1, by decide, rfl, (wsA_in (tb1 (List.mem_of_getElem? (i := 194) rfl)) rfl), rfl, rfl⟩
theorem fX4_98 : Fld RX4 98 1 13 (2, 6) (.object "WheelTown$Moment") true := ⟨RX1, TX1, 14, tyX1, kcX1, by decide, rfl, (wsA_in (tb1 (List.mem_of_getElem? (i := 211) rfl)) rfl), rfl, rfl⟩
theorem vX4_101 : Cv RX4 101 mX1_isTaken 3 := ⟨(wsA_in (tb2 (List.mem_of_getElem? (i := 106) rfl)) rfl), (wsA_in (tb2 (List.mem_of_getElem? (i := 107) rfl)) rfl), (wsA_in (tb2 (List.mem_of_getElem? (i := 108) rfl)) rfl), (wsA_in (tb1 (List.mem_of_getElem? (i := 7) rfl)) rfl), (wsA_in (tb2 (List.mem_of_getElem? (i := 109) rfl)) rfl), by decide +kernel⟩
theorem vX4_105 : Cv RX4 105 mX1_addWagon 4 := ⟨(wsA_in (tb2 (List.mem_of_getElem? (i := 110) rfl)) rfl), (wsA_in (tb2 (List.mem_of_getElem? (i := 111) rfl)) rfl), (wsA_in (tb2 (List.mem_of_getElem? (i := 112) rfl)) rfl), (wsA_in (tb1 (List.mem_of_getElem? (i := 7) rfl)) rfl), (wsA_in (tb2 (List.mem_of_getElem? (i := 113) rfl)) rfl), by decide +kernel⟩
theorem fX4_109 : Fld RX4 109 1 7 (0, 0) .int false := ⟨RX1, TX1, 14, tyX1, kcX1, by decide, rfl, (wsA_in (tb1 (List.mem_of_getElem? (i := 197) rfl)) rfl), rfl, rfl⟩
theorem vX4_112 : Cv RX4 112 mX1_addPair 2 := ⟨(wsA_in (tb2 (List.mem_of_getElem? (i := 118) rfl)) rfl), (wsA_in (tb2 (List.mem_of_getElem? (i := 119) rfl)) rfl), (wsA_in (tb2 (List.mem_of_getElem? (i := 120) rfl)) rfl), (wsA_in (tb1 (List.mem_of_getElem? (i := 7) rfl)) rfl), (wsA_in (tb2 (List.mem_of_getElem? (i := 121) rfl)) rfl), by decide +kernel⟩
theorem vX4_116 : Cst RX4 116 mX4_isLetter 1 := ⟨(wsA_in (tb2 (List.mem_of_getElem? (i := 57) rfl)) rfl), (wsA_in (tb2 (List.mem_of_getElem? (i := 58) rfl)) rfl), (wsA_in (tb1 (List.mem_of_getElem? (i := 2) rfl)) rfl), (wsA_in (tb2 (List.mem_of_getElem? (i := 59) rfl)) rfl), by decide +kernel⟩
theorem vX4_119 : Cv RX4 119 mX4_readLetters 0 := ⟨(wsA_in (tb2 (List.mem_of_getElem? (i := 60) rfl)) rfl), (wsA_in (tb2 (List.mem_of_getElem? (i := 62) rfl)) rfl), (wsA_in (tb0 (List.mem_of_getElem? (i := 1) rfl)) rfl), (wsA_in (tb1 (List.mem_of_getElem? (i := 2) rfl)) rfl), (wsA_in (tb2 (List.mem_of_getElem? (i := 63) rfl)) rfl), by decide +kernel⟩
theorem vX4_122 : Cst RX4 122 mX4_isDigit 1 := ⟨(wsA_in (tb2 (List.mem_of_getElem? (i := 64) rfl)) rfl), (wsA_in (tb2 (List.mem_of_getElem? (i := 65) rfl)) rfl), (wsA_in (tb1 (List.mem_of_getElem? (i := 2) rfl)) rfl), (wsA_in (tb2 (List.mem_of_getElem? (i := 66) rfl)) rfl), by decide +kernel⟩
theorem vX4_125 : Cv RX4 125 mX4_readDigits 0 := ⟨(wsA_in (tb2 (List.mem_of_getElem? (i := 67) rfl)) rfl), (wsA_in (tb2 (List.mem_of_getElem? (i := 69) rfl)) rfl), (wsA_in (tb0 (List.mem_of_getElem? (i := 2) rfl)) rfl), (wsA_in (tb1 (List.mem_of_getElem? (i := 2) rfl)) rfl), (wsA_in (tb2 (List.mem_of_getElem? (i := 70) rfl)) rfl), by decide +kernel⟩
theorem vX4_128 : Cond.methodLink RX4 128 Lib.Math.min.name ∈ wsA ∧ Cond.static Lib.Math.min.name ∈ wsA ∧ Cond.initialized "java/lang/Math" ∈ wsA ∧ Cond.code Lib.Math.min.name Lib.Math.min.code 2 (some .int) ∈ wsA := ⟨(wsA_in (tb2 (List.mem_of_getElem? (i := 71) rfl)) rfl), (wsA_in (tb2 (List.mem_of_getElem? (i := 72) rfl)) rfl), (wsA_in (tb1 (List.mem_of_getElem? (i := 9) rfl)) rfl), (wsA_in (tb2 (List.mem_of_getElem? (i := 73) rfl)) rfl)⟩
theorem fX5_12 : Fld RX5 12 5 0 (2, 1) (.object "WheelTown$Moment") true := ⟨RX5, TX5, 4, tyX5, kcX5, by decide, rfl, (wsA_in (tb1 (List.mem_of_getElem? (i := 148) rfl)) rfl), rfl, rfl⟩
theorem vX5_22 : Cv RX5 22 mX2_copyFrom 1 := ⟨(wsA_in (tb2 (List.mem_of_getElem? (i := 154) rfl)) rfl), (wsA_in (tb2 (List.mem_of_getElem? (i := 155) rfl)) rfl), (wsA_in (tb2 (List.mem_of_getElem? (i := 156) rfl)) rfl), (wsA_in (tb1 (List.mem_of_getElem? (i := 5) rfl)) rfl), (wsA_in (tb2 (List.mem_of_getElem? (i := 157) rfl)) rfl), by decide +kernel⟩
theorem fX5_26 : Fld RX5 26 5 2 (0, 0) .int false := ⟨RX5, TX5, 4, tyX5, kcX5, by decide, rfl, (wsA_in (tb1 (List.mem_of_getElem? (i := 151) rfl)) rfl), rfl, rfl⟩
theorem vX5_30 : Cv RX5 30 mX5_loseOldest 0 := ⟨(wsA_in (tb2 (List.mem_of_getElem? (i := 200) rfl)) rfl), (wsA_in (tb2 (List.mem_of_getElem? (i := 202) rfl)) rfl), (wsA_in (tb0 (List.mem_of_getElem? (i := 13) rfl)) rfl), (wsA_in (tb1 (List.mem_of_getElem? (i := 6) rfl)) rfl), (wsA_in (tb2 (List.mem_of_getElem? (i := 203) rfl)) rfl), by decide +kernel⟩
theorem fX5_18 : Fld RX5 18 5 1 (2, 7) (.array (.object "WheelTown$Moment")) true := ⟨RX5, TX5, 4, tyX5, kcX5, by decide, rfl, (wsA_in (tb1 (List.mem_of_getElem? (i := 150) rfl)) rfl), rfl, rfl⟩
theorem fX6_10 : Fld RX6 10 6 0 (2, 1) (.object "WheelTown$Reader") true := ⟨RX6, TX6, 10, tyX6, kcX6, by decide, rfl, (wsA_in (tb2 (List.mem_of_getElem? (i := 1) rfl)) rfl), rfl, rfl⟩
theorem vX6_60 : Cv RX6 60 mX4_add 1 := ⟨(wsA_in (tb2 (List.mem_of_getElem? (i := 36) rfl)) rfl), (wsA_in (tb2 (List.mem_of_getElem? (i := 37) rfl)) rfl), (wsA_in (tb2 (List.mem_of_getElem? (i := 38) rfl)) rfl), (wsA_in (tb1 (List.mem_of_getElem? (i := 2) rfl)) rfl), (wsA_in (tb2 (List.mem_of_getElem? (i := 39) rfl)) rfl), by decide +kernel⟩
theorem fX6_64 : Fld RX6 64 4 1 (0, 0) .int false := ⟨RX4, TX4, 7, tyX4, kcX4, by decide, rfl, (wsA_in (tb1 (List.mem_of_getElem? (i := 28) rfl)) rfl), rfl, rfl⟩
theorem fX6_57 : Fld RX6 57 6 8 (3, 0) (.object "WheelTown$Ground") false := ⟨RX6, TX6, 10, tyX6, kcX6, by decide, rfl, (wsA_in (tb2 (List.mem_of_getElem? (i := 9) rfl)) rfl), rfl, rfl⟩
theorem vX6_68 : Cv RX6 68 mX1_reset 0 := ⟨(wsA_in (tb2 (List.mem_of_getElem? (i := 48) rfl)) rfl), (wsA_in (tb1 (List.mem_of_getElem? (i := 172) rfl)) rfl), (wsA_in (tb1 (List.mem_of_getElem? (i := 173) rfl)) rfl), (wsA_in (tb1 (List.mem_of_getElem? (i := 7) rfl)) rfl), (wsA_in (tb1 (List.mem_of_getElem? (i := 174) rfl)) rfl), by decide +kernel⟩
theorem vX6_71 : Cv RX6 71 mX4_tell 1 := ⟨(wsA_in (tb2 (List.mem_of_getElem? (i := 49) rfl)) rfl), (wsA_in (tb2 (List.mem_of_getElem? (i := 50) rfl)) rfl), (wsA_in (tb2 (List.mem_of_getElem? (i := 51) rfl)) rfl), (wsA_in (tb1 (List.mem_of_getElem? (i := 2) rfl)) rfl), (wsA_in (tb2 (List.mem_of_getElem? (i := 52) rfl)) rfl), by decide +kernel⟩
theorem vX6_75 : Cv RX6 75 mX1_settle 0 := ⟨(wsA_in (tb2 (List.mem_of_getElem? (i := 126) rfl)) rfl), (wsA_in (tb2 (List.mem_of_getElem? (i := 127) rfl)) rfl), (wsA_in (tb2 (List.mem_of_getElem? (i := 128) rfl)) rfl), (wsA_in (tb1 (List.mem_of_getElem? (i := 7) rfl)) rfl), (wsA_in (tb2 (List.mem_of_getElem? (i := 129) rfl)) rfl), by decide +kernel⟩
theorem fX6_53 : Fld RX6 53 6 7 (3, 0) (.object "WheelTown$Ground") false := ⟨RX6, TX6, 10, tyX6, kcX6, by decide, rfl, (wsA_in (tb2 (List.mem_of_getElem? (i := 8) rfl)) rfl), rfl, rfl⟩
theorem fX6_40 : Fld RX6 40 6 4 (2, 16) (.object "WheelTown$Story") true := ⟨RX6, TX6, 10, tyX6, kcX6, by decide, rfl, (wsA_in (tb2 (List.mem_of_getElem? (i := 5) rfl)) rfl), rfl, rfl⟩
theorem fX6_78 : Fld RX6 78 1 13 (2, 6) (.object "WheelTown$Moment") true := ⟨RX1, TX1, 14, tyX1, kcX1, by decide, rfl, (wsA_in (tb1 (List.mem_of_getElem? (i := 210) rfl)) rfl), rfl, rfl⟩
theorem vX6_81 : Cv RX6 81 mX5_begin 1 := ⟨(wsA_in (tb2 (List.mem_of_getElem? (i := 150) rfl)) rfl), (wsA_in (tb2 (List.mem_of_getElem? (i := 151) rfl)) rfl), (wsA_in (tb2 (List.mem_of_getElem? (i := 152) rfl)) rfl), (wsA_in (tb1 (List.mem_of_getElem? (i := 6) rfl)) rfl), (wsA_in (tb2 (List.mem_of_getElem? (i := 153) rfl)) rfl), by decide +kernel⟩
theorem fX6_44 : Fld RX6 44 6 5 (2, 84) (.object "WheelTown$Story") true := ⟨RX6, TX6, 10, tyX6, kcX6, by decide, rfl, (wsA_in (tb2 (List.mem_of_getElem? (i := 6) rfl)) rfl), rfl, rfl⟩
theorem fX6_85 : Fld RX6 85 5 3 (0, 0) .boolean false := ⟨RX5, TX5, 4, tyX5, kcX5, by decide, rfl, (wsA_in (tb1 (List.mem_of_getElem? (i := 153) rfl)) rfl), rfl, rfl⟩
theorem fX6_47 : Fld RX6 47 6 6 (2, 152) (.object "WheelTown$Story") true := ⟨RX6, TX6, 10, tyX6, kcX6, by decide, rfl, (wsA_in (tb2 (List.mem_of_getElem? (i := 7) rfl)) rfl), rfl, rfl⟩
theorem vX6_89 : Cv RX6 89 mX1_hasPlace 1 := ⟨(wsA_in (tb2 (List.mem_of_getElem? (i := 165) rfl)) rfl), (wsA_in (tb2 (List.mem_of_getElem? (i := 91) rfl)) rfl), (wsA_in (tb2 (List.mem_of_getElem? (i := 92) rfl)) rfl), (wsA_in (tb1 (List.mem_of_getElem? (i := 7) rfl)) rfl), (wsA_in (tb2 (List.mem_of_getElem? (i := 93) rfl)) rfl), by decide +kernel⟩
theorem fX6_92 : Fld RX6 92 1 8 (2, 1) (.array .int) true := ⟨RX1, TX1, 14, tyX1, kcX1, by decide, rfl, (wsA_in (tb1 (List.mem_of_getElem? (i := 200) rfl)) rfl), rfl, rfl⟩
theorem fX6_96 : Fld RX6 96 1 5 (0, 0) .int false := ⟨RX1, TX1, 14, tyX1, kcX1, by decide, rfl, (wsA_in (tb1 (List.mem_of_getElem? (i := 191) rfl)) rfl), rfl, rfl⟩
theorem fX6_99 : Fld RX6 99 1 4 (0, 0) .int false := ⟨RX1, TX1, 14, tyX1, kcX1, by decide, rfl, (wsA_in (tb1 (List.mem_of_getElem? (i := 187) rfl)) rfl), rfl, rfl⟩
theorem vX6_102 : Cv RX6 102 mX1_hasWagon 1 := ⟨(wsA_in (tb2 (List.mem_of_getElem? (i := 170) rfl)) rfl), (wsA_in (tb2 (List.mem_of_getElem? (i := 135) rfl)) rfl), (wsA_in (tb2 (List.mem_of_getElem? (i := 136) rfl)) rfl), (wsA_in (tb1 (List.mem_of_getElem? (i := 7) rfl)) rfl), (wsA_in (tb2 (List.mem_of_getElem? (i := 137) rfl)) rfl), by decide +kernel⟩
theorem fX6_105 : Fld RX6 105 5 0 (2, 1) (.object "WheelTown$Moment") true := ⟨RX5, TX5, 4, tyX5, kcX5, by decide, rfl, (wsA_in (tb1 (List.mem_of_getElem? (i := 149) rfl)) rfl), rfl, rfl⟩
theorem fX6_108 : Fld RX6 108 2 2 (2, 1) (.array .int) true := ⟨RX2, TX2, 7, tyX2, kcX2, by decide, rfl, (wsA_in (tb1 (List.mem_of_getElem? (i := 108) rfl)) rfl), rfl, rfl⟩
theorem fX6_111 : Fld RX6 111 1 9 (2, 2) (.array .int) true := ⟨RX1, TX1, 14, tyX1, kcX1, by decide, rfl, (wsA_in (tb1 (List.mem_of_getElem? (i := 203) rfl)) rfl), rfl, rfl⟩
theorem fX6_114 : Fld RX6 114 1 10 (2, 3) (.array .int) true := ⟨RX1, TX1, 14, tyX1, kcX1, by decide, rfl, (wsA_in (tb1 (List.mem_of_getElem? (i := 206) rfl)) rfl), rfl, rfl⟩
theorem fX6_117 : Fld RX6 117 2 3 (2, 2) (.array .int) true := ⟨RX2, TX2, 7, tyX2, kcX2, by decide, rfl, (wsA_in (tb1 (List.mem_of_getElem? (i := 111) rfl)) rfl), rfl, rfl⟩
theorem fX6_120 : Fld RX6 120 2 4 (2, 3) (.array .int) true := ⟨RX2, TX2, 7, tyX2, kcX2, by decide, rfl, (wsA_in (tb1 (List.mem_of_getElem? (i := 115) rfl)) rfl), rfl, rfl⟩
theorem fX6_123 : Fld RX6 123 2 5 (2, 4) (.array .int) true := ⟨RX2, TX2, 7, tyX2, kcX2, by decide, rfl, (wsA_in (tb1 (List.mem_of_getElem? (i := 118) rfl)) rfl), rfl, rfl⟩
theorem fX6_126 : Fld RX6 126 2 6 (2, 5) (.array .int) true := ⟨RX2, TX2, 7, tyX2, kcX2, by decide, rfl, (wsA_in (tb1 (List.mem_of_getElem? (i := 122) rfl)) rfl), rfl, rfl⟩
theorem vX6_129 : Cv RX6 129 mX2_isCaught 1 := ⟨(wsA_in (tb2 (List.mem_of_getElem? (i := 171) rfl)) rfl), (wsA_in (tb2 (List.mem_of_getElem? (i := 172) rfl)) rfl), (wsA_in (tb2 (List.mem_of_getElem? (i := 173) rfl)) rfl), (wsA_in (tb1 (List.mem_of_getElem? (i := 5) rfl)) rfl), (wsA_in (tb2 (List.mem_of_getElem? (i := 174) rfl)) rfl), by decide +kernel⟩
theorem fX6_132 : Fld RX6 132 2 0 (0, 0) .int false := ⟨RX2, TX2, 7, tyX2, kcX2, by decide, rfl, (wsA_in (tb1 (List.mem_of_getElem? (i := 100) rfl)) rfl), rfl, rfl⟩
theorem fX6_135 : Fld RX6 135 1 0 (0, 0) .int false := ⟨RX1, TX1, 14, tyX1, kcX1, by decide, rfl, (wsA_in (tb1 (List.mem_of_getElem? (i := 177) rfl)) rfl), rfl, rfl⟩
theorem fX6_138 : Fld RX6 138 1 1 (0, 0) .int false := ⟨RX1, TX1, 14, tyX1, kcX1, by decide, rfl, (wsA_in (tb1 (List.mem_of_getElem? (i := 180) rfl)) rfl), rfl, rfl⟩
theorem fX6_141 : Fld RX6 141 1 2 (0, 0) .int false := ⟨RX1, TX1, 14, tyX1, kcX1, by decide, rfl, (wsA_in (tb1 (List.mem_of_getElem? (i := 183) rfl)) rfl), rfl, rfl⟩
theorem fX6_144 : Fld RX6 144 2 1 (0, 0) .int false := ⟨RX2, TX2, 7, tyX2, kcX2, by decide, rfl, (wsA_in (tb1 (List.mem_of_getElem? (i := 103) rfl)) rfl), rfl, rfl⟩
theorem vX6_147 : Cv RX6 147 mX1_withWorkDone 1 := ⟨(wsA_in (tb2 (List.mem_of_getElem? (i := 179) rfl)) rfl), (wsA_in (tb2 (List.mem_of_getElem? (i := 180) rfl)) rfl), (wsA_in (tb2 (List.mem_of_getElem? (i := 181) rfl)) rfl), (wsA_in (tb1 (List.mem_of_getElem? (i := 7) rfl)) rfl), (wsA_in (tb2 (List.mem_of_getElem? (i := 182) rfl)) rfl), by decide +kernel⟩
theorem kX6_151 : Cond.constant RX6 151 (-1000000) ∈ wsA := (wsA_in (tb2 (List.mem_of_getElem? (i := 187) rfl)) rfl)
theorem vX6_152 : Cv RX6 152 mX1_sunWay 2 := ⟨(wsA_in (tb2 (List.mem_of_getElem? (i := 188) rfl)) rfl), (wsA_in (tb2 (List.mem_of_getElem? (i := 189) rfl)) rfl), (wsA_in (tb2 (List.mem_of_getElem? (i := 190) rfl)) rfl), (wsA_in (tb1 (List.mem_of_getElem? (i := 7) rfl)) rfl), (wsA_in (tb2 (List.mem_of_getElem? (i := 191) rfl)) rfl), by decide +kernel⟩
theorem vX6_156 : Cv RX6 156 mX5_remember 0 := ⟨(wsA_in (tb2 (List.mem_of_getElem? (i := 196) rfl)) rfl), (wsA_in (tb2 (List.mem_of_getElem? (i := 197) rfl)) rfl), (wsA_in (tb2 (List.mem_of_getElem? (i := 198) rfl)) rfl), (wsA_in (tb1 (List.mem_of_getElem? (i := 6) rfl)) rfl), (wsA_in (tb2 (List.mem_of_getElem? (i := 199) rfl)) rfl), by decide +kernel⟩
theorem vX6_159 : Cv RX6 159 mX1_pass 1 := ⟨(wsA_in (tb2 (List.mem_of_getElem? (i := 204) rfl)) rfl), (wsA_in (tb2 (List.mem_of_getElem? (i := 205) rfl)) rfl), (wsA_in (tb2 (List.mem_of_getElem? (i := 206) rfl)) rfl), (wsA_in (tb1 (List.mem_of_getElem? (i := 7) rfl)) rfl), (wsA_in (tb2 (List.mem_of_getElem? (i := 207) rfl)) rfl), by decide +kernel⟩
theorem vX6_162 : Cst RX6 162 mJ6_bitCount_0f7a4 1 := ⟨(wsA_in (tb2 (List.mem_of_getElem? (i := 226) rfl)) rfl), (wsA_in (tb2 (List.mem_of_getElem? (i := 227) rfl)) rfl), (wsA_in (tb1 (List.mem_of_getElem? (i := 11) rfl)) rfl), (wsA_in (tb2 (List.mem_of_getElem? (i := 228) rfl)) rfl), by decide +kernel⟩
theorem vX6_168 : Cv RX6 168 mX1_hasPoints 1 := ⟨(wsA_in (tb3 (List.mem_of_getElem? (i := 0) rfl)) rfl), (wsA_in (tb3 (List.mem_of_getElem? (i := 1) rfl)) rfl), (wsA_in (tb3 (List.mem_of_getElem? (i := 2) rfl)) rfl), (wsA_in (tb1 (List.mem_of_getElem? (i := 7) rfl)) rfl), (wsA_in (tb3 (List.mem_of_getElem? (i := 3) rfl)) rfl), by decide +kernel⟩
theorem vX6_171 : Cv RX6 171 mX1_isTaken 3 := ⟨(wsA_in (tb3 (List.mem_of_getElem? (i := 4) rfl)) rfl), (wsA_in (tb2 (List.mem_of_getElem? (i := 107) rfl)) rfl), (wsA_in (tb2 (List.mem_of_getElem? (i := 108) rfl)) rfl), (wsA_in (tb1 (List.mem_of_getElem? (i := 7) rfl)) rfl), (wsA_in (tb2 (List.mem_of_getElem? (i := 109) rfl)) rfl), by decide +kernel⟩
theorem vX6_175 : Cv RX6 175 mX5_takeBack 0 := ⟨(wsA_in (tb3 (List.mem_of_getElem? (i := 9) rfl)) rfl), (wsA_in (tb3 (List.mem_of_getElem? (i := 10) rfl)) rfl), (wsA_in (tb3 (List.mem_of_getElem? (i := 11) rfl)) rfl), (wsA_in (tb1 (List.mem_of_getElem? (i := 6) rfl)) rfl), (wsA_in (tb3 (List.mem_of_getElem? (i := 12) rfl)) rfl), by decide +kernel⟩
theorem fX6_179 : Fld RX6 179 5 2 (0, 0) .int false := ⟨RX5, TX5, 4, tyX5, kcX5, by decide, rfl, (wsA_in (tb1 (List.mem_of_getElem? (i := 152) rfl)) rfl), rfl, rfl⟩
theorem fX6_33 : Fld RX6 33 6 3 (2, 10) (.object "WheelTown$Moment") true := ⟨RX6, TX6, 10, tyX6, kcX6, by decide, rfl, (wsA_in (tb2 (List.mem_of_getElem? (i := 4) rfl)) rfl), rfl, rfl⟩
theorem vX6_182 : Cv RX6 182 mX2_copyFrom 1 := ⟨(wsA_in (tb3 (List.mem_of_getElem? (i := 17) rfl)) rfl), (wsA_in (tb2 (List.mem_of_getElem? (i := 155) rfl)) rfl), (wsA_in (tb2 (List.mem_of_getElem? (i := 156) rfl)) rfl), (wsA_in (tb1 (List.mem_of_getElem? (i := 5) rfl)) rfl), (wsA_in (tb2 (List.mem_of_getElem? (i := 157) rfl)) rfl), by decide +kernel⟩
theorem vX6_185 : Cst RX6 185 mX6_leastOf 1 := ⟨(wsA_in (tb3 (List.mem_of_getElem? (i := 22) rfl)) rfl), (wsA_in (tb3 (List.mem_of_getElem? (i := 23) rfl)) rfl), (wsA_in (tb1 (List.mem_of_getElem? (i := 1) rfl)) rfl), (wsA_in (tb3 (List.mem_of_getElem? (i := 24) rfl)) rfl), by decide +kernel⟩
theorem fX6_19 : Fld RX6 19 6 1 (2, 3) (.object "WheelTown$Plan") true := ⟨RX6, TX6, 10, tyX6, kcX6, by decide, rfl, (wsA_in (tb2 (List.mem_of_getElem? (i := 2) rfl)) rfl), rfl, rfl⟩
theorem vX6_188 : Cv RX6 188 mX3_gatherNone 0 := ⟨(wsA_in (tb3 (List.mem_of_getElem? (i := 33) rfl)) rfl), (wsA_in (tb3 (List.mem_of_getElem? (i := 34) rfl)) rfl), (wsA_in (tb3 (List.mem_of_getElem? (i := 35) rfl)) rfl), (wsA_in (tb1 (List.mem_of_getElem? (i := 3) rfl)) rfl), (wsA_in (tb3 (List.mem_of_getElem? (i := 36) rfl)) rfl), by decide +kernel⟩
theorem vX6_191 : Cond.methodLink RX6 191 Lib.Math.min.name ∈ wsA ∧ Cond.static Lib.Math.min.name ∈ wsA ∧ Cond.initialized "java/lang/Math" ∈ wsA ∧ Cond.code Lib.Math.min.name Lib.Math.min.code 2 (some .int) ∈ wsA := ⟨(wsA_in (tb3 (List.mem_of_getElem? (i := 37) rfl)) rfl), (wsA_in (tb2 (List.mem_of_getElem? (i := 72) rfl)) rfl), (wsA_in (tb1 (List.mem_of_getElem? (i := 9) rfl)) rfl), (wsA_in (tb2 (List.mem_of_getElem? (i := 73) rfl)) rfl)⟩
theorem vX6_196 : Cv RX6 196 mX6_isTrialSafe 0 := ⟨(wsA_in (tb3 (List.mem_of_getElem? (i := 38) rfl)) rfl), (wsA_in (tb3 (List.mem_of_getElem? (i := 40) rfl)) rfl), (wsA_in (tb0 (List.mem_of_getElem? (i := 18) rfl)) rfl), (wsA_in (tb1 (List.mem_of_getElem? (i := 1) rfl)) rfl), (wsA_in (tb3 (List.mem_of_getElem? (i := 41) rfl)) rfl), by decide +kernel⟩
theorem vX6_199 : Cv RX6 199 mX3_gather 2 := ⟨(wsA_in (tb3 (List.mem_of_getElem? (i := 51) rfl)) rfl), (wsA_in (tb3 (List.mem_of_getElem? (i := 52) rfl)) rfl), (wsA_in (tb3 (List.mem_of_getElem? (i := 53) rfl)) rfl), (wsA_in (tb1 (List.mem_of_getElem? (i := 3) rfl)) rfl), (wsA_in (tb3 (List.mem_of_getElem? (i := 54) rfl)) rfl), by decide +kernel⟩
theorem vX6_203 : Cv RX6 203 mX6_findStarts 0 := ⟨(wsA_in (tb3 (List.mem_of_getElem? (i := 56) rfl)) rfl), (wsA_in (tb3 (List.mem_of_getElem? (i := 58) rfl)) rfl), (wsA_in (tb0 (List.mem_of_getElem? (i := 19) rfl)) rfl), (wsA_in (tb1 (List.mem_of_getElem? (i := 1) rfl)) rfl), (wsA_in (tb3 (List.mem_of_getElem? (i := 59) rfl)) rfl), by decide +kernel⟩
theorem vX6_206 : Cv RX6 206 mX3_sum 0 := ⟨(wsA_in (tb3 (List.mem_of_getElem? (i := 69) rfl)) rfl), (wsA_in (tb3 (List.mem_of_getElem? (i := 70) rfl)) rfl), (wsA_in (tb3 (List.mem_of_getElem? (i := 71) rfl)) rfl), (wsA_in (tb1 (List.mem_of_getElem? (i := 3) rfl)) rfl), (wsA_in (tb3 (List.mem_of_getElem? (i := 72) rfl)) rfl), by decide +kernel⟩
theorem vX6_210 : Cv RX6 210 mX3_startOf 1 := ⟨(wsA_in (tb3 (List.mem_of_getElem? (i := 73) rfl)) rfl), (wsA_in (tb3 (List.mem_of_getElem? (i := 74) rfl)) rfl), (wsA_in (tb3 (List.mem_of_getElem? (i := 75) rfl)) rfl), (wsA_in (tb1 (List.mem_of_getElem? (i := 3) rfl)) rfl), (wsA_in (tb3 (List.mem_of_getElem? (i := 76) rfl)) rfl), by decide +kernel⟩
theorem fX6_213 : Fld RX6 213 3 0 (0, 0) .int false := ⟨RX3, TX3, 5, tyX3, kcX3, by decide, rfl, (wsA_in (tb1 (List.mem_of_getElem? (i := 57) rfl)) rfl), rfl, rfl⟩
theorem fX6_216 : Fld RX6 216 3 1 (0, 0) .int false := ⟨RX3, TX3, 5, tyX3, kcX3, by decide, rfl, (wsA_in (tb1 (List.mem_of_getElem? (i := 59) rfl)) rfl), rfl, rfl⟩
theorem fX6_219 : Fld RX6 219 3 2 (2, 1) (.array .int) true := ⟨RX3, TX3, 5, tyX3, kcX3, by decide, rfl, (wsA_in (tb1 (List.mem_of_getElem? (i := 61) rfl)) rfl), rfl, rfl⟩
theorem vX6_222 : Cv RX6 222 mX1_lengthOn 2 := ⟨(wsA_in (tb3 (List.mem_of_getElem? (i := 85) rfl)) rfl), (wsA_in (tb3 (List.mem_of_getElem? (i := 86) rfl)) rfl), (wsA_in (tb3 (List.mem_of_getElem? (i := 87) rfl)) rfl), (wsA_in (tb1 (List.mem_of_getElem? (i := 7) rfl)) rfl), (wsA_in (tb3 (List.mem_of_getElem? (i := 88) rfl)) rfl), by decide +kernel⟩
theorem vX6_226 : Cond.methodLink RX6 226 Lib.Math.max.name ∈ wsA ∧ Cond.static Lib.Math.max.name ∈ wsA ∧ Cond.initialized "java/lang/Math" ∈ wsA ∧ Cond.code Lib.Math.max.name Lib.Math.max.code 2 (some .int) ∈ wsA := ⟨(wsA_in (tb3 (List.mem_of_getElem? (i := 64) rfl)) rfl), (wsA_in (tb2 (List.mem_of_getElem? (i := 139) rfl)) rfl), (wsA_in (tb1 (List.mem_of_getElem? (i := 9) rfl)) rfl), (wsA_in (tb2 (List.mem_of_getElem? (i := 140) rfl)) rfl)⟩
theorem vX6_229 : Cv RX6 229 mX1_wagonsAt 2 := ⟨(wsA_in (tb3 (List.mem_of_getElem? (i := 94) rfl)) rfl), (wsA_in (tb3 (List.mem_of_getElem? (i := 95) rfl)) rfl), (wsA_in (tb3 (List.mem_of_getElem? (i := 96) rfl)) rfl), (wsA_in (tb1 (List.mem_of_getElem? (i := 7) rfl)) rfl), (wsA_in (tb3 (List.mem_of_getElem? (i := 97) rfl)) rfl), by decide +kernel⟩
theorem vX6_232 : Cv RX6 232 mX6_isChance 3 := ⟨(wsA_in (tb3 (List.mem_of_getElem? (i := 102) rfl)) rfl), (wsA_in (tb3 (List.mem_of_getElem? (i := 104) rfl)) rfl), (wsA_in (tb0 (List.mem_of_getElem? (i := 20) rfl)) rfl), (wsA_in (tb1 (List.mem_of_getElem? (i := 1) rfl)) rfl), (wsA_in (tb3 (List.mem_of_getElem? (i := 105) rfl)) rfl), by decide +kernel⟩
theorem kX6_236 : Cond.constantLong RX6 236 (-1) ∈ wsA := (wsA_in (tb3 (List.mem_of_getElem? (i := 106) rfl)) rfl)
theorem kX6_238 : Cond.constantLong RX6 238 (-2) ∈ wsA := (wsA_in (tb3 (List.mem_of_getElem? (i := 107) rfl)) rfl)
theorem fX6_26 : Fld RX6 26 6 2 (2, 7) (.object "WheelTown$Chance") true := ⟨RX6, TX6, 10, tyX6, kcX6, by decide, rfl, (wsA_in (tb2 (List.mem_of_getElem? (i := 3) rfl)) rfl), rfl, rfl⟩
theorem vX6_240 : Cv RX6 240 mX0_foresee 3 := ⟨(wsA_in (tb3 (List.mem_of_getElem? (i := 108) rfl)) rfl), (wsA_in (tb3 (List.mem_of_getElem? (i := 109) rfl)) rfl), (wsA_in (tb3 (List.mem_of_getElem? (i := 110) rfl)) rfl), (wsA_in (tb1 (List.mem_of_getElem? (i := 4) rfl)) rfl), (wsA_in (tb3 (List.mem_of_getElem? (i := 111) rfl)) rfl), by decide +kernel⟩
theorem vX6_244 : Cv RX6 244 mX0_runsAhead 4 := ⟨(wsA_in (tb3 (List.mem_of_getElem? (i := 114) rfl)) rfl), (wsA_in (tb3 (List.mem_of_getElem? (i := 115) rfl)) rfl), (wsA_in (tb3 (List.mem_of_getElem? (i := 116) rfl)) rfl), (wsA_in (tb1 (List.mem_of_getElem? (i := 4) rfl)) rfl), (wsA_in (tb3 (List.mem_of_getElem? (i := 117) rfl)) rfl), by decide +kernel⟩
theorem vX6_248 : Cst RX6 248 mX6_powerOfTen 1 := ⟨(wsA_in (tb3 (List.mem_of_getElem? (i := 124) rfl)) rfl), (wsA_in (tb3 (List.mem_of_getElem? (i := 125) rfl)) rfl), (wsA_in (tb1 (List.mem_of_getElem? (i := 1) rfl)) rfl), (wsA_in (tb3 (List.mem_of_getElem? (i := 126) rfl)) rfl), by decide +kernel⟩
theorem vX6_252 : Cst RX6 252 mX6_commonDivisor 2 := ⟨(wsA_in (tb3 (List.mem_of_getElem? (i := 128) rfl)) rfl), (wsA_in (tb3 (List.mem_of_getElem? (i := 129) rfl)) rfl), (wsA_in (tb1 (List.mem_of_getElem? (i := 1) rfl)) rfl), (wsA_in (tb3 (List.mem_of_getElem? (i := 130) rfl)) rfl), by decide +kernel⟩
theorem vX6_256 : Cond.methodLink RX6 256 Lib.MathLoose.max_long.x ∈ wsA ∧ Cond.static Lib.MathLoose.max_long.x ∈ wsA ∧ Cond.initialized "java/lang/Math" ∈ wsA ∧ Cond.code Lib.MathLoose.max_long.x Lib.MathLoose.max_long.code 4 (some .long) ∈ wsA := ⟨(wsA_in (tb3 (List.mem_of_getElem? (i := 131) rfl)) rfl), (wsA_in (tb3 (List.mem_of_getElem? (i := 132) rfl)) rfl), (wsA_in (tb1 (List.mem_of_getElem? (i := 9) rfl)) rfl), (wsA_in (tb3 (List.mem_of_getElem? (i := 133) rfl)) rfl)⟩
theorem kX6_258 : Cond.constantLong RX6 258 (10) ∈ wsA := (wsA_in (tb3 (List.mem_of_getElem? (i := 127) rfl)) rfl)
theorem vX6_260 : Cv RX6 260 mX6_wagonMark 1 := ⟨(wsA_in (tb3 (List.mem_of_getElem? (i := 142) rfl)) rfl), (wsA_in (tb3 (List.mem_of_getElem? (i := 144) rfl)) rfl), (wsA_in (tb0 (List.mem_of_getElem? (i := 22) rfl)) rfl), (wsA_in (tb1 (List.mem_of_getElem? (i := 1) rfl)) rfl), (wsA_in (tb3 (List.mem_of_getElem? (i := 145) rfl)) rfl), by decide +kernel⟩
theorem vX6_263 : Cv RX6 263 mX6_forgeMark 1 := ⟨(wsA_in (tb3 (List.mem_of_getElem? (i := 146) rfl)) rfl), (wsA_in (tb3 (List.mem_of_getElem? (i := 148) rfl)) rfl), (wsA_in (tb0 (List.mem_of_getElem? (i := 23) rfl)) rfl), (wsA_in (tb1 (List.mem_of_getElem? (i := 1) rfl)) rfl), (wsA_in (tb3 (List.mem_of_getElem? (i := 149) rfl)) rfl), by decide +kernel⟩
theorem vX6_266 : Cv RX6 266 mX6_chapelMark 1 := ⟨(wsA_in (tb3 (List.mem_of_getElem? (i := 150) rfl)) rfl), (wsA_in (tb3 (List.mem_of_getElem? (i := 152) rfl)) rfl), (wsA_in (tb0 (List.mem_of_getElem? (i := 24) rfl)) rfl), (wsA_in (tb1 (List.mem_of_getElem? (i := 1) rfl)) rfl), (wsA_in (tb3 (List.mem_of_getElem? (i := 153) rfl)) rfl), by decide +kernel⟩
theorem vX6_269 : Cv RX6 269 mX6_tenderMark 1 := ⟨(wsA_in (tb3 (List.mem_of_getElem? (i := 155) rfl)) rfl), (wsA_in (tb3 (List.mem_of_getElem? (i := 157) rfl)) rfl), (wsA_in (tb0 (List.mem_of_getElem? (i := 25) rfl)) rfl), (wsA_in (tb1 (List.mem_of_getElem? (i := 1) rfl)) rfl), (wsA_in (tb3 (List.mem_of_getElem? (i := 158) rfl)) rfl), by decide +kernel⟩
theorem vX6_272 : Cv RX6 272 mX6_houseMark 1 := ⟨(wsA_in (tb3 (List.mem_of_getElem? (i := 160) rfl)) rfl), (wsA_in (tb3 (List.mem_of_getElem? (i := 162) rfl)) rfl), (wsA_in (tb0 (List.mem_of_getElem? (i := 26) rfl)) rfl), (wsA_in (tb1 (List.mem_of_getElem? (i := 1) rfl)) rfl), (wsA_in (tb3 (List.mem_of_getElem? (i := 163) rfl)) rfl), by decide +kernel⟩
theorem vX6_275 : Cv RX6 275 mX6_railcartMark 1 := ⟨(wsA_in (tb3 (List.mem_of_getElem? (i := 165) rfl)) rfl), (wsA_in (tb3 (List.mem_of_getElem? (i := 167) rfl)) rfl), (wsA_in (tb0 (List.mem_of_getElem? (i := 27) rfl)) rfl), (wsA_in (tb1 (List.mem_of_getElem? (i := 1) rfl)) rfl), (wsA_in (tb3 (List.mem_of_getElem? (i := 168) rfl)) rfl), by decide +kernel⟩
theorem vX6_278 : Cv RX6 278 mX5_copyFrom 1 := ⟨(wsA_in (tb3 (List.mem_of_getElem? (i := 174) rfl)) rfl), (wsA_in (tb3 (List.mem_of_getElem? (i := 175) rfl)) rfl), (wsA_in (tb3 (List.mem_of_getElem? (i := 176) rfl)) rfl), (wsA_in (tb1 (List.mem_of_getElem? (i := 6) rfl)) rfl), (wsA_in (tb3 (List.mem_of_getElem? (i := 177) rfl)) rfl), by decide +kernel⟩
theorem fX6_281 : Fld RX6 281 1 6 (0, 0) .int false := ⟨RX1, TX1, 14, tyX1, kcX1, by decide, rfl, (wsA_in (tb1 (List.mem_of_getElem? (i := 195) rfl)) rfl), rfl, rfl⟩
theorem fX6_284 : Fld RX6 284 1 7 (0, 0) .int false := ⟨RX1, TX1, 14, tyX1, kcX1, by decide, rfl, (wsA_in (tb1 (List.mem_of_getElem? (i := 198) rfl)) rfl), rfl, rfl⟩
theorem fX6_287 : Fld RX6 287 6 9 (1, 0) .long false := ⟨RX6, TX6, 10, tyX6, kcX6, by decide, rfl, (wsA_in (tb2 (List.mem_of_getElem? (i := 10) rfl)) rfl), rfl, rfl⟩
theorem vX6_291 : Cv RX6 291 mX3_latest 1 := ⟨(wsA_in (tb3 (List.mem_of_getElem? (i := 60) rfl)) rfl), (wsA_in (tb3 (List.mem_of_getElem? (i := 61) rfl)) rfl), (wsA_in (tb3 (List.mem_of_getElem? (i := 62) rfl)) rfl), (wsA_in (tb1 (List.mem_of_getElem? (i := 3) rfl)) rfl), (wsA_in (tb3 (List.mem_of_getElem? (i := 63) rfl)) rfl), by decide +kernel⟩
theorem vX6_294 : Cv RX6 294 mX3_setStarts 3 := ⟨(wsA_in (tb3 (List.mem_of_getElem? (i := 65) rfl)) rfl), (wsA_in (tb3 (List.mem_of_getElem? (i := 66) rfl)) rfl), (wsA_in (tb3 (List.mem_of_getElem? (i := 67) rfl)) rfl), (wsA_in (tb1 (List.mem_of_getElem? (i := 3) rfl)) rfl), (wsA_in (tb3 (List.mem_of_getElem? (i := 68) rfl)) rfl), by decide +kernel⟩
theorem vX6_298 : Cv RX6 298 mX3_order 2 := ⟨(wsA_in (tb3 (List.mem_of_getElem? (i := 42) rfl)) rfl), (wsA_in (tb3 (List.mem_of_getElem? (i := 43) rfl)) rfl), (wsA_in (tb3 (List.mem_of_getElem? (i := 44) rfl)) rfl), (wsA_in (tb1 (List.mem_of_getElem? (i := 3) rfl)) rfl), (wsA_in (tb3 (List.mem_of_getElem? (i := 45) rfl)) rfl), by decide +kernel⟩
theorem kX6_302 : Cond.constantLong RX6 302 (100) ∈ wsA := (wsA_in (tb3 (List.mem_of_getElem? (i := 154) rfl)) rfl)
theorem kX6_304 : Cond.constantLong RX6 304 (1000) ∈ wsA := (wsA_in (tb3 (List.mem_of_getElem? (i := 159) rfl)) rfl)
theorem kX6_306 : Cond.constantLong RX6 306 (10000) ∈ wsA := (wsA_in (tb3 (List.mem_of_getElem? (i := 164) rfl)) rfl)
theorem kX6_308 : Cond.constantLong RX6 308 (100000) ∈ wsA := (wsA_in (tb3 (List.mem_of_getElem? (i := 169) rfl)) rfl)
theorem vX7_88 : Cst RX7 88 mX7_in 3 := ⟨(wsA_in (tb4 (List.mem_of_getElem? (i := 80) rfl)) rfl), (wsA_in (tb4 (List.mem_of_getElem? (i := 81) rfl)) rfl), (wsA_in (tb1 (List.mem_of_getElem? (i := 8) rfl)) rfl), (wsA_in (tb4 (List.mem_of_getElem? (i := 82) rfl)) rfl), by decide +kernel⟩
theorem fX7_92 : Fld RX7 92 7 2 (0, 0) .int false := ⟨RX7, TX7, 39, tyX7, kcX7, by decide, rfl, (wsA_in (tb3 (List.mem_of_getElem? (i := 198) rfl)) rfl), rfl, rfl⟩
theorem fX7_7 : Fld RX7 7 7 1 (2, 1) (.array .byte) true := ⟨RX7, TX7, 39, tyX7, kcX7, by decide, rfl, (wsA_in (tb3 (List.mem_of_getElem? (i := 197) rfl)) rfl), rfl, rfl⟩
theorem fX7_96 : Fld RX7 96 7 18 (0, 0) .int false := ⟨RX7, TX7, 39, tyX7, kcX7, by decide, rfl, (wsA_in (tb3 (List.mem_of_getElem? (i := 214) rfl)) rfl), rfl, rfl⟩
theorem vX7_99 : Cv RX7 99 mX7_here 0 := ⟨(wsA_in (tb4 (List.mem_of_getElem? (i := 95) rfl)) rfl), (wsA_in (tb4 (List.mem_of_getElem? (i := 97) rfl)) rfl), (wsA_in (tb0 (List.mem_of_getElem? (i := 29) rfl)) rfl), (wsA_in (tb1 (List.mem_of_getElem? (i := 8) rfl)) rfl), (wsA_in (tb4 (List.mem_of_getElem? (i := 98) rfl)) rfl), by decide +kernel⟩
theorem fX7_103 : Fld RX7 103 7 19 (0, 0) .int false := ⟨RX7, TX7, 39, tyX7, kcX7, by decide, rfl, (wsA_in (tb3 (List.mem_of_getElem? (i := 215) rfl)) rfl), rfl, rfl⟩
theorem fX7_106 : Fld RX7 106 7 21 (0, 0) .int false := ⟨RX7, TX7, 39, tyX7, kcX7, by decide, rfl, (wsA_in (tb3 (List.mem_of_getElem? (i := 217) rfl)) rfl), rfl, rfl⟩
theorem fX7_109 : Fld RX7 109 7 20 (0, 0) .int false := ⟨RX7, TX7, 39, tyX7, kcX7, by decide, rfl, (wsA_in (tb3 (List.mem_of_getElem? (i := 216) rfl)) rfl), rfl, rfl⟩
theorem fX7_112 : Fld RX7 112 7 22 (0, 0) .int false := ⟨RX7, TX7, 39, tyX7, kcX7, by decide, rfl, (wsA_in (tb3 (List.mem_of_getElem? (i := 218) rfl)) rfl), rfl, rfl⟩
theorem vX7_115 : Cv RX7 115 mX7_next 0 := ⟨(wsA_in (tb4 (List.mem_of_getElem? (i := 91) rfl)) rfl), (wsA_in (tb4 (List.mem_of_getElem? (i := 93) rfl)) rfl), (wsA_in (tb0 (List.mem_of_getElem? (i := 28) rfl)) rfl), (wsA_in (tb1 (List.mem_of_getElem? (i := 8) rfl)) rfl), (wsA_in (tb4 (List.mem_of_getElem? (i := 94) rfl)) rfl), by decide +kernel⟩
theorem vX7_118 : Cv RX7 118 mX7_due 1 := ⟨(wsA_in (tb4 (List.mem_of_getElem? (i := 103) rfl)) rfl), (wsA_in (tb4 (List.mem_of_getElem? (i := 105) rfl)) rfl), (wsA_in (tb0 (List.mem_of_getElem? (i := 31) rfl)) rfl), (wsA_in (tb1 (List.mem_of_getElem? (i := 8) rfl)) rfl), (wsA_in (tb4 (List.mem_of_getElem? (i := 106) rfl)) rfl), by decide +kernel⟩
theorem fX7_13 : Fld RX7 13 7 3 (2, 2) (.array .int) true := ⟨RX7, TX7, 39, tyX7, kcX7, by decide, rfl, (wsA_in (tb3 (List.mem_of_getElem? (i := 199) rfl)) rfl), rfl, rfl⟩
theorem vX7_122 : Cv RX7 122 mX7_number 2 := ⟨(wsA_in (tb4 (List.mem_of_getElem? (i := 111) rfl)) rfl), (wsA_in (tb4 (List.mem_of_getElem? (i := 113) rfl)) rfl), (wsA_in (tb0 (List.mem_of_getElem? (i := 33) rfl)) rfl), (wsA_in (tb1 (List.mem_of_getElem? (i := 8) rfl)) rfl), (wsA_in (tb4 (List.mem_of_getElem? (i := 114) rfl)) rfl), by decide +kernel⟩
theorem fX7_126 : Fld RX7 126 7 23 (0, 0) .int false := ⟨RX7, TX7, 39, tyX7, kcX7, by decide, rfl, (wsA_in (tb3 (List.mem_of_getElem? (i := 219) rfl)) rfl), rfl, rfl⟩
theorem fX7_129 : Fld RX7 129 7 24 (0, 0) .boolean false := ⟨RX7, TX7, 39, tyX7, kcX7, by decide, rfl, (wsA_in (tb3 (List.mem_of_getElem? (i := 220) rfl)) rfl), rfl, rfl⟩
theorem fX7_133 : Fld RX7 133 7 25 (0, 0) .boolean false := ⟨RX7, TX7, 39, tyX7, kcX7, by decide, rfl, (wsA_in (tb3 (List.mem_of_getElem? (i := 221) rfl)) rfl), rfl, rfl⟩
theorem fX7_29 : Fld RX7 29 7 8 (2, 7) (.array .int) true := ⟨RX7, TX7, 39, tyX7, kcX7, by decide, rfl, (wsA_in (tb3 (List.mem_of_getElem? (i := 204) rfl)) rfl), rfl, rfl⟩
theorem fX7_32 : Fld RX7 32 7 9 (2, 8) (.array .int) true := ⟨RX7, TX7, 39, tyX7, kcX7, by decide, rfl, (wsA_in (tb3 (List.mem_of_getElem? (i := 205) rfl)) rfl), rfl, rfl⟩
theorem fX7_38 : Fld RX7 38 7 11 (2, 10) (.array .int) true := ⟨RX7, TX7, 39, tyX7, kcX7, by decide, rfl, (wsA_in (tb3 (List.mem_of_getElem? (i := 207) rfl)) rfl), rfl, rfl⟩
theorem fX7_47 : Fld RX7 47 7 14 (2, 13) (.array .int) true := ⟨RX7, TX7, 39, tyX7, kcX7, by decide, rfl, (wsA_in (tb3 (List.mem_of_getElem? (i := 210) rfl)) rfl), rfl, rfl⟩
theorem fX7_41 : Fld RX7 41 7 12 (2, 11) (.array .int) true := ⟨RX7, TX7, 39, tyX7, kcX7, by decide, rfl, (wsA_in (tb3 (List.mem_of_getElem? (i := 208) rfl)) rfl), rfl, rfl⟩
theorem fX7_44 : Fld RX7 44 7 13 (2, 12) (.array .int) true := ⟨RX7, TX7, 39, tyX7, kcX7, by decide, rfl, (wsA_in (tb3 (List.mem_of_getElem? (i := 209) rfl)) rfl), rfl, rfl⟩
theorem vX7_136 : Cv RX7 136 mX7_isFreeAtFirst 2 := ⟨(wsA_in (tb4 (List.mem_of_getElem? (i := 123) rfl)) rfl), (wsA_in (tb4 (List.mem_of_getElem? (i := 125) rfl)) rfl), (wsA_in (tb0 (List.mem_of_getElem? (i := 36) rfl)) rfl), (wsA_in (tb1 (List.mem_of_getElem? (i := 8) rfl)) rfl), (wsA_in (tb4 (List.mem_of_getElem? (i := 126) rfl)) rfl), by decide +kernel⟩
theorem vX7_140 : Cv RX7 140 mX7_placeTold 0 := ⟨(wsA_in (tb4 (List.mem_of_getElem? (i := 115) rfl)) rfl), (wsA_in (tb4 (List.mem_of_getElem? (i := 117) rfl)) rfl), (wsA_in (tb0 (List.mem_of_getElem? (i := 34) rfl)) rfl), (wsA_in (tb1 (List.mem_of_getElem? (i := 8) rfl)) rfl), (wsA_in (tb4 (List.mem_of_getElem? (i := 118) rfl)) rfl), by decide +kernel⟩
theorem fX7_35 : Fld RX7 35 7 10 (2, 9) (.array .int) true := ⟨RX7, TX7, 39, tyX7, kcX7, by decide, rfl, (wsA_in (tb3 (List.mem_of_getElem? (i := 206) rfl)) rfl), rfl, rfl⟩
theorem fX7_26 : Fld RX7 26 7 7 (2, 6) (.array .int) true := ⟨RX7, TX7, 39, tyX7, kcX7, by decide, rfl, (wsA_in (tb3 (List.mem_of_getElem? (i := 203) rfl)) rfl), rfl, rfl⟩
theorem fX7_17 : Fld RX7 17 7 4 (2, 3) (.array .int) true := ⟨RX7, TX7, 39, tyX7, kcX7, by decide, rfl, (wsA_in (tb3 (List.mem_of_getElem? (i := 200) rfl)) rfl), rfl, rfl⟩
theorem fX7_20 : Fld RX7 20 7 5 (2, 4) (.array .int) true := ⟨RX7, TX7, 39, tyX7, kcX7, by decide, rfl, (wsA_in (tb3 (List.mem_of_getElem? (i := 201) rfl)) rfl), rfl, rfl⟩
theorem fX7_23 : Fld RX7 23 7 6 (2, 5) (.array .int) true := ⟨RX7, TX7, 39, tyX7, kcX7, by decide, rfl, (wsA_in (tb3 (List.mem_of_getElem? (i := 202) rfl)) rfl), rfl, rfl⟩
theorem vX7_143 : Cv RX7 143 mX7_readWagon 0 := ⟨(wsA_in (tb4 (List.mem_of_getElem? (i := 119) rfl)) rfl), (wsA_in (tb4 (List.mem_of_getElem? (i := 121) rfl)) rfl), (wsA_in (tb0 (List.mem_of_getElem? (i := 35) rfl)) rfl), (wsA_in (tb1 (List.mem_of_getElem? (i := 8) rfl)) rfl), (wsA_in (tb4 (List.mem_of_getElem? (i := 122) rfl)) rfl), by decide +kernel⟩
theorem fX7_50 : Fld RX7 50 7 15 (2, 14) (.array .int) true := ⟨RX7, TX7, 39, tyX7, kcX7, by decide, rfl, (wsA_in (tb3 (List.mem_of_getElem? (i := 211) rfl)) rfl), rfl, rfl⟩
theorem fX7_53 : Fld RX7 53 7 16 (2, 15) (.array .int) true := ⟨RX7, TX7, 39, tyX7, kcX7, by decide, rfl, (wsA_in (tb3 (List.mem_of_getElem? (i := 212) rfl)) rfl), rfl, rfl⟩
theorem vX7_146 : Cv RX7 146 mX7_mayBe 1 := ⟨(wsA_in (tb4 (List.mem_of_getElem? (i := 99) rfl)) rfl), (wsA_in (tb4 (List.mem_of_getElem? (i := 101) rfl)) rfl), (wsA_in (tb0 (List.mem_of_getElem? (i := 30) rfl)) rfl), (wsA_in (tb1 (List.mem_of_getElem? (i := 8) rfl)) rfl), (wsA_in (tb4 (List.mem_of_getElem? (i := 102) rfl)) rfl), by decide +kernel⟩
theorem vX7_150 : Cv RX7 150 mX7_readRow 1 := ⟨(wsA_in (tb4 (List.mem_of_getElem? (i := 107) rfl)) rfl), (wsA_in (tb4 (List.mem_of_getElem? (i := 109) rfl)) rfl), (wsA_in (tb0 (List.mem_of_getElem? (i := 32) rfl)) rfl), (wsA_in (tb1 (List.mem_of_getElem? (i := 8) rfl)) rfl), (wsA_in (tb4 (List.mem_of_getElem? (i := 110) rfl)) rfl), by decide +kernel⟩
theorem vX7_154 : Cv RX7 154 mX7_take 0 := ⟨(wsA_in (tb4 (List.mem_of_getElem? (i := 127) rfl)) rfl), (wsA_in (tb4 (List.mem_of_getElem? (i := 129) rfl)) rfl), (wsA_in (tb0 (List.mem_of_getElem? (i := 37) rfl)) rfl), (wsA_in (tb1 (List.mem_of_getElem? (i := 8) rfl)) rfl), (wsA_in (tb4 (List.mem_of_getElem? (i := 130) rfl)) rfl), by decide +kernel⟩
theorem vX7_157 : Cv RX7 157 mX7_begin 0 := ⟨(wsA_in (tb4 (List.mem_of_getElem? (i := 131) rfl)) rfl), (wsA_in (tb4 (List.mem_of_getElem? (i := 133) rfl)) rfl), (wsA_in (tb0 (List.mem_of_getElem? (i := 38) rfl)) rfl), (wsA_in (tb1 (List.mem_of_getElem? (i := 8) rfl)) rfl), (wsA_in (tb4 (List.mem_of_getElem? (i := 134) rfl)) rfl), by decide +kernel⟩
theorem fX7_59 : Fld RX7 59 7 26 (2, 17) (.array .int) true := ⟨RX7, TX7, 39, tyX7, kcX7, by decide, rfl, (wsA_in (tb3 (List.mem_of_getElem? (i := 222) rfl)) rfl), rfl, rfl⟩
theorem fX7_65 : Fld RX7 65 7 28 (2, 19) (.array .boolean) true := ⟨RX7, TX7, 39, tyX7, kcX7, by decide, rfl, (wsA_in (tb3 (List.mem_of_getElem? (i := 224) rfl)) rfl), rfl, rfl⟩
theorem fX7_56 : Fld RX7 56 7 17 (2, 16) (.array .int) true := ⟨RX7, TX7, 39, tyX7, kcX7, by decide, rfl, (wsA_in (tb3 (List.mem_of_getElem? (i := 213) rfl)) rfl), rfl, rfl⟩
theorem fX7_62 : Fld RX7 62 7 27 (2, 18) (.array .int) true := ⟨RX7, TX7, 39, tyX7, kcX7, by decide, rfl, (wsA_in (tb3 (List.mem_of_getElem? (i := 223) rfl)) rfl), rfl, rfl⟩
theorem vX7_160 : Cv RX7 160 mX7_costAt 1 := ⟨(wsA_in (tb4 (List.mem_of_getElem? (i := 139) rfl)) rfl), (wsA_in (tb4 (List.mem_of_getElem? (i := 141) rfl)) rfl), (wsA_in (tb0 (List.mem_of_getElem? (i := 40) rfl)) rfl), (wsA_in (tb1 (List.mem_of_getElem? (i := 8) rfl)) rfl), (wsA_in (tb4 (List.mem_of_getElem? (i := 142) rfl)) rfl), by decide +kernel⟩
theorem vX7_164 : Cv RX7 164 mX7_beginThen 0 := ⟨(wsA_in (tb4 (List.mem_of_getElem? (i := 135) rfl)) rfl), (wsA_in (tb4 (List.mem_of_getElem? (i := 137) rfl)) rfl), (wsA_in (tb0 (List.mem_of_getElem? (i := 39) rfl)) rfl), (wsA_in (tb1 (List.mem_of_getElem? (i := 8) rfl)) rfl), (wsA_in (tb4 (List.mem_of_getElem? (i := 138) rfl)) rfl), by decide +kernel⟩
theorem vX7_167 : Cv RX7 167 mX7_toNow 0 := ⟨(wsA_in (tb4 (List.mem_of_getElem? (i := 143) rfl)) rfl), (wsA_in (tb4 (List.mem_of_getElem? (i := 145) rfl)) rfl), (wsA_in (tb0 (List.mem_of_getElem? (i := 41) rfl)) rfl), (wsA_in (tb1 (List.mem_of_getElem? (i := 8) rfl)) rfl), (wsA_in (tb4 (List.mem_of_getElem? (i := 146) rfl)) rfl), by decide +kernel⟩
theorem vX7_170 : Cv RX7 170 mX7_isWagon 1 := ⟨(wsA_in (tb4 (List.mem_of_getElem? (i := 155) rfl)) rfl), (wsA_in (tb4 (List.mem_of_getElem? (i := 157) rfl)) rfl), (wsA_in (tb0 (List.mem_of_getElem? (i := 42) rfl)) rfl), (wsA_in (tb1 (List.mem_of_getElem? (i := 8) rfl)) rfl), (wsA_in (tb4 (List.mem_of_getElem? (i := 158) rfl)) rfl), by decide +kernel⟩
theorem vX7_173 : Cv RX7 173 mX7_sunAt 1 := ⟨(wsA_in (tb4 (List.mem_of_getElem? (i := 163) rfl)) rfl), (wsA_in (tb4 (List.mem_of_getElem? (i := 165) rfl)) rfl), (wsA_in (tb0 (List.mem_of_getElem? (i := 43) rfl)) rfl), (wsA_in (tb1 (List.mem_of_getElem? (i := 8) rfl)) rfl), (wsA_in (tb4 (List.mem_of_getElem? (i := 166) rfl)) rfl), by decide +kernel⟩
theorem kX7_176 : Cond.constant RX7 176 (-1000000) ∈ wsA := (wsA_in (tb4 (List.mem_of_getElem? (i := 167) rfl)) rfl)
theorem vX7_177 : Cv RX7 177 mX7_toThen 0 := ⟨(wsA_in (tb4 (List.mem_of_getElem? (i := 172) rfl)) rfl), (wsA_in (tb4 (List.mem_of_getElem? (i := 174) rfl)) rfl), (wsA_in (tb0 (List.mem_of_getElem? (i := 44) rfl)) rfl), (wsA_in (tb1 (List.mem_of_getElem? (i := 8) rfl)) rfl), (wsA_in (tb4 (List.mem_of_getElem? (i := 175) rfl)) rfl), by decide +kernel⟩
theorem vX7_180 : Cv RX7 180 mX7_caughtThen 0 := ⟨(wsA_in (tb4 (List.mem_of_getElem? (i := 176) rfl)) rfl), (wsA_in (tb4 (List.mem_of_getElem? (i := 178) rfl)) rfl), (wsA_in (tb0 (List.mem_of_getElem? (i := 45) rfl)) rfl), (wsA_in (tb1 (List.mem_of_getElem? (i := 8) rfl)) rfl), (wsA_in (tb4 (List.mem_of_getElem? (i := 179) rfl)) rfl), by decide +kernel⟩
theorem vX7_183 : Cv RX7 183 mX7_isFree 2 := ⟨(wsA_in (tb4 (List.mem_of_getElem? (i := 196) rfl)) rfl), (wsA_in (tb4 (List.mem_of_getElem? (i := 198) rfl)) rfl), (wsA_in (tb0 (List.mem_of_getElem? (i := 49) rfl)) rfl), (wsA_in (tb1 (List.mem_of_getElem? (i := 8) rfl)) rfl), (wsA_in (tb4 (List.mem_of_getElem? (i := 199) rfl)) rfl), by decide +kernel⟩
theorem fX7_186 : Fld RX7 186 7 29 (0, 0) .int false := ⟨RX7, TX7, 39, tyX7, kcX7, by decide, rfl, (wsA_in (tb3 (List.mem_of_getElem? (i := 225) rfl)) rfl), rfl, rfl⟩
theorem vX7_189 : Cv RX7 189 mX7_move 1 := ⟨(wsA_in (tb4 (List.mem_of_getElem? (i := 192) rfl)) rfl), (wsA_in (tb4 (List.mem_of_getElem? (i := 194) rfl)) rfl), (wsA_in (tb0 (List.mem_of_getElem? (i := 48) rfl)) rfl), (wsA_in (tb1 (List.mem_of_getElem? (i := 8) rfl)) rfl), (wsA_in (tb4 (List.mem_of_getElem? (i := 195) rfl)) rfl), by decide +kernel⟩
theorem vX7_192 : Cv RX7 192 mX7_know 0 := ⟨(wsA_in (tb4 (List.mem_of_getElem? (i := 184) rfl)) rfl), (wsA_in (tb4 (List.mem_of_getElem? (i := 186) rfl)) rfl), (wsA_in (tb0 (List.mem_of_getElem? (i := 46) rfl)) rfl), (wsA_in (tb1 (List.mem_of_getElem? (i := 8) rfl)) rfl), (wsA_in (tb4 (List.mem_of_getElem? (i := 187) rfl)) rfl), by decide +kernel⟩
theorem vX7_195 : Cv RX7 195 mX7_pass 0 := ⟨(wsA_in (tb4 (List.mem_of_getElem? (i := 188) rfl)) rfl), (wsA_in (tb4 (List.mem_of_getElem? (i := 190) rfl)) rfl), (wsA_in (tb0 (List.mem_of_getElem? (i := 47) rfl)) rfl), (wsA_in (tb1 (List.mem_of_getElem? (i := 8) rfl)) rfl), (wsA_in (tb4 (List.mem_of_getElem? (i := 191) rfl)) rfl), by decide +kernel⟩
theorem vX7_198 : Cst RX7 198 mX7_manyOf 1 := ⟨(wsA_in (tb4 (List.mem_of_getElem? (i := 200) rfl)) rfl), (wsA_in (tb4 (List.mem_of_getElem? (i := 201) rfl)) rfl), (wsA_in (tb1 (List.mem_of_getElem? (i := 8) rfl)) rfl), (wsA_in (tb4 (List.mem_of_getElem? (i := 202) rfl)) rfl), by decide +kernel⟩
theorem vX7_201 : Cv RX7 201 mX7_isThere 2 := ⟨(wsA_in (tb4 (List.mem_of_getElem? (i := 211) rfl)) rfl), (wsA_in (tb4 (List.mem_of_getElem? (i := 213) rfl)) rfl), (wsA_in (tb0 (List.mem_of_getElem? (i := 50) rfl)) rfl), (wsA_in (tb1 (List.mem_of_getElem? (i := 8) rfl)) rfl), (wsA_in (tb4 (List.mem_of_getElem? (i := 214) rfl)) rfl), by decide +kernel⟩
theorem vX7_204 : Cv RX7 204 mX7_passMany 1 := ⟨(wsA_in (tb4 (List.mem_of_getElem? (i := 223) rfl)) rfl), (wsA_in (tb4 (List.mem_of_getElem? (i := 225) rfl)) rfl), (wsA_in (tb0 (List.mem_of_getElem? (i := 51) rfl)) rfl), (wsA_in (tb1 (List.mem_of_getElem? (i := 8) rfl)) rfl), (wsA_in (tb4 (List.mem_of_getElem? (i := 226) rfl)) rfl), by decide +kernel⟩
theorem fX7_207 : Fld RX7 207 7 31 (0, 0) .int false := ⟨RX7, TX7, 39, tyX7, kcX7, by decide, rfl, (wsA_in (tb3 (List.mem_of_getElem? (i := 227) rfl)) rfl), rfl, rfl⟩
theorem fX7_69 : Fld RX7 69 7 30 (2, 20) (.array .int) true := ⟨RX7, TX7, 39, tyX7, kcX7, by decide, rfl, (wsA_in (tb3 (List.mem_of_getElem? (i := 226) rfl)) rfl), rfl, rfl⟩
theorem fX7_72 : Fld RX7 72 7 32 (2, 21) (.array .int) true := ⟨RX7, TX7, 39, tyX7, kcX7, by decide, rfl, (wsA_in (tb3 (List.mem_of_getElem? (i := 228) rfl)) rfl), rfl, rfl⟩
theorem fX7_75 : Fld RX7 75 7 33 (2, 22) (.array .int) true := ⟨RX7, TX7, 39, tyX7, kcX7, by decide, rfl, (wsA_in (tb3 (List.mem_of_getElem? (i := 229) rfl)) rfl), rfl, rfl⟩
theorem vX7_210 : Cv RX7 210 mX7_findLacking 0 := ⟨(wsA_in (tb5 (List.mem_of_getElem? (i := 7) rfl)) rfl), (wsA_in (tb5 (List.mem_of_getElem? (i := 9) rfl)) rfl), (wsA_in (tb0 (List.mem_of_getElem? (i := 53) rfl)) rfl), (wsA_in (tb1 (List.mem_of_getElem? (i := 8) rfl)) rfl), (wsA_in (tb5 (List.mem_of_getElem? (i := 10) rfl)) rfl), by decide +kernel⟩
theorem vX7_213 : Cv RX7 213 mX7_isWell 1 := ⟨(wsA_in (tb5 (List.mem_of_getElem? (i := 11) rfl)) rfl), (wsA_in (tb5 (List.mem_of_getElem? (i := 13) rfl)) rfl), (wsA_in (tb0 (List.mem_of_getElem? (i := 54) rfl)) rfl), (wsA_in (tb1 (List.mem_of_getElem? (i := 8) rfl)) rfl), (wsA_in (tb5 (List.mem_of_getElem? (i := 14) rfl)) rfl), by decide +kernel⟩
theorem fX7_78 : Fld RX7 78 7 34 (2, 23) (.array .int) true := ⟨RX7, TX7, 39, tyX7, kcX7, by decide, rfl, (wsA_in (tb3 (List.mem_of_getElem? (i := 230) rfl)) rfl), rfl, rfl⟩
theorem vX7_216 : Cv RX7 216 mX7_findStarts 1 := ⟨(wsA_in (tb5 (List.mem_of_getElem? (i := 3) rfl)) rfl), (wsA_in (tb5 (List.mem_of_getElem? (i := 5) rfl)) rfl), (wsA_in (tb0 (List.mem_of_getElem? (i := 52) rfl)) rfl), (wsA_in (tb1 (List.mem_of_getElem? (i := 8) rfl)) rfl), (wsA_in (tb5 (List.mem_of_getElem? (i := 6) rfl)) rfl), by decide +kernel⟩
theorem fX7_81 : Fld RX7 81 7 35 (2, 24) (.array .long) true := ⟨RX7, TX7, 39, tyX7, kcX7, by decide, rfl, (wsA_in (tb3 (List.mem_of_getElem? (i := 231) rfl)) rfl), rfl, rfl⟩
theorem fX7_219 : Fld RX7 219 7 38 (1, 0) .long false := ⟨RX7, TX7, 39, tyX7, kcX7, by decide, rfl, (wsA_in (tb3 (List.mem_of_getElem? (i := 234) rfl)) rfl), rfl, rfl⟩
theorem fX7_85 : Fld RX7 85 7 36 (2, 25) (.array .long) true := ⟨RX7, TX7, 39, tyX7, kcX7, by decide, rfl, (wsA_in (tb3 (List.mem_of_getElem? (i := 232) rfl)) rfl), rfl, rfl⟩
theorem kX7_223 : Cond.constantLong RX7 223 (10) ∈ wsA := (wsA_in (tb5 (List.mem_of_getElem? (i := 41) rfl)) rfl)
theorem fX7_225 : Fld RX7 225 7 37 (1, 0) .long false := ⟨RX7, TX7, 39, tyX7, kcX7, by decide, rfl, (wsA_in (tb3 (List.mem_of_getElem? (i := 233) rfl)) rfl), rfl, rfl⟩
theorem vX7_228 : Cv RX7 228 mX7_isAsked 3 := ⟨(wsA_in (tb5 (List.mem_of_getElem? (i := 31) rfl)) rfl), (wsA_in (tb5 (List.mem_of_getElem? (i := 33) rfl)) rfl), (wsA_in (tb0 (List.mem_of_getElem? (i := 55) rfl)) rfl), (wsA_in (tb1 (List.mem_of_getElem? (i := 8) rfl)) rfl), (wsA_in (tb5 (List.mem_of_getElem? (i := 34) rfl)) rfl), by decide +kernel⟩
theorem kX7_231 : Cond.constantLong RX7 231 (-1) ∈ wsA := (wsA_in (tb5 (List.mem_of_getElem? (i := 35) rfl)) rfl)
theorem kX7_233 : Cond.constantLong RX7 233 (-2) ∈ wsA := (wsA_in (tb5 (List.mem_of_getElem? (i := 36) rfl)) rfl)
theorem vX7_235 : Cv RX7 235 mX7_findOdds 4 := ⟨(wsA_in (tb5 (List.mem_of_getElem? (i := 37) rfl)) rfl), (wsA_in (tb5 (List.mem_of_getElem? (i := 39) rfl)) rfl), (wsA_in (tb0 (List.mem_of_getElem? (i := 56) rfl)) rfl), (wsA_in (tb1 (List.mem_of_getElem? (i := 8) rfl)) rfl), (wsA_in (tb5 (List.mem_of_getElem? (i := 40) rfl)) rfl), by decide +kernel⟩
theorem fX7_239 : Fld RX7 239 7 0 (1, 0) .long false := ⟨RX7, TX7, 39, tyX7, kcX7, by decide, rfl, (wsA_in (tb3 (List.mem_of_getElem? (i := 196) rfl)) rfl), rfl, rfl⟩
theorem kX7_242 : Cond.constantLong RX7 242 (11) ∈ wsA := (wsA_in (tb5 (List.mem_of_getElem? (i := 50) rfl)) rfl)
theorem kX7_244 : Cond.constantLong RX7 244 (101) ∈ wsA := (wsA_in (tb5 (List.mem_of_getElem? (i := 51) rfl)) rfl)
theorem kX7_246 : Cond.constantLong RX7 246 (1011) ∈ wsA := (wsA_in (tb5 (List.mem_of_getElem? (i := 52) rfl)) rfl)
theorem kX7_248 : Cond.constantLong RX7 248 (10101) ∈ wsA := (wsA_in (tb5 (List.mem_of_getElem? (i := 53) rfl)) rfl)
theorem kX7_250 : Cond.constantLong RX7 250 (100001) ∈ wsA := (wsA_in (tb5 (List.mem_of_getElem? (i := 54) rfl)) rfl)
theorem vX7_252 : Cv RX7 252 mX7_copy 2 := ⟨(wsA_in (tb5 (List.mem_of_getElem? (i := 59) rfl)) rfl), (wsA_in (tb5 (List.mem_of_getElem? (i := 61) rfl)) rfl), (wsA_in (tb0 (List.mem_of_getElem? (i := 57) rfl)) rfl), (wsA_in (tb1 (List.mem_of_getElem? (i := 8) rfl)) rfl), (wsA_in (tb5 (List.mem_of_getElem? (i := 62) rfl)) rfl), by decide +kernel⟩
theorem kJ6_265 : Cond.constant RJ6 265 (1431655765) ∈ wsA := (wsA_in (tb2 (List.mem_of_getElem? (i := 229) rfl)) rfl)
theorem kJ6_266 : Cond.constant RJ6 266 (858993459) ∈ wsA := (wsA_in (tb2 (List.mem_of_getElem? (i := 230) rfl)) rfl)
theorem kJ6_267 : Cond.constant RJ6 267 (252645135) ∈ wsA := (wsA_in (tb2 (List.mem_of_getElem? (i := 231) rfl)) rfl)
/-! what an object of a class is in the world: itself and what it holds for ever -/
def isX2 (T : Th) (a : Nat) : Prop := Ob T a (0, 2) ∧ Ob T (a + 1) (1, 5) ∧ Ob T (a + 2) (1, 5) ∧ Ob T (a + 3) (1, 5) ∧ Ob T (a + 4) (1, 5) ∧ Ob T (a + 5) (1, 5)
def isX0 (T : Th) (a : Nat) : Prop := Ob T a (0, 0) ∧ Ob T (a + 1) (1, 13) ∧ Ob T (a + 2) (2, 13)
def isX1 (T : Th) (a : Nat) : Prop := Ob T a (0, 1) ∧ Ob T (a + 1) (1, 12) ∧ Ob T (a + 2) (1, 5) ∧ Ob T (a + 3) (1, 5) ∧ Ob T (a + 4) (1, 4) ∧ Ob T (a + 5) (1, 4) ∧ isX2 T (a + 6)
def isX3 (T : Th) (a : Nat) : Prop := Ob T a (0, 3) ∧ Ob T (a + 1) (1, 3) ∧ Ob T (a + 2) (1, 3) ∧ Ob T (a + 3) (1, 3)
def isX4 (T : Th) (a : Nat) : Prop := Ob T a (0, 4) ∧ Ob T (a + 1) (1, 200)
def isX5 (T : Th) (a : Nat) : Prop := Ob T a (0, 5) ∧ isX2 T (a + 1) ∧ Ob T (a + 7) (5, 10)
def isX6 (T : Th) (a : Nat) : Prop := Ob T a (0, 6) ∧ isX4 T (a + 1) ∧ isX3 T (a + 3) ∧ isX0 T (a + 7) ∧ isX2 T (a + 10) ∧ isX5 T (a + 16) ∧ isX5 T (a + 84) ∧ isX5 T (a + 152)
def isX7 (T : Th) (a : Nat) : Prop := Ob T a (0, 7) ∧ Ob T (a + 1) (3, 200) ∧ Ob T (a + 2) (1, 2) ∧ Ob T (a + 3) (1, 2) ∧ Ob T (a + 4) (1, 2) ∧ Ob T (a + 5) (1, 2) ∧ Ob T (a + 6) (1, 2) ∧ Ob T (a + 7) (1, 2) ∧ Ob T (a + 8) (1, 2) ∧ Ob T (a + 9) (1, 24) ∧ Ob T (a + 10) (1, 10) ∧ Ob T (a + 11) (1, 10) ∧ Ob T (a + 12) (1, 10) ∧ Ob T (a + 13) (1, 10) ∧ Ob T (a + 14) (1, 8) ∧ Ob T (a + 15) (1, 8) ∧ Ob T (a + 16) (1, 5) ∧ Ob T (a + 17) (1, 1026) ∧ Ob T (a + 18) (1, 31) ∧ Ob T (a + 19) (4, 2) ∧ Ob T (a + 20) (1, 3) ∧ Ob T (a + 21) (1, 3) ∧ Ob T (a + 22) (1, 3) ∧ Ob T (a + 23) (1, 3) ∧ Ob T (a + 24) (2, 112) ∧ Ob T (a + 25) (2, 112)
theorem WP.topr {T : Th} {μ : Mt} {pc : Nat} {L : List (Nat × Value)} {st : List Value} {M : Mm} {Q : Option Value → Mm → Prop} {x : Nat} (h : ∀ y : Nat, y = x → WP T μ pc L (.ref y :: st) M Q) : WP T μ pc L (.ref x :: st) M Q := h x rfl
theorem WP.ialdc {T : Th} {μ : Mt} {pc : Nat} {L : List (Nat × Value)} {st : List Value} {M : Mm} {Q : Option Value → Mm → Prop} {a n k : Nat} {i : Int32} (hO : Ob T a (1, n)) (hk : i = nI k) (hn : k < n ∧ n < 2 ^ 31) (hd : decode μ.2.2.1 pc = .ok (.iaload, 1)) (h : WP T μ (pc + 1) L (.int (M.1 a k) :: st) M Q) : WP T μ pc L (.int i :: .ref a :: st) M Q := by
  subst hk
  refine WP.iald hO (vp_in_nI hn.1 hn.2) hd ?_
  rw [nI_clamp (by omega)]
  exact h
theorem WP.laldc {T : Th} {μ : Mt} {pc : Nat} {L : List (Nat × Value)} {st : List Value} {M : Mm} {Q : Option Value → Mm → Prop} {a n k : Nat} {i : Int32} (hO : Ob T a (2, n)) (hk : i = nI k) (hn : k < n ∧ n < 2 ^ 31) (hd : decode μ.2.2.1 pc = .ok (.laload, 1)) (h : WP T μ (pc + 1) L (.long (M.2.1 a k) :: st) M Q) : WP T μ pc L (.int i :: .ref a :: st) M Q := by
  subst hk
  refine WP.lald hO (vp_in_nI hn.1 hn.2) hd ?_
  rw [nI_clamp (by omega)]
  exact h
theorem WP.zaldc {T : Th} {μ : Mt} {pc : Nat} {L : List (Nat × Value)} {st : List Value} {M : Mm} {Q : Option Value → Mm → Prop} {a n k : Nat} {i : Int32} (hO : Ob T a (4, n)) (hk : i = nI k) (hn : k < n ∧ n < 2 ^ 31) (hd : decode μ.2.2.1 pc = .ok (.baload, 1)) (h : WP T μ (pc + 1) L (.int (M.1 a k) :: st) M Q) : WP T μ pc L (.int i :: .ref a :: st) M Q := by
  subst hk
  refine WP.zald hO (vp_in_nI hn.1 hn.2) hd ?_
  rw [nI_clamp (by omega)]
  exact h
theorem WP.aaldc {T : Th} {μ : Mt} {pc : Nat} {L : List (Nat × Value)} {st : List Value} {M : Mm} {Q : Option Value → Mm → Prop} {a n k : Nat} {i : Int32} (hO : Ob T a (5, n)) (hk : i = nI k) (hn : k < n ∧ n < 2 ^ 31) (hd : decode μ.2.2.1 pc = .ok (.aaload, 1)) (h : WP T μ (pc + 1) L (.ref (M.2.2 a k) :: st) M Q) : WP T μ pc L (.int i :: .ref a :: st) M Q := by
  subst hk
  refine WP.aald hO (vp_in_nI hn.1 hn.2) hd ?_
  rw [nI_clamp (by omega)]
  exact h
theorem WP.iastc {T : Th} {μ : Mt} {pc : Nat} {L : List (Nat × Value)} {st : List Value} {M : Mm} {Q : Option Value → Mm → Prop} {a n k : Nat} {i : Int32} {x : Int32} (hO : Ob T a (1, n)) (hk : i = nI k) (hn : k < n ∧ n < 2 ^ 31) (hd : decode μ.2.2.1 pc = .ok (.iastore, 1)) (h : ∀ M1, M1 = sI M a k x → WP T μ (pc + 1) L st M1 Q) : WP T μ pc L (.int x :: .int i :: .ref a :: st) M Q := by
  subst hk
  refine WP.iast hO (vp_in_nI hn.1 hn.2) hd ?_
  rw [nI_clamp (by omega)]
  exact h
theorem WP.lastc {T : Th} {μ : Mt} {pc : Nat} {L : List (Nat × Value)} {st : List Value} {M : Mm} {Q : Option Value → Mm → Prop} {a n k : Nat} {i : Int32} {x : Int64} (hO : Ob T a (2, n)) (hk : i = nI k) (hn : k < n ∧ n < 2 ^ 31) (hd : decode μ.2.2.1 pc = .ok (.lastore, 1)) (h : ∀ M1, M1 = sL M a k x → WP T μ (pc + 1) L st M1 Q) : WP T μ pc L (.long x :: .int i :: .ref a :: st) M Q := by
  subst hk
  refine WP.last hO (vp_in_nI hn.1 hn.2) hd ?_
  rw [nI_clamp (by omega)]
  exact h
theorem WP.zastc {T : Th} {μ : Mt} {pc : Nat} {L : List (Nat × Value)} {st : List Value} {M : Mm} {Q : Option Value → Mm → Prop} {a n k : Nat} {i : Int32} {x : Int32} (hO : Ob T a (4, n)) (hk : i = nI k) (hn : k < n ∧ n < 2 ^ 31) (hd : decode μ.2.2.1 pc = .ok (.bastore, 1)) (h : ∀ M1, M1 = sI M a k (vp_nar .boolean x) → WP T μ (pc + 1) L st M1 Q) : WP T μ pc L (.int x :: .int i :: .ref a :: st) M Q := by
  subst hk
  refine WP.zast hO (vp_in_nI hn.1 hn.2) hd ?_
  rw [nI_clamp (by omega)]
  exact h
theorem WP.aastc {T : Th} {μ : Mt} {pc : Nat} {L : List (Nat × Value)} {st : List Value} {M : Mm} {Q : Option Value → Mm → Prop} {a n k v : Nat} {i : Int32} (hO : Ob T a (5, n)) (hv : Ob T v (0, 2)) (hk : i = nI k) (hn : k < n ∧ n < 2 ^ 31) (hd : decode μ.2.2.1 pc = .ok (.aastore, 1)) (h : ∀ M1, M1 = sR M a k v → WP T μ (pc + 1) L st M1 Q) : WP T μ pc L (.ref v :: .int i :: .ref a :: st) M Q := by
  subst hk
  refine WP.aast hO hv (vp_in_nI hn.1 hn.2) hd ?_
  rw [nI_clamp (by omega)]
  exact h
theorem tabcase (x : Int32) (lo : Int) (n : Nat) : (x.toInt < lo ∨ lo + n ≤ x.toInt) ∨ ∃ k : Nat, k < n ∧ x.toInt = lo + k := by
  by_cases h1 : x.toInt < lo
  · exact Or.inl (Or.inl h1)
  · by_cases h2 : lo + n ≤ x.toInt
    · exact Or.inl (Or.inr h2)
    · exact Or.inr ⟨(x.toInt - lo).toNat, by omega, by omega⟩
theorem WPM.mono {T : Th} {μ : Mt} {As : List Value} {M : Mm} {Q Q' : Option Value → Mm → Prop} (h : WPM T μ As M Q) (hq : ∀ r M', Q r M' → Q' r M') : WPM T μ As M Q' := by
  intro p e ha hc hk s m args below hf hfit hP hK
  obtain ⟨t, o, h1, h2, h3, h4, h5⟩ := h p e ha hc hk s m args below hf hfit hP hK
  exact ⟨t, o, h1, h2, h3, Qq.mono hq h4, h5⟩
theorem WPi.mono {T : Th} {μ : Mt} {As : List Value} {M : Mm} {Q Q' : Int32 → Mm → Prop} (h : WPi T μ As M Q) (hq : ∀ r M', Q r M' → Q' r M') : WPi T μ As M Q' := WPM.mono h fun _ M' ⟨x, h1, h2⟩ => ⟨x, h1, hq x M' h2⟩
theorem WPl.mono {T : Th} {μ : Mt} {As : List Value} {M : Mm} {Q Q' : Int64 → Mm → Prop} (h : WPl T μ As M Q) (hq : ∀ r M', Q r M' → Q' r M') : WPl T μ As M Q' := WPM.mono h fun _ M' ⟨x, h1, h2⟩ => ⟨x, h1, hq x M' h2⟩
theorem WPv.mono {T : Th} {μ : Mt} {As : List Value} {M : Mm} {Q Q' : Mm → Prop} (h : WPv T μ As M Q) (hq : ∀ M', Q M' → Q' M') : WPv T μ As M Q' := WPM.mono h fun _ M' ⟨h1, h2⟩ => ⟨h1, hq M' h2⟩
