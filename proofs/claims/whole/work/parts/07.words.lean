theorem okC_X0 : ng_okC RX0 TX0 4 := by unfold ng_okC; decide +kernel
theorem okC_X1 : ng_okC RX1 TX1 18 := by unfold ng_okC; decide +kernel
theorem okC_X2 : ng_okC RX2 TX2 17 := by unfold ng_okC; decide +kernel
theorem okC_X3 : ng_okC RX3 TX3 3 := by unfold ng_okC; decide +kernel
theorem okC_X4 : ng_okC RX4 TX4 3 := by unfold ng_okC; decide +kernel
theorem okC_X5 : ng_okC RX5 TX5 7 := by unfold ng_okC; decide +kernel
theorem okC_X6 : ng_okC RX6 TX6 28 := by unfold ng_okC; decide +kernel
def md_X0_init : ng_MD := (RX0, yX0_init, cX0_init, 1, none, 0, 1, 20)
def md_X0_add : ng_MD := (RX0, yX0_add, cX0_add, 8, none, 6, 1, 22)
def md_X0_word : ng_MD := (RX0, yX0_word, cX0_word, 3, (some .int), 2, 1, 22)
def md_X1_init : ng_MD := (RX1, yX1_init, cX1_init, 3, none, 2, 2, 42)
def md_X1_aim : ng_MD := (RX1, yX1_aim, cX1_aim, 5, none, 4, 0, 0)
def md_X1_search : ng_MD := (RX1, yX1_search, cX1_search, 7, (some .int), 1, 6, 155)
def md_X1_tell : ng_MD := (RX1, yX1_tell, cX1_tell, 5, none, 1, 0, 0)
def md_X1_toldMove : ng_MD := (RX1, yX1_toldMove, cX1_toldMove, 2, (some .int), 1, 0, 0)
def md_X1_lastLetIn : ng_MD := (RX1, yX1_lastLetIn, cX1_lastLetIn, 6, (some .int), 3, 5, 129)
def md_X1_expand : ng_MD := (RX1, yX1_expand, cX1_expand, 4, (some .int), 1, 5, 132)
def md_X1_tryLetters : ng_MD := (RX1, yX1_tryLetters, cX1_tryLetters, 5, (some .int), 2, 4, 108)
def md_X1_tryShows : ng_MD := (RX1, yX1_tryShows, cX1_tryShows, 7, (some .int), 2, 4, 95)
def md_X1_tryTurns : ng_MD := (RX1, yX1_tryTurns, cX1_tryTurns, 5, (some .int), 2, 4, 95)
def md_X1_tryGives : ng_MD := (RX1, yX1_tryGives, cX1_tryGives, 7, (some .int), 2, 4, 95)
def md_X1_meet : ng_MD := (RX1, yX1_meet, cX1_meet, 3, (some .int), 2, 0, 0)
def md_X1_reach : ng_MD := (RX1, yX1_reach, cX1_reach, 3, (some .int), 2, 3, 73)
def md_X1_isStrangeNoteTaken : ng_MD := (RX1, yX1_isStrangeNoteTaken, cX1_isStrangeNoteTaken, 2, (some .boolean), 0, 2, 44)
def md_X1_keepIfNew : ng_MD := (RX1, yX1_keepIfNew, cX1_keepIfNew, 6, (some .int), 2, 2, 48)
def md_X2_init : ng_MD := (RX2, yX2_init, cX2_init, 1, none, 0, 1, 23)
def md_X2_on : ng_MD := (RX2, yX2_on, cX2_on, 2, (some .boolean), 1, 0, 0)
def md_X2_isHouse : ng_MD := (RX2, yX2_isHouse, cX2_isHouse, 2, (some .boolean), 1, 0, 0)
def md_X2_isIn : ng_MD := (RX2, yX2_isIn, cX2_isIn, 2, (some .boolean), 1, 0, 0)
def md_X2_isOnce : ng_MD := (RX2, yX2_isOnce, cX2_isOnce, 2, (some .boolean), 1, 0, 0)
def md_X2_open : ng_MD := (RX2, yX2_open, cX2_open, 5, none, 4, 0, 0)
def md_X3_init : ng_MD := (RX3, yX3_init, cX3_init, 1, none, 0, 1, 20)
def md_X3_isLaid : ng_MD := (RX3, yX3_isLaid, cX3_isLaid, 1, (some .boolean), 0, 0, 0)
def md_X3_lay : ng_MD := (RX3, yX3_lay, cX3_lay, 3, none, 2, 1, 24)
def md_X3_put : ng_MD := (RX3, yX3_put, cX3_put, 4, (some .boolean), 2, 1, 22)
def md_X3_cut : ng_MD := (RX3, yX3_cut, cX3_cut, 3, (some .long), 1, 0, 0)
def md_X3_holds : ng_MD := (RX3, yX3_holds, cX3_holds, 3, (some .boolean), 2, 0, 0)
def md_X3_isInt : ng_MD := (RX3, yX3_isInt, cX3_isInt, 2, (some .boolean), 1, 0, 0)
def md_X3_intAt : ng_MD := (RX3, yX3_intAt, cX3_intAt, 2, (some .int), 1, 1, 21)
def md_X4_init : ng_MD := (RX4, yX4_init, cX4_init, 3, none, 2, 1, 20)
def md_X4_time : ng_MD := (RX4, yX4_time, cX4_time, 1, (some .int), 0, 0, 0)
def md_X4_notes : ng_MD := (RX4, yX4_notes, cX4_notes, 1, (some .int), 0, 0, 0)
def md_X4_families : ng_MD := (RX4, yX4_families, cX4_families, 1, (some .int), 0, 0, 0)
def md_X4_letters : ng_MD := (RX4, yX4_letters, cX4_letters, 1, (some .int), 0, 0, 0)
def md_X4_isNote : ng_MD := (RX4, yX4_isNote, cX4_isNote, 2, (some .boolean), 1, 0, 0)
def md_X4_isFamily : ng_MD := (RX4, yX4_isFamily, cX4_isFamily, 2, (some .boolean), 1, 0, 0)
def md_X4_isLetter : ng_MD := (RX4, yX4_isLetter, cX4_isLetter, 2, (some .boolean), 1, 0, 0)
def md_X4_noteWord : ng_MD := (RX4, yX4_noteWord, cX4_noteWord, 4, (some .int), 2, 1, 21)
def md_X4_familyWord : ng_MD := (RX4, yX4_familyWord, cX4_familyWord, 4, (some .int), 2, 1, 21)
def md_X4_letterWord : ng_MD := (RX4, yX4_letterWord, cX4_letterWord, 4, (some .int), 2, 1, 21)
def md_X4_houseWord : ng_MD := (RX4, yX4_houseWord, cX4_houseWord, 4, (some .int), 2, 0, 0)
def md_X4_pairOf : ng_MD := (RX4, yX4_pairOf, cX4_pairOf, 2, (some .int), 1, 1, 20)
def md_X4_knownPair : ng_MD := (RX4, yX4_knownPair, cX4_knownPair, 2, (some .int), 1, 1, 20)
def md_X4_isEnded : ng_MD := (RX4, yX4_isEnded, cX4_isEnded, 2, (some .boolean), 1, 2, 44)
def md_X4_has : ng_MD := (RX4, yX4_has, cX4_has, 4, (some .boolean), 2, 1, 21)
def md_X4_letHave : ng_MD := (RX4, yX4_letHave, cX4_letHave, 3, none, 2, 1, 21)
def md_X4_openHouse : ng_MD := (RX4, yX4_openHouse, cX4_openHouse, 2, none, 1, 0, 0)
def md_X4_givePair : ng_MD := (RX4, yX4_givePair, cX4_givePair, 2, (some .int), 1, 1, 20)
def md_X4_post : ng_MD := (RX4, yX4_post, cX4_post, 13, none, 6, 0, 0)
def md_X4_postAgain : ng_MD := (RX4, yX4_postAgain, cX4_postAgain, 3, (some .boolean), 1, 1, 32)
def md_X4_takeOut : ng_MD := (RX4, yX4_takeOut, cX4_takeOut, 4, none, 1, 1, 26)
def md_X4_come : ng_MD := (RX4, yX4_come, cX4_come, 9, (some .int), 1, 3, 80)
def md_X4_askComes : ng_MD := (RX4, yX4_askComes, cX4_askComes, 10, (some .int), 4, 1, 32)
def md_X4_beginFamily : ng_MD := (RX4, yX4_beginFamily, cX4_beginFamily, 3, (some .int), 1, 0, 0)
def md_X4_addNoteLike : ng_MD := (RX4, yX4_addNoteLike, cX4_addNoteLike, 7, (some .int), 3, 0, 0)
def md_X4_turnComes : ng_MD := (RX4, yX4_turnComes, cX4_turnComes, 5, (some .int), 3, 2, 56)
def md_X4_thiefTurns : ng_MD := (RX4, yX4_thiefTurns, cX4_thiefTurns, 3, (some .boolean), 1, 2, 56)
def md_X4_renew : ng_MD := (RX4, yX4_renew, cX4_renew, 3, (some .int), 1, 1, 26)
def md_X4_isGoodForKeeper : ng_MD := (RX4, yX4_isGoodForKeeper, cX4_isGoodForKeeper, 5, (some .boolean), 1, 0, 0)
def md_X4_handComes : ng_MD := (RX4, yX4_handComes, cX4_handComes, 9, (some .int), 4, 2, 44)
def md_X4_giveComes : ng_MD := (RX4, yX4_giveComes, cX4_giveComes, 5, (some .int), 4, 2, 44)
def md_X4_takes : ng_MD := (RX4, yX4_takes, cX4_takes, 4, (some .boolean), 2, 1, 21)
def md_X4_overComes : ng_MD := (RX4, yX4_overComes, cX4_overComes, 3, (some .int), 2, 1, 21)
def md_X4_showComes : ng_MD := (RX4, yX4_showComes, cX4_showComes, 6, (some .int), 4, 2, 51)
def md_X4_verdict : ng_MD := (RX4, yX4_verdict, cX4_verdict, 11, (some .int), 3, 1, 21)
def md_X4_letIn : ng_MD := (RX4, yX4_letIn, cX4_letIn, 3, none, 2, 1, 21)
def md_X4_endFamiliesOf : ng_MD := (RX4, yX4_endFamiliesOf, cX4_endFamiliesOf, 4, (some .int), 1, 3, 65)
def md_X4_endFamily : ng_MD := (RX4, yX4_endFamily, cX4_endFamily, 5, none, 1, 1, 32)
def md_X4_passTick : ng_MD := (RX4, yX4_passTick, cX4_passTick, 2, none, 0, 4, 108)
def md_X4_hearOfEnded : ng_MD := (RX4, yX4_hearOfEnded, cX4_hearOfEnded, 3, none, 0, 3, 65)
def md_X4_become : ng_MD := (RX4, yX4_become, cX4_become, 3, none, 1, 1, 26)
def md_X4_mark : ng_MD := (RX4, yX4_mark, cX4_mark, 4, (some .int), 0, 1, 25)
def md_X4_mixed : ng_MD := (RX4, yX4_mixed, cX4_mixed, 6, (some .int), 3, 0, 0)
def md_X4_isLike : ng_MD := (RX4, yX4_isLike, cX4_isLike, 2, (some .boolean), 1, 1, 24)
def md_X4_sameWords : ng_MD := (RX4, yX4_sameWords, cX4_sameWords, 5, (some .boolean), 3, 0, 0)
def md_X5_init : ng_MD := (RX5, yX5_init, cX5_init, 2, none, 0, 3, 64)
def md_X5_terms : ng_MD := (RX5, yX5_terms, cX5_terms, 10, (some .boolean), 7, 1, 22)
def md_X5_checks : ng_MD := (RX5, yX5_checks, cX5_checks, 3, (some .int), 1, 1, 22)
def md_X5_house : ng_MD := (RX5, yX5_house, cX5_house, 5, (some .int), 3, 1, 24)
def md_X5_throwOut : ng_MD := (RX5, yX5_throwOut, cX5_throwOut, 2, (some .boolean), 1, 1, 21)
def md_X5_keeper : ng_MD := (RX5, yX5_keeper, cX5_keeper, 3, (some .boolean), 1, 0, 0)
def md_X5_tap : ng_MD := (RX5, yX5_tap, cX5_tap, 3, (some .int), 1, 1, 22)
def md_X5_prove : ng_MD := (RX5, yX5_prove, cX5_prove, 2, (some .boolean), 1, 1, 20)
def md_X5_leave : ng_MD := (RX5, yX5_leave, cX5_leave, 2, (some .int), 1, 4, 88)
def md_X5_end : ng_MD := (RX5, yX5_end, cX5_end, 2, (some .boolean), 1, 3, 65)
def md_X5_ask : ng_MD := (RX5, yX5_ask, cX5_ask, 5, (some .int), 3, 2, 41)
def md_X5_turn : ng_MD := (RX5, yX5_turn, cX5_turn, 4, (some .int), 2, 2, 44)
def md_X5_show : ng_MD := (RX5, yX5_show, cX5_show, 5, (some .boolean), 4, 2, 44)
def md_X5_hand : ng_MD := (RX5, yX5_hand, cX5_hand, 6, (some .boolean), 4, 2, 44)
def md_X5_fake : ng_MD := (RX5, yX5_fake, cX5_fake, 3, (some .boolean), 2, 2, 44)
def md_X5_deliver : ng_MD := (RX5, yX5_deliver, cX5_deliver, 2, (some .int), 1, 4, 108)
def md_X5_copy : ng_MD := (RX5, yX5_copy, cX5_copy, 2, (some .boolean), 1, 2, 54)
def md_X5_lose : ng_MD := (RX5, yX5_lose, cX5_lose, 2, (some .boolean), 1, 2, 49)
def md_X5_tick : ng_MD := (RX5, yX5_tick, cX5_tick, 3, (some .int), 1, 5, 129)
def md_X5_judge : ng_MD := (RX5, yX5_judge, cX5_judge, 7, (some .int), 5, 7, 181)
def md_X5_found : ng_MD := (RX5, yX5_found, cX5_found, 2, (some .int), 1, 1, 21)
def md_X5_stops : ng_MD := (RX5, yX5_stops, cX5_stops, 11, (some .int), 5, 7, 181)
def md_X5_longest : ng_MD := (RX5, yX5_longest, cX5_longest, 4, (some .int), 3, 6, 154)
def md_X5_note : ng_MD := (RX5, yX5_note, cX5_note, 3, (some .int), 2, 2, 44)
def md_X5_letter : ng_MD := (RX5, yX5_letter, cX5_letter, 3, (some .int), 2, 2, 44)
def md_X5_family : ng_MD := (RX5, yX5_family, cX5_family, 3, (some .int), 2, 2, 44)
def md_X5_houseOf : ng_MD := (RX5, yX5_houseOf, cX5_houseOf, 3, (some .int), 2, 1, 23)
def md_X5_browser : ng_MD := (RX5, yX5_browser, cX5_browser, 3, (some .int), 2, 2, 41)
def md_X5_log : ng_MD := (RX5, yX5_log, cX5_log, 3, (some .int), 2, 2, 44)
def md_X5_where : ng_MD := (RX5, yX5_where, cX5_where, 5, (some .int), 2, 2, 44)
def md_X5_count : ng_MD := (RX5, yX5_count, cX5_count, 2, (some .int), 1, 2, 43)
def md_X5_row : ng_MD := (RX5, yX5_row, cX5_row, 4, (some .int), 3, 2, 46)
def md_X5_tear : ng_MD := (RX5, yX5_tear, cX5_tear, 2, (some .boolean), 1, 1, 21)
def md_X5_write : ng_MD := (RX5, yX5_write, cX5_write, 5, (some .int), 3, 2, 45)
def md_X5_paste : ng_MD := (RX5, yX5_paste, cX5_paste, 8, (some .int), 5, 1, 26)
def md_X5_script : ng_MD := (RX5, yX5_script, cX5_script, 6, (some .int), 1, 7, 172)
def md_X5_why : ng_MD := (RX5, yX5_why, cX5_why, 1, (some .int), 0, 0, 0)
def md_X5_within : ng_MD := (RX5, yX5_within, cX5_within, 3, (some .boolean), 3, 0, 0)
def md_X5_isBrowser : ng_MD := (RX5, yX5_isBrowser, cX5_isBrowser, 1, (some .boolean), 1, 0, 0)
def md_X5_isRight : ng_MD := (RX5, yX5_isRight, cX5_isRight, 1, (some .boolean), 1, 0, 0)
def md_X5_isSlot : ng_MD := (RX5, yX5_isSlot, cX5_isSlot, 2, (some .boolean), 1, 0, 0)
def md_X5_isQuestion : ng_MD := (RX5, yX5_isQuestion, cX5_isQuestion, 6, (some .boolean), 5, 1, 22)
def md_X5_fullSlots : ng_MD := (RX5, yX5_fullSlots, cX5_fullSlots, 3, (some .int), 0, 1, 21)
def md_X5_needs : ng_MD := (RX5, yX5_needs, cX5_needs, 1, (some .int), 1, 0, 0)
def md_X5_readAct : ng_MD := (RX5, yX5_readAct, cX5_readAct, 6, (some .int), 2, 2, 42)
def md_X5_isDone : ng_MD := (RX5, yX5_isDone, cX5_isDone, 2, (some .boolean), 1, 6, 151)
def md_X6_init : ng_MD := (RX6, yX6_init, cX6_init, 2, none, 0, 1, 20)
def md_X6_in : ng_MD := (RX6, yX6_in, cX6_in, 3, (some .boolean), 3, 0, 0)
def md_X6_house : ng_MD := (RX6, yX6_house, cX6_house, 1, (some .int), 1, 0, 0)
def md_X6_browser : ng_MD := (RX6, yX6_browser, cX6_browser, 1, (some .int), 1, 0, 0)
def md_X6_note : ng_MD := (RX6, yX6_note, cX6_note, 1, (some .int), 1, 0, 0)
def md_X6_family : ng_MD := (RX6, yX6_family, cX6_family, 1, (some .int), 1, 0, 0)
def md_X6_letter : ng_MD := (RX6, yX6_letter, cX6_letter, 1, (some .int), 1, 0, 0)
def md_X6_isOn : ng_MD := (RX6, yX6_isOn, cX6_isOn, 2, (some .boolean), 2, 0, 0)
def md_X6_isHouse : ng_MD := (RX6, yX6_isHouse, cX6_isHouse, 2, (some .boolean), 1, 1, 22)
def md_X6_isNote : ng_MD := (RX6, yX6_isNote, cX6_isNote, 2, (some .boolean), 1, 1, 22)
def md_X6_has : ng_MD := (RX6, yX6_has, cX6_has, 3, (some .boolean), 3, 1, 20)
def md_X6_gets : ng_MD := (RX6, yX6_gets, cX6_gets, 3, none, 3, 1, 20)
def md_X6_terms : ng_MD := (RX6, yX6_terms, cX6_terms, 8, (some .boolean), 7, 1, 22)
def md_X6_checks : ng_MD := (RX6, yX6_checks, cX6_checks, 3, (some .int), 1, 1, 22)
def md_X6_house_ : ng_MD := (RX6, yX6_house_, cX6_house_, 5, (some .int), 3, 1, 22)
def md_X6_throwOut : ng_MD := (RX6, yX6_throwOut, cX6_throwOut, 2, (some .boolean), 1, 2, 43)
def md_X6_keeper : ng_MD := (RX6, yX6_keeper, cX6_keeper, 3, (some .boolean), 1, 0, 0)
def md_X6_tap : ng_MD := (RX6, yX6_tap, cX6_tap, 3, (some .int), 1, 1, 22)
def md_X6_prove : ng_MD := (RX6, yX6_prove, cX6_prove, 2, (some .boolean), 1, 1, 22)
def md_X6_leave : ng_MD := (RX6, yX6_leave, cX6_leave, 4, (some .int), 1, 4, 96)
def md_X6_end : ng_MD := (RX6, yX6_end, cX6_end, 2, (some .boolean), 1, 4, 96)
def md_X6_posts : ng_MD := (RX6, yX6_posts, cX6_posts, 10, none, 7, 2, 42)
def md_X6_removes : ng_MD := (RX6, yX6_removes, cX6_removes, 3, none, 2, 1, 20)
def md_X6_ends : ng_MD := (RX6, yX6_ends, cX6_ends, 6, none, 2, 3, 71)
def md_X6_given : ng_MD := (RX6, yX6_given, cX6_given, 12, (some .int), 9, 1, 20)
def md_X6_asked : ng_MD := (RX6, yX6_asked, cX6_asked, 10, (some .int), 5, 3, 71)
def md_X6_isGood : ng_MD := (RX6, yX6_isGood, cX6_isGood, 2, (some .boolean), 2, 1, 20)
def md_X6_turned : ng_MD := (RX6, yX6_turned, cX6_turned, 9, (some .int), 5, 4, 96)
def md_X6_handed : ng_MD := (RX6, yX6_handed, cX6_handed, 10, (some .int), 5, 3, 71)
def md_X6_taken : ng_MD := (RX6, yX6_taken, cX6_taken, 7, (some .int), 5, 2, 42)
def md_X6_verdict : ng_MD := (RX6, yX6_verdict, cX6_verdict, 7, (some .int), 4, 1, 21)
def md_X6_shown : ng_MD := (RX6, yX6_shown, cX6_shown, 8, (some .int), 5, 2, 47)
def md_X6_comes : ng_MD := (RX6, yX6_comes, cX6_comes, 10, (some .int), 2, 5, 124)
def md_X6_ticks : ng_MD := (RX6, yX6_ticks, cX6_ticks, 4, none, 1, 6, 153)
def md_X6_firstLate : ng_MD := (RX6, yX6_firstLate, cX6_firstLate, 2, (some .int), 1, 1, 20)
def md_X6_paired : ng_MD := (RX6, yX6_paired, cX6_paired, 2, (some .int), 1, 1, 20)
def md_X6_ask : ng_MD := (RX6, yX6_ask, cX6_ask, 5, (some .int), 3, 3, 71)
def md_X6_turn : ng_MD := (RX6, yX6_turn, cX6_turn, 4, (some .int), 2, 3, 71)
def md_X6_isHolder : ng_MD := (RX6, yX6_isHolder, cX6_isHolder, 2, (some .boolean), 1, 2, 43)
def md_X6_show : ng_MD := (RX6, yX6_show, cX6_show, 5, (some .boolean), 4, 3, 71)
def md_X6_hand : ng_MD := (RX6, yX6_hand, cX6_hand, 5, (some .boolean), 4, 3, 71)
def md_X6_fake : ng_MD := (RX6, yX6_fake, cX6_fake, 3, (some .boolean), 2, 3, 71)
def md_X6_deliver : ng_MD := (RX6, yX6_deliver, cX6_deliver, 2, (some .int), 1, 6, 153)
def md_X6_copy : ng_MD := (RX6, yX6_copy, cX6_copy, 3, (some .boolean), 1, 3, 71)
def md_X6_lose : ng_MD := (RX6, yX6_lose, cX6_lose, 2, (some .boolean), 1, 2, 42)
def md_X6_tick : ng_MD := (RX6, yX6_tick, cX6_tick, 3, (some .int), 1, 7, 176)
def md_X6_copy_ : ng_MD := (RX6, yX6_copy_, cX6_copy_, 5, none, 4, 0, 0)
def md_X6_isAsked : ng_MD := (RX6, yX6_isAsked, cX6_isAsked, 6, (some .boolean), 5, 2, 43)
def md_X6_isMixed : ng_MD := (RX6, yX6_isMixed, cX6_isMixed, 4, (some .boolean), 2, 2, 42)
def md_X6_makes : ng_MD := (RX6, yX6_makes, cX6_makes, 9, (some .boolean), 5, 7, 176)
def md_X6_sumOf : ng_MD := (RX6, yX6_sumOf, cX6_sumOf, 3, (some .int), 1, 0, 0)
def md_X6_isThere : ng_MD := (RX6, yX6_isThere, cX6_isThere, 5, (some .boolean), 2, 0, 0)
def md_X6_lays : ng_MD := (RX6, yX6_lays, cX6_lays, 5, none, 4, 1, 24)
def md_X6_search : ng_MD := (RX6, yX6_search, cX6_search, 10, (some .int), 6, 8, 204)
def md_X6_judge : ng_MD := (RX6, yX6_judge, cX6_judge, 9, (some .int), 5, 9, 233)
def md_X6_found : ng_MD := (RX6, yX6_found, cX6_found, 2, (some .int), 1, 1, 22)
def md_X6_stops : ng_MD := (RX6, yX6_stops, cX6_stops, 10, (some .int), 5, 9, 233)
def md_X6_longest : ng_MD := (RX6, yX6_longest, cX6_longest, 6, (some .int), 3, 7, 176)
def md_X6_note_ : ng_MD := (RX6, yX6_note_, cX6_note_, 3, (some .int), 2, 2, 43)
def md_X6_letter_ : ng_MD := (RX6, yX6_letter_, cX6_letter_, 3, (some .int), 2, 1, 22)
def md_X6_family_ : ng_MD := (RX6, yX6_family_, cX6_family_, 3, (some .int), 2, 1, 22)
def md_X6_houseOf : ng_MD := (RX6, yX6_houseOf, cX6_houseOf, 4, (some .int), 2, 2, 43)
def md_X6_browser_ : ng_MD := (RX6, yX6_browser_, cX6_browser_, 3, (some .int), 2, 1, 22)
def md_X6_log : ng_MD := (RX6, yX6_log, cX6_log, 3, (some .int), 2, 1, 22)
def md_X6_where : ng_MD := (RX6, yX6_where, cX6_where, 5, (some .int), 2, 2, 43)
def md_X6_count : ng_MD := (RX6, yX6_count, cX6_count, 4, (some .int), 1, 0, 0)
def md_X6_isSlot : ng_MD := (RX6, yX6_isSlot, cX6_isSlot, 1, (some .boolean), 1, 1, 22)
def md_X6_cut : ng_MD := (RX6, yX6_cut, cX6_cut, 3, (some .long), 2, 0, 0)
def md_X6_row : ng_MD := (RX6, yX6_row, cX6_row, 5, (some .int), 3, 2, 42)
def md_X6_tear : ng_MD := (RX6, yX6_tear, cX6_tear, 2, (some .boolean), 1, 2, 42)
def md_X6_write : ng_MD := (RX6, yX6_write, cX6_write, 5, (some .int), 3, 2, 42)
def md_X6_paste : ng_MD := (RX6, yX6_paste, cX6_paste, 7, (some .int), 5, 2, 42)
def md_X6_done : ng_MD := (RX6, yX6_done, cX6_done, 6, (some .boolean), 5, 8, 198)
def md_X6_isInt : ng_MD := (RX6, yX6_isInt, cX6_isInt, 2, (some .boolean), 1, 0, 0)
def md_X6_script : ng_MD := (RX6, yX6_script, cX6_script, 10, (some .int), 1, 9, 223)
def md_X6_why : ng_MD := (RX6, yX6_why, cX6_why, 1, (some .int), 0, 0, 0)
def md_J9_floorMod_7cf53 : ng_MD := (RJ9, yJ9_floorMod_7cf53, cJ9_floorMod_7cf53, 3, (some .int), 2, 0, 0)
def md_J9_min_7cf53 : ng_MD := (RJ9, yJ9_min_7cf53, cJ9_min_7cf53, 2, (some .int), 2, 0, 0)
def md_J7_fill_d0a16 : ng_MD := (RJ7, yJ7_fill_d0a16, cJ7_fill_d0a16, 5, none, 2, 0, 0)
def md_J7_fill_53178 : ng_MD := (RJ7, yJ7_fill_53178, cJ7_fill_53178, 4, none, 2, 0, 0)
def md_L_law : ng_MD := (RL, yL_law, cL_law, 4, (some .boolean), 1, 10, 262)
set_option maxRecDepth 20000 in
theorem okB_X0_init : ng_okB md_X0_init := ⟨List.mem_of_getElem? (i := 160) rfl, List.mem_of_getElem? (i := 51) (by decide +kernel), ⟨by decide +kernel, by decide +kernel⟩, by decide +kernel, plainFor_of_name (by decide +kernel), rfl⟩
theorem ok_X0_init : ng_okI md_X0_init := ⟨okB_X0_init, List.mem_of_getElem? (i := 159) (by decide +kernel), rfl, rfl⟩
set_option maxRecDepth 20000 in
theorem okB_X0_add : ng_okB md_X0_add := ⟨List.mem_of_getElem? (i := 505) rfl, List.mem_of_getElem? (i := 51) (by decide +kernel), ⟨by decide +kernel, by decide +kernel⟩, by decide +kernel, plainFor_of_name (by decide +kernel), rfl⟩
theorem ok_X0_add : ng_okV md_X0_add := ⟨okB_X0_add, List.mem_of_getElem? (i := 503) (by decide +kernel), List.mem_of_getElem? (i := 504) (by decide +kernel)⟩
set_option maxRecDepth 20000 in
theorem okB_X0_word : ng_okB md_X0_word := ⟨List.mem_of_getElem? (i := 719) rfl, List.mem_of_getElem? (i := 51) (by decide +kernel), ⟨by decide +kernel, by decide +kernel⟩, by decide +kernel, plainFor_of_name (by decide +kernel), rfl⟩
theorem ok_X0_word : ng_okV md_X0_word := ⟨okB_X0_word, List.mem_of_getElem? (i := 717) (by decide +kernel), List.mem_of_getElem? (i := 718) (by decide +kernel)⟩
set_option maxRecDepth 20000 in
theorem okB_X1_init : ng_okB md_X1_init := ⟨List.mem_of_getElem? (i := 199) rfl, List.mem_of_getElem? (i := 53) (by decide +kernel), ⟨by decide +kernel, by decide +kernel⟩, by decide +kernel, plainFor_of_name (by decide +kernel), rfl⟩
theorem ok_X1_init : ng_okI md_X1_init := ⟨okB_X1_init, List.mem_of_getElem? (i := 198) (by decide +kernel), rfl, rfl⟩
set_option maxRecDepth 20000 in
theorem okB_X1_aim : ng_okB md_X1_aim := ⟨List.mem_of_getElem? (i := 571) rfl, List.mem_of_getElem? (i := 53) (by decide +kernel), ⟨by decide +kernel, by decide +kernel⟩, by decide +kernel, plainFor_of_name (by decide +kernel), rfl⟩
theorem ok_X1_aim : ng_okV md_X1_aim := ⟨okB_X1_aim, List.mem_of_getElem? (i := 569) (by decide +kernel), List.mem_of_getElem? (i := 570) (by decide +kernel)⟩
set_option maxRecDepth 20000 in
theorem okB_X1_search : ng_okB md_X1_search := ⟨List.mem_of_getElem? (i := 575) rfl, List.mem_of_getElem? (i := 53) (by decide +kernel), ⟨by decide +kernel, by decide +kernel⟩, by decide +kernel, plainFor_of_name (by decide +kernel), rfl⟩
theorem ok_X1_search : ng_okV md_X1_search := ⟨okB_X1_search, List.mem_of_getElem? (i := 573) (by decide +kernel), List.mem_of_getElem? (i := 574) (by decide +kernel)⟩
set_option maxRecDepth 20000 in
theorem okB_X1_tell : ng_okB md_X1_tell := ⟨List.mem_of_getElem? (i := 657) rfl, List.mem_of_getElem? (i := 53) (by decide +kernel), ⟨by decide +kernel, by decide +kernel⟩, by decide +kernel, plainFor_of_name (by decide +kernel), rfl⟩
theorem ok_X1_tell : ng_okV md_X1_tell := ⟨okB_X1_tell, List.mem_of_getElem? (i := 655) (by decide +kernel), List.mem_of_getElem? (i := 656) (by decide +kernel)⟩
set_option maxRecDepth 20000 in
theorem okB_X1_toldMove : ng_okB md_X1_toldMove := ⟨List.mem_of_getElem? (i := 665) rfl, List.mem_of_getElem? (i := 53) (by decide +kernel), ⟨by decide +kernel, by decide +kernel⟩, by decide +kernel, plainFor_of_name (by decide +kernel), rfl⟩
theorem ok_X1_toldMove : ng_okV md_X1_toldMove := ⟨okB_X1_toldMove, List.mem_of_getElem? (i := 663) (by decide +kernel), List.mem_of_getElem? (i := 664) (by decide +kernel)⟩
set_option maxRecDepth 20000 in
theorem okB_X1_lastLetIn : ng_okB md_X1_lastLetIn := ⟨List.mem_of_getElem? (i := 677) rfl, List.mem_of_getElem? (i := 53) (by decide +kernel), ⟨by decide +kernel, by decide +kernel⟩, by decide +kernel, plainFor_of_name (by decide +kernel), rfl⟩
theorem ok_X1_lastLetIn : ng_okV md_X1_lastLetIn := ⟨okB_X1_lastLetIn, List.mem_of_getElem? (i := 675) (by decide +kernel), List.mem_of_getElem? (i := 676) (by decide +kernel)⟩
set_option maxRecDepth 20000 in
theorem okB_X1_expand : ng_okB md_X1_expand := ⟨List.mem_of_getElem? (i := 614) rfl, List.mem_of_getElem? (i := 53) (by decide +kernel), ⟨by decide +kernel, by decide +kernel⟩, by decide +kernel, plainFor_of_name (by decide +kernel), rfl⟩
theorem ok_X1_expand : ng_okV md_X1_expand := ⟨okB_X1_expand, List.mem_of_getElem? (i := 613) (by decide +kernel), List.mem_of_getElem? (i := 15) (by decide +kernel)⟩
set_option maxRecDepth 20000 in
theorem okB_X1_tryLetters : ng_okB md_X1_tryLetters := ⟨List.mem_of_getElem? (i := 618) rfl, List.mem_of_getElem? (i := 53) (by decide +kernel), ⟨by decide +kernel, by decide +kernel⟩, by decide +kernel, plainFor_of_name (by decide +kernel), rfl⟩
theorem ok_X1_tryLetters : ng_okV md_X1_tryLetters := ⟨okB_X1_tryLetters, List.mem_of_getElem? (i := 617) (by decide +kernel), List.mem_of_getElem? (i := 16) (by decide +kernel)⟩
set_option maxRecDepth 20000 in
theorem okB_X1_tryShows : ng_okB md_X1_tryShows := ⟨List.mem_of_getElem? (i := 635) rfl, List.mem_of_getElem? (i := 53) (by decide +kernel), ⟨by decide +kernel, by decide +kernel⟩, by decide +kernel, plainFor_of_name (by decide +kernel), rfl⟩
theorem ok_X1_tryShows : ng_okV md_X1_tryShows := ⟨okB_X1_tryShows, List.mem_of_getElem? (i := 634) (by decide +kernel), List.mem_of_getElem? (i := 19) (by decide +kernel)⟩
set_option maxRecDepth 20000 in
theorem okB_X1_tryTurns : ng_okB md_X1_tryTurns := ⟨List.mem_of_getElem? (i := 641) rfl, List.mem_of_getElem? (i := 53) (by decide +kernel), ⟨by decide +kernel, by decide +kernel⟩, by decide +kernel, plainFor_of_name (by decide +kernel), rfl⟩
theorem ok_X1_tryTurns : ng_okV md_X1_tryTurns := ⟨okB_X1_tryTurns, List.mem_of_getElem? (i := 640) (by decide +kernel), List.mem_of_getElem? (i := 20) (by decide +kernel)⟩
set_option maxRecDepth 20000 in
theorem okB_X1_tryGives : ng_okB md_X1_tryGives := ⟨List.mem_of_getElem? (i := 649) rfl, List.mem_of_getElem? (i := 53) (by decide +kernel), ⟨by decide +kernel, by decide +kernel⟩, by decide +kernel, plainFor_of_name (by decide +kernel), rfl⟩
theorem ok_X1_tryGives : ng_okV md_X1_tryGives := ⟨okB_X1_tryGives, List.mem_of_getElem? (i := 648) (by decide +kernel), List.mem_of_getElem? (i := 21) (by decide +kernel)⟩
set_option maxRecDepth 20000 in
theorem okB_X1_meet : ng_okB md_X1_meet := ⟨List.mem_of_getElem? (i := 631) rfl, List.mem_of_getElem? (i := 53) (by decide +kernel), ⟨by decide +kernel, by decide +kernel⟩, by decide +kernel, plainFor_of_name (by decide +kernel), rfl⟩
theorem ok_X1_meet : ng_okV md_X1_meet := ⟨okB_X1_meet, List.mem_of_getElem? (i := 630) (by decide +kernel), List.mem_of_getElem? (i := 18) (by decide +kernel)⟩
set_option maxRecDepth 20000 in
theorem okB_X1_reach : ng_okB md_X1_reach := ⟨List.mem_of_getElem? (i := 627) rfl, List.mem_of_getElem? (i := 53) (by decide +kernel), ⟨by decide +kernel, by decide +kernel⟩, by decide +kernel, plainFor_of_name (by decide +kernel), rfl⟩
theorem ok_X1_reach : ng_okV md_X1_reach := ⟨okB_X1_reach, List.mem_of_getElem? (i := 626) (by decide +kernel), List.mem_of_getElem? (i := 17) (by decide +kernel)⟩
set_option maxRecDepth 20000 in
theorem okB_X1_isStrangeNoteTaken : ng_okB md_X1_isStrangeNoteTaken := ⟨List.mem_of_getElem? (i := 584) rfl, List.mem_of_getElem? (i := 53) (by decide +kernel), ⟨by decide +kernel, by decide +kernel⟩, by decide +kernel, plainFor_of_name (by decide +kernel), rfl⟩
theorem ok_X1_isStrangeNoteTaken : ng_okV md_X1_isStrangeNoteTaken := ⟨okB_X1_isStrangeNoteTaken, List.mem_of_getElem? (i := 583) (by decide +kernel), List.mem_of_getElem? (i := 11) (by decide +kernel)⟩
set_option maxRecDepth 20000 in
theorem okB_X1_keepIfNew : ng_okB md_X1_keepIfNew := ⟨List.mem_of_getElem? (i := 594) rfl, List.mem_of_getElem? (i := 53) (by decide +kernel), ⟨by decide +kernel, by decide +kernel⟩, by decide +kernel, plainFor_of_name (by decide +kernel), rfl⟩
theorem ok_X1_keepIfNew : ng_okV md_X1_keepIfNew := ⟨okB_X1_keepIfNew, List.mem_of_getElem? (i := 593) (by decide +kernel), List.mem_of_getElem? (i := 12) (by decide +kernel)⟩
set_option maxRecDepth 20000 in
theorem okB_X2_init : ng_okB md_X2_init := ⟨List.mem_of_getElem? (i := 70) rfl, List.mem_of_getElem? (i := 49) (by decide +kernel), ⟨by decide +kernel, by decide +kernel⟩, by decide +kernel, plainFor_of_name (by decide +kernel), rfl⟩
theorem ok_X2_init : ng_okI md_X2_init := ⟨okB_X2_init, List.mem_of_getElem? (i := 69) (by decide +kernel), rfl, rfl⟩
set_option maxRecDepth 20000 in
theorem okB_X2_on : ng_okB md_X2_on := ⟨List.mem_of_getElem? (i := 481) rfl, List.mem_of_getElem? (i := 49) (by decide +kernel), ⟨by decide +kernel, by decide +kernel⟩, by decide +kernel, plainFor_of_name (by decide +kernel), rfl⟩
theorem ok_X2_on : ng_okV md_X2_on := ⟨okB_X2_on, List.mem_of_getElem? (i := 479) (by decide +kernel), List.mem_of_getElem? (i := 480) (by decide +kernel)⟩
set_option maxRecDepth 20000 in
theorem okB_X2_isHouse : ng_okB md_X2_isHouse := ⟨List.mem_of_getElem? (i := 396) rfl, List.mem_of_getElem? (i := 49) (by decide +kernel), ⟨by decide +kernel, by decide +kernel⟩, by decide +kernel, plainFor_of_name (by decide +kernel), rfl⟩
theorem ok_X2_isHouse : ng_okV md_X2_isHouse := ⟨okB_X2_isHouse, List.mem_of_getElem? (i := 394) (by decide +kernel), List.mem_of_getElem? (i := 395) (by decide +kernel)⟩
set_option maxRecDepth 20000 in
theorem okB_X2_isIn : ng_okB md_X2_isIn := ⟨List.mem_of_getElem? (i := 333) rfl, List.mem_of_getElem? (i := 49) (by decide +kernel), ⟨by decide +kernel, by decide +kernel⟩, by decide +kernel, plainFor_of_name (by decide +kernel), rfl⟩
theorem ok_X2_isIn : ng_okV md_X2_isIn := ⟨okB_X2_isIn, List.mem_of_getElem? (i := 331) (by decide +kernel), List.mem_of_getElem? (i := 332) (by decide +kernel)⟩
set_option maxRecDepth 20000 in
theorem okB_X2_isOnce : ng_okB md_X2_isOnce := ⟨List.mem_of_getElem? (i := 497) rfl, List.mem_of_getElem? (i := 49) (by decide +kernel), ⟨by decide +kernel, by decide +kernel⟩, by decide +kernel, plainFor_of_name (by decide +kernel), rfl⟩
theorem ok_X2_isOnce : ng_okV md_X2_isOnce := ⟨okB_X2_isOnce, List.mem_of_getElem? (i := 495) (by decide +kernel), List.mem_of_getElem? (i := 496) (by decide +kernel)⟩
set_option maxRecDepth 20000 in
theorem okB_X2_open : ng_okB md_X2_open := ⟨List.mem_of_getElem? (i := 321) rfl, List.mem_of_getElem? (i := 49) (by decide +kernel), ⟨by decide +kernel, by decide +kernel⟩, by decide +kernel, plainFor_of_name (by decide +kernel), rfl⟩
theorem ok_X2_open : ng_okV md_X2_open := ⟨okB_X2_open, List.mem_of_getElem? (i := 319) (by decide +kernel), List.mem_of_getElem? (i := 320) (by decide +kernel)⟩
set_option maxRecDepth 20000 in
theorem okB_X3_init : ng_okB md_X3_init := ⟨List.mem_of_getElem? (i := 265) rfl, List.mem_of_getElem? (i := 54) (by decide +kernel), ⟨by decide +kernel, by decide +kernel⟩, by decide +kernel, plainFor_of_name (by decide +kernel), rfl⟩
theorem ok_X3_init : ng_okI md_X3_init := ⟨okB_X3_init, List.mem_of_getElem? (i := 264) (by decide +kernel), rfl, rfl⟩
set_option maxRecDepth 20000 in
theorem okB_X3_isLaid : ng_okB md_X3_isLaid := ⟨List.mem_of_getElem? (i := 745) rfl, List.mem_of_getElem? (i := 54) (by decide +kernel), ⟨by decide +kernel, by decide +kernel⟩, by decide +kernel, plainFor_of_name (by decide +kernel), rfl⟩
theorem ok_X3_isLaid : ng_okV md_X3_isLaid := ⟨okB_X3_isLaid, List.mem_of_getElem? (i := 743) (by decide +kernel), List.mem_of_getElem? (i := 744) (by decide +kernel)⟩
set_option maxRecDepth 20000 in
theorem okB_X3_lay : ng_okB md_X3_lay := ⟨List.mem_of_getElem? (i := 753) rfl, List.mem_of_getElem? (i := 54) (by decide +kernel), ⟨by decide +kernel, by decide +kernel⟩, by decide +kernel, plainFor_of_name (by decide +kernel), rfl⟩
theorem ok_X3_lay : ng_okV md_X3_lay := ⟨okB_X3_lay, List.mem_of_getElem? (i := 751) (by decide +kernel), List.mem_of_getElem? (i := 752) (by decide +kernel)⟩
set_option maxRecDepth 20000 in
theorem okB_X3_put : ng_okB md_X3_put := ⟨List.mem_of_getElem? (i := 768) rfl, List.mem_of_getElem? (i := 54) (by decide +kernel), ⟨by decide +kernel, by decide +kernel⟩, by decide +kernel, plainFor_of_name (by decide +kernel), rfl⟩
theorem ok_X3_put : ng_okV md_X3_put := ⟨okB_X3_put, List.mem_of_getElem? (i := 766) (by decide +kernel), List.mem_of_getElem? (i := 767) (by decide +kernel)⟩
set_option maxRecDepth 20000 in
theorem okB_X3_cut : ng_okB md_X3_cut := ⟨List.mem_of_getElem? (i := 772) rfl, List.mem_of_getElem? (i := 54) (by decide +kernel), ⟨by decide +kernel, by decide +kernel⟩, by decide +kernel, plainFor_of_name (by decide +kernel), rfl⟩
theorem ok_X3_cut : ng_okV md_X3_cut := ⟨okB_X3_cut, List.mem_of_getElem? (i := 771) (by decide +kernel), List.mem_of_getElem? (i := 24) (by decide +kernel)⟩
set_option maxRecDepth 20000 in
theorem okB_X3_holds : ng_okB md_X3_holds := ⟨List.mem_of_getElem? (i := 780) rfl, List.mem_of_getElem? (i := 54) (by decide +kernel), ⟨by decide +kernel, by decide +kernel⟩, by decide +kernel, plainFor_of_name (by decide +kernel), rfl⟩
theorem ok_X3_holds : ng_okV md_X3_holds := ⟨okB_X3_holds, List.mem_of_getElem? (i := 778) (by decide +kernel), List.mem_of_getElem? (i := 779) (by decide +kernel)⟩
set_option maxRecDepth 20000 in
theorem okB_X3_isInt : ng_okB md_X3_isInt := ⟨List.mem_of_getElem? (i := 793) rfl, List.mem_of_getElem? (i := 54) (by decide +kernel), ⟨by decide +kernel, by decide +kernel⟩, by decide +kernel, plainFor_of_name (by decide +kernel), rfl⟩
theorem ok_X3_isInt : ng_okV md_X3_isInt := ⟨okB_X3_isInt, List.mem_of_getElem? (i := 791) (by decide +kernel), List.mem_of_getElem? (i := 792) (by decide +kernel)⟩
set_option maxRecDepth 20000 in
theorem okB_X3_intAt : ng_okB md_X3_intAt := ⟨List.mem_of_getElem? (i := 797) rfl, List.mem_of_getElem? (i := 54) (by decide +kernel), ⟨by decide +kernel, by decide +kernel⟩, by decide +kernel, plainFor_of_name (by decide +kernel), rfl⟩
theorem ok_X3_intAt : ng_okV md_X3_intAt := ⟨okB_X3_intAt, List.mem_of_getElem? (i := 795) (by decide +kernel), List.mem_of_getElem? (i := 796) (by decide +kernel)⟩
set_option maxRecDepth 20000 in
theorem okB_X4_init : ng_okB md_X4_init := ⟨List.mem_of_getElem? (i := 183) rfl, List.mem_of_getElem? (i := 52) (by decide +kernel), ⟨by decide +kernel, by decide +kernel⟩, by decide +kernel, plainFor_of_name (by decide +kernel), rfl⟩
theorem ok_X4_init : ng_okI md_X4_init := ⟨okB_X4_init, List.mem_of_getElem? (i := 182) (by decide +kernel), rfl, rfl⟩
set_option maxRecDepth 20000 in
theorem okB_X4_time : ng_okB md_X4_time := ⟨List.mem_of_getElem? (i := 352) rfl, List.mem_of_getElem? (i := 52) (by decide +kernel), ⟨by decide +kernel, by decide +kernel⟩, by decide +kernel, plainFor_of_name (by decide +kernel), rfl⟩
theorem ok_X4_time : ng_okV md_X4_time := ⟨okB_X4_time, List.mem_of_getElem? (i := 350) (by decide +kernel), List.mem_of_getElem? (i := 351) (by decide +kernel)⟩
set_option maxRecDepth 20000 in
theorem okB_X4_notes : ng_okB md_X4_notes := ⟨List.mem_of_getElem? (i := 588) rfl, List.mem_of_getElem? (i := 52) (by decide +kernel), ⟨by decide +kernel, by decide +kernel⟩, by decide +kernel, plainFor_of_name (by decide +kernel), rfl⟩
theorem ok_X4_notes : ng_okV md_X4_notes := ⟨okB_X4_notes, List.mem_of_getElem? (i := 586) (by decide +kernel), List.mem_of_getElem? (i := 587) (by decide +kernel)⟩
set_option maxRecDepth 20000 in
theorem okB_X4_families : ng_okB md_X4_families := ⟨List.mem_of_getElem? (i := 732) rfl, List.mem_of_getElem? (i := 52) (by decide +kernel), ⟨by decide +kernel, by decide +kernel⟩, by decide +kernel, plainFor_of_name (by decide +kernel), rfl⟩
theorem ok_X4_families : ng_okV md_X4_families := ⟨okB_X4_families, List.mem_of_getElem? (i := 730) (by decide +kernel), List.mem_of_getElem? (i := 731) (by decide +kernel)⟩
set_option maxRecDepth 20000 in
theorem okB_X4_letters : ng_okB md_X4_letters := ⟨List.mem_of_getElem? (i := 622) rfl, List.mem_of_getElem? (i := 52) (by decide +kernel), ⟨by decide +kernel, by decide +kernel⟩, by decide +kernel, plainFor_of_name (by decide +kernel), rfl⟩
theorem ok_X4_letters : ng_okV md_X4_letters := ⟨okB_X4_letters, List.mem_of_getElem? (i := 620) (by decide +kernel), List.mem_of_getElem? (i := 621) (by decide +kernel)⟩
set_option maxRecDepth 20000 in
theorem okB_X4_isNote : ng_okB md_X4_isNote := ⟨List.mem_of_getElem? (i := 410) rfl, List.mem_of_getElem? (i := 52) (by decide +kernel), ⟨by decide +kernel, by decide +kernel⟩, by decide +kernel, plainFor_of_name (by decide +kernel), rfl⟩
theorem ok_X4_isNote : ng_okV md_X4_isNote := ⟨okB_X4_isNote, List.mem_of_getElem? (i := 408) (by decide +kernel), List.mem_of_getElem? (i := 409) (by decide +kernel)⟩
set_option maxRecDepth 20000 in
theorem okB_X4_isFamily : ng_okB md_X4_isFamily := ⟨List.mem_of_getElem? (i := 368) rfl, List.mem_of_getElem? (i := 52) (by decide +kernel), ⟨by decide +kernel, by decide +kernel⟩, by decide +kernel, plainFor_of_name (by decide +kernel), rfl⟩
theorem ok_X4_isFamily : ng_okV md_X4_isFamily := ⟨okB_X4_isFamily, List.mem_of_getElem? (i := 366) (by decide +kernel), List.mem_of_getElem? (i := 367) (by decide +kernel)⟩
set_option maxRecDepth 20000 in
theorem okB_X4_isLetter : ng_okB md_X4_isLetter := ⟨List.mem_of_getElem? (i := 450) rfl, List.mem_of_getElem? (i := 52) (by decide +kernel), ⟨by decide +kernel, by decide +kernel⟩, by decide +kernel, plainFor_of_name (by decide +kernel), rfl⟩
theorem ok_X4_isLetter : ng_okV md_X4_isLetter := ⟨okB_X4_isLetter, List.mem_of_getElem? (i := 448) (by decide +kernel), List.mem_of_getElem? (i := 449) (by decide +kernel)⟩
set_option maxRecDepth 20000 in
theorem okB_X4_noteWord : ng_okB md_X4_noteWord := ⟨List.mem_of_getElem? (i := 419) rfl, List.mem_of_getElem? (i := 52) (by decide +kernel), ⟨by decide +kernel, by decide +kernel⟩, by decide +kernel, plainFor_of_name (by decide +kernel), rfl⟩
theorem ok_X4_noteWord : ng_okV md_X4_noteWord := ⟨okB_X4_noteWord, List.mem_of_getElem? (i := 417) (by decide +kernel), List.mem_of_getElem? (i := 418) (by decide +kernel)⟩
set_option maxRecDepth 20000 in
theorem okB_X4_familyWord : ng_okB md_X4_familyWord := ⟨List.mem_of_getElem? (i := 364) rfl, List.mem_of_getElem? (i := 52) (by decide +kernel), ⟨by decide +kernel, by decide +kernel⟩, by decide +kernel, plainFor_of_name (by decide +kernel), rfl⟩
theorem ok_X4_familyWord : ng_okV md_X4_familyWord := ⟨okB_X4_familyWord, List.mem_of_getElem? (i := 362) (by decide +kernel), List.mem_of_getElem? (i := 363) (by decide +kernel)⟩
set_option maxRecDepth 20000 in
theorem okB_X4_letterWord : ng_okB md_X4_letterWord := ⟨List.mem_of_getElem? (i := 689) rfl, List.mem_of_getElem? (i := 52) (by decide +kernel), ⟨by decide +kernel, by decide +kernel⟩, by decide +kernel, plainFor_of_name (by decide +kernel), rfl⟩
theorem ok_X4_letterWord : ng_okV md_X4_letterWord := ⟨okB_X4_letterWord, List.mem_of_getElem? (i := 687) (by decide +kernel), List.mem_of_getElem? (i := 688) (by decide +kernel)⟩
set_option maxRecDepth 20000 in
theorem okB_X4_houseWord : ng_okB md_X4_houseWord := ⟨List.mem_of_getElem? (i := 703) rfl, List.mem_of_getElem? (i := 52) (by decide +kernel), ⟨by decide +kernel, by decide +kernel⟩, by decide +kernel, plainFor_of_name (by decide +kernel), rfl⟩
theorem ok_X4_houseWord : ng_okV md_X4_houseWord := ⟨okB_X4_houseWord, List.mem_of_getElem? (i := 701) (by decide +kernel), List.mem_of_getElem? (i := 702) (by decide +kernel)⟩
set_option maxRecDepth 20000 in
theorem okB_X4_pairOf : ng_okB md_X4_pairOf := ⟨List.mem_of_getElem? (i := 711) rfl, List.mem_of_getElem? (i := 52) (by decide +kernel), ⟨by decide +kernel, by decide +kernel⟩, by decide +kernel, plainFor_of_name (by decide +kernel), rfl⟩
theorem ok_X4_pairOf : ng_okV md_X4_pairOf := ⟨okB_X4_pairOf, List.mem_of_getElem? (i := 709) (by decide +kernel), List.mem_of_getElem? (i := 710) (by decide +kernel)⟩
set_option maxRecDepth 20000 in
theorem okB_X4_knownPair : ng_okB md_X4_knownPair := ⟨List.mem_of_getElem? (i := 438) rfl, List.mem_of_getElem? (i := 52) (by decide +kernel), ⟨by decide +kernel, by decide +kernel⟩, by decide +kernel, plainFor_of_name (by decide +kernel), rfl⟩
theorem ok_X4_knownPair : ng_okV md_X4_knownPair := ⟨okB_X4_knownPair, List.mem_of_getElem? (i := 436) (by decide +kernel), List.mem_of_getElem? (i := 437) (by decide +kernel)⟩
set_option maxRecDepth 20000 in
theorem okB_X4_isEnded : ng_okB md_X4_isEnded := ⟨List.mem_of_getElem? (i := 372) rfl, List.mem_of_getElem? (i := 52) (by decide +kernel), ⟨by decide +kernel, by decide +kernel⟩, by decide +kernel, plainFor_of_name (by decide +kernel), rfl⟩
theorem ok_X4_isEnded : ng_okV md_X4_isEnded := ⟨okB_X4_isEnded, List.mem_of_getElem? (i := 370) (by decide +kernel), List.mem_of_getElem? (i := 371) (by decide +kernel)⟩
set_option maxRecDepth 20000 in
theorem okB_X4_has : ng_okB md_X4_has := ⟨List.mem_of_getElem? (i := 414) rfl, List.mem_of_getElem? (i := 52) (by decide +kernel), ⟨by decide +kernel, by decide +kernel⟩, by decide +kernel, plainFor_of_name (by decide +kernel), rfl⟩
theorem ok_X4_has : ng_okV md_X4_has := ⟨okB_X4_has, List.mem_of_getElem? (i := 412) (by decide +kernel), List.mem_of_getElem? (i := 413) (by decide +kernel)⟩
set_option maxRecDepth 20000 in
theorem okB_X4_letHave : ng_okB md_X4_letHave := ⟨List.mem_of_getElem? (i := 485) rfl, List.mem_of_getElem? (i := 52) (by decide +kernel), ⟨by decide +kernel, by decide +kernel⟩, by decide +kernel, plainFor_of_name (by decide +kernel), rfl⟩
theorem ok_X4_letHave : ng_okV md_X4_letHave := ⟨okB_X4_letHave, List.mem_of_getElem? (i := 483) (by decide +kernel), List.mem_of_getElem? (i := 484) (by decide +kernel)⟩
set_option maxRecDepth 20000 in
theorem okB_X4_openHouse : ng_okB md_X4_openHouse := ⟨List.mem_of_getElem? (i := 325) rfl, List.mem_of_getElem? (i := 52) (by decide +kernel), ⟨by decide +kernel, by decide +kernel⟩, by decide +kernel, plainFor_of_name (by decide +kernel), rfl⟩
theorem ok_X4_openHouse : ng_okV md_X4_openHouse := ⟨okB_X4_openHouse, List.mem_of_getElem? (i := 323) (by decide +kernel), List.mem_of_getElem? (i := 324) (by decide +kernel)⟩
set_option maxRecDepth 20000 in
theorem okB_X4_givePair : ng_okB md_X4_givePair := ⟨List.mem_of_getElem? (i := 400) rfl, List.mem_of_getElem? (i := 52) (by decide +kernel), ⟨by decide +kernel, by decide +kernel⟩, by decide +kernel, plainFor_of_name (by decide +kernel), rfl⟩
theorem ok_X4_givePair : ng_okV md_X4_givePair := ⟨okB_X4_givePair, List.mem_of_getElem? (i := 398) (by decide +kernel), List.mem_of_getElem? (i := 399) (by decide +kernel)⟩
set_option maxRecDepth 20000 in
theorem okB_X4_post : ng_okB md_X4_post := ⟨List.mem_of_getElem? (i := 381) rfl, List.mem_of_getElem? (i := 52) (by decide +kernel), ⟨by decide +kernel, by decide +kernel⟩, by decide +kernel, plainFor_of_name (by decide +kernel), rfl⟩
theorem ok_X4_post : ng_okV md_X4_post := ⟨okB_X4_post, List.mem_of_getElem? (i := 379) (by decide +kernel), List.mem_of_getElem? (i := 380) (by decide +kernel)⟩
set_option maxRecDepth 20000 in
theorem okB_X4_postAgain : ng_okB md_X4_postAgain := ⟨List.mem_of_getElem? (i := 540) rfl, List.mem_of_getElem? (i := 52) (by decide +kernel), ⟨by decide +kernel, by decide +kernel⟩, by decide +kernel, plainFor_of_name (by decide +kernel), rfl⟩
theorem ok_X4_postAgain : ng_okV md_X4_postAgain := ⟨okB_X4_postAgain, List.mem_of_getElem? (i := 538) (by decide +kernel), List.mem_of_getElem? (i := 539) (by decide +kernel)⟩
set_option maxRecDepth 20000 in
theorem okB_X4_takeOut : ng_okB md_X4_takeOut := ⟨List.mem_of_getElem? (i := 454) rfl, List.mem_of_getElem? (i := 52) (by decide +kernel), ⟨by decide +kernel, by decide +kernel⟩, by decide +kernel, plainFor_of_name (by decide +kernel), rfl⟩
theorem ok_X4_takeOut : ng_okV md_X4_takeOut := ⟨okB_X4_takeOut, List.mem_of_getElem? (i := 452) (by decide +kernel), List.mem_of_getElem? (i := 453) (by decide +kernel)⟩
set_option maxRecDepth 20000 in
theorem okB_X4_come : ng_okB md_X4_come := ⟨List.mem_of_getElem? (i := 446) rfl, List.mem_of_getElem? (i := 52) (by decide +kernel), ⟨by decide +kernel, by decide +kernel⟩, by decide +kernel, plainFor_of_name (by decide +kernel), rfl⟩
theorem ok_X4_come : ng_okV md_X4_come := ⟨okB_X4_come, List.mem_of_getElem? (i := 444) (by decide +kernel), List.mem_of_getElem? (i := 445) (by decide +kernel)⟩
set_option maxRecDepth 20000 in
theorem okB_X4_askComes : ng_okB md_X4_askComes := ⟨List.mem_of_getElem? (i := 461) rfl, List.mem_of_getElem? (i := 52) (by decide +kernel), ⟨by decide +kernel, by decide +kernel⟩, by decide +kernel, plainFor_of_name (by decide +kernel), rfl⟩
theorem ok_X4_askComes : ng_okV md_X4_askComes := ⟨okB_X4_askComes, List.mem_of_getElem? (i := 460) (by decide +kernel), List.mem_of_getElem? (i := 0) (by decide +kernel)⟩
set_option maxRecDepth 20000 in
theorem okB_X4_beginFamily : ng_okB md_X4_beginFamily := ⟨List.mem_of_getElem? (i := 465) rfl, List.mem_of_getElem? (i := 52) (by decide +kernel), ⟨by decide +kernel, by decide +kernel⟩, by decide +kernel, plainFor_of_name (by decide +kernel), rfl⟩
theorem ok_X4_beginFamily : ng_okV md_X4_beginFamily := ⟨okB_X4_beginFamily, List.mem_of_getElem? (i := 464) (by decide +kernel), List.mem_of_getElem? (i := 1) (by decide +kernel)⟩
set_option maxRecDepth 20000 in
theorem okB_X4_addNoteLike : ng_okB md_X4_addNoteLike := ⟨List.mem_of_getElem? (i := 469) rfl, List.mem_of_getElem? (i := 52) (by decide +kernel), ⟨by decide +kernel, by decide +kernel⟩, by decide +kernel, plainFor_of_name (by decide +kernel), rfl⟩
theorem ok_X4_addNoteLike : ng_okV md_X4_addNoteLike := ⟨okB_X4_addNoteLike, List.mem_of_getElem? (i := 468) (by decide +kernel), List.mem_of_getElem? (i := 2) (by decide +kernel)⟩
set_option maxRecDepth 20000 in
theorem okB_X4_turnComes : ng_okB md_X4_turnComes := ⟨List.mem_of_getElem? (i := 512) rfl, List.mem_of_getElem? (i := 52) (by decide +kernel), ⟨by decide +kernel, by decide +kernel⟩, by decide +kernel, plainFor_of_name (by decide +kernel), rfl⟩
theorem ok_X4_turnComes : ng_okV md_X4_turnComes := ⟨okB_X4_turnComes, List.mem_of_getElem? (i := 511) (by decide +kernel), List.mem_of_getElem? (i := 4) (by decide +kernel)⟩
set_option maxRecDepth 20000 in
theorem okB_X4_thiefTurns : ng_okB md_X4_thiefTurns := ⟨List.mem_of_getElem? (i := 645) rfl, List.mem_of_getElem? (i := 52) (by decide +kernel), ⟨by decide +kernel, by decide +kernel⟩, by decide +kernel, plainFor_of_name (by decide +kernel), rfl⟩
theorem ok_X4_thiefTurns : ng_okV md_X4_thiefTurns := ⟨okB_X4_thiefTurns, List.mem_of_getElem? (i := 643) (by decide +kernel), List.mem_of_getElem? (i := 644) (by decide +kernel)⟩
set_option maxRecDepth 20000 in
theorem okB_X4_renew : ng_okB md_X4_renew := ⟨List.mem_of_getElem? (i := 516) rfl, List.mem_of_getElem? (i := 52) (by decide +kernel), ⟨by decide +kernel, by decide +kernel⟩, by decide +kernel, plainFor_of_name (by decide +kernel), rfl⟩
theorem ok_X4_renew : ng_okV md_X4_renew := ⟨okB_X4_renew, List.mem_of_getElem? (i := 515) (by decide +kernel), List.mem_of_getElem? (i := 5) (by decide +kernel)⟩
set_option maxRecDepth 20000 in
theorem okB_X4_isGoodForKeeper : ng_okB md_X4_isGoodForKeeper := ⟨List.mem_of_getElem? (i := 520) rfl, List.mem_of_getElem? (i := 52) (by decide +kernel), ⟨by decide +kernel, by decide +kernel⟩, by decide +kernel, plainFor_of_name (by decide +kernel), rfl⟩
theorem ok_X4_isGoodForKeeper : ng_okV md_X4_isGoodForKeeper := ⟨okB_X4_isGoodForKeeper, List.mem_of_getElem? (i := 519) (by decide +kernel), List.mem_of_getElem? (i := 6) (by decide +kernel)⟩
set_option maxRecDepth 20000 in
theorem okB_X4_handComes : ng_okB md_X4_handComes := ⟨List.mem_of_getElem? (i := 525) rfl, List.mem_of_getElem? (i := 52) (by decide +kernel), ⟨by decide +kernel, by decide +kernel⟩, by decide +kernel, plainFor_of_name (by decide +kernel), rfl⟩
theorem ok_X4_handComes : ng_okV md_X4_handComes := ⟨okB_X4_handComes, List.mem_of_getElem? (i := 524) (by decide +kernel), List.mem_of_getElem? (i := 7) (by decide +kernel)⟩
set_option maxRecDepth 20000 in
theorem okB_X4_giveComes : ng_okB md_X4_giveComes := ⟨List.mem_of_getElem? (i := 473) rfl, List.mem_of_getElem? (i := 52) (by decide +kernel), ⟨by decide +kernel, by decide +kernel⟩, by decide +kernel, plainFor_of_name (by decide +kernel), rfl⟩
theorem ok_X4_giveComes : ng_okV md_X4_giveComes := ⟨okB_X4_giveComes, List.mem_of_getElem? (i := 471) (by decide +kernel), List.mem_of_getElem? (i := 472) (by decide +kernel)⟩
set_option maxRecDepth 20000 in
theorem okB_X4_takes : ng_okB md_X4_takes := ⟨List.mem_of_getElem? (i := 477) rfl, List.mem_of_getElem? (i := 52) (by decide +kernel), ⟨by decide +kernel, by decide +kernel⟩, by decide +kernel, plainFor_of_name (by decide +kernel), rfl⟩
theorem ok_X4_takes : ng_okV md_X4_takes := ⟨okB_X4_takes, List.mem_of_getElem? (i := 475) (by decide +kernel), List.mem_of_getElem? (i := 476) (by decide +kernel)⟩
set_option maxRecDepth 20000 in
theorem okB_X4_overComes : ng_okB md_X4_overComes := ⟨List.mem_of_getElem? (i := 532) rfl, List.mem_of_getElem? (i := 52) (by decide +kernel), ⟨by decide +kernel, by decide +kernel⟩, by decide +kernel, plainFor_of_name (by decide +kernel), rfl⟩
theorem ok_X4_overComes : ng_okV md_X4_overComes := ⟨okB_X4_overComes, List.mem_of_getElem? (i := 531) (by decide +kernel), List.mem_of_getElem? (i := 8) (by decide +kernel)⟩
set_option maxRecDepth 20000 in
theorem okB_X4_showComes : ng_okB md_X4_showComes := ⟨List.mem_of_getElem? (i := 489) rfl, List.mem_of_getElem? (i := 52) (by decide +kernel), ⟨by decide +kernel, by decide +kernel⟩, by decide +kernel, plainFor_of_name (by decide +kernel), rfl⟩
theorem ok_X4_showComes : ng_okV md_X4_showComes := ⟨okB_X4_showComes, List.mem_of_getElem? (i := 488) (by decide +kernel), List.mem_of_getElem? (i := 3) (by decide +kernel)⟩
set_option maxRecDepth 20000 in
theorem okB_X4_verdict : ng_okB md_X4_verdict := ⟨List.mem_of_getElem? (i := 493) rfl, List.mem_of_getElem? (i := 52) (by decide +kernel), ⟨by decide +kernel, by decide +kernel⟩, by decide +kernel, plainFor_of_name (by decide +kernel), rfl⟩
theorem ok_X4_verdict : ng_okV md_X4_verdict := ⟨okB_X4_verdict, List.mem_of_getElem? (i := 491) (by decide +kernel), List.mem_of_getElem? (i := 492) (by decide +kernel)⟩
set_option maxRecDepth 20000 in
theorem okB_X4_letIn : ng_okB md_X4_letIn := ⟨List.mem_of_getElem? (i := 501) rfl, List.mem_of_getElem? (i := 52) (by decide +kernel), ⟨by decide +kernel, by decide +kernel⟩, by decide +kernel, plainFor_of_name (by decide +kernel), rfl⟩
theorem ok_X4_letIn : ng_okV md_X4_letIn := ⟨okB_X4_letIn, List.mem_of_getElem? (i := 499) (by decide +kernel), List.mem_of_getElem? (i := 500) (by decide +kernel)⟩
set_option maxRecDepth 20000 in
theorem okB_X4_endFamiliesOf : ng_okB md_X4_endFamiliesOf := ⟨List.mem_of_getElem? (i := 360) rfl, List.mem_of_getElem? (i := 52) (by decide +kernel), ⟨by decide +kernel, by decide +kernel⟩, by decide +kernel, plainFor_of_name (by decide +kernel), rfl⟩
theorem ok_X4_endFamiliesOf : ng_okV md_X4_endFamiliesOf := ⟨okB_X4_endFamiliesOf, List.mem_of_getElem? (i := 358) (by decide +kernel), List.mem_of_getElem? (i := 359) (by decide +kernel)⟩
set_option maxRecDepth 20000 in
theorem okB_X4_endFamily : ng_okB md_X4_endFamily := ⟨List.mem_of_getElem? (i := 376) rfl, List.mem_of_getElem? (i := 52) (by decide +kernel), ⟨by decide +kernel, by decide +kernel⟩, by decide +kernel, plainFor_of_name (by decide +kernel), rfl⟩
theorem ok_X4_endFamily : ng_okV md_X4_endFamily := ⟨okB_X4_endFamily, List.mem_of_getElem? (i := 374) (by decide +kernel), List.mem_of_getElem? (i := 375) (by decide +kernel)⟩
set_option maxRecDepth 20000 in
theorem okB_X4_passTick : ng_okB md_X4_passTick := ⟨List.mem_of_getElem? (i := 554) rfl, List.mem_of_getElem? (i := 52) (by decide +kernel), ⟨by decide +kernel, by decide +kernel⟩, by decide +kernel, plainFor_of_name (by decide +kernel), rfl⟩
theorem ok_X4_passTick : ng_okV md_X4_passTick := ⟨okB_X4_passTick, List.mem_of_getElem? (i := 552) (by decide +kernel), List.mem_of_getElem? (i := 553) (by decide +kernel)⟩
set_option maxRecDepth 20000 in
theorem okB_X4_hearOfEnded : ng_okB md_X4_hearOfEnded := ⟨List.mem_of_getElem? (i := 558) rfl, List.mem_of_getElem? (i := 52) (by decide +kernel), ⟨by decide +kernel, by decide +kernel⟩, by decide +kernel, plainFor_of_name (by decide +kernel), rfl⟩
theorem ok_X4_hearOfEnded : ng_okV md_X4_hearOfEnded := ⟨okB_X4_hearOfEnded, List.mem_of_getElem? (i := 557) (by decide +kernel), List.mem_of_getElem? (i := 9) (by decide +kernel)⟩
set_option maxRecDepth 20000 in
theorem okB_X4_become : ng_okB md_X4_become := ⟨List.mem_of_getElem? (i := 580) rfl, List.mem_of_getElem? (i := 52) (by decide +kernel), ⟨by decide +kernel, by decide +kernel⟩, by decide +kernel, plainFor_of_name (by decide +kernel), rfl⟩
theorem ok_X4_become : ng_okV md_X4_become := ⟨okB_X4_become, List.mem_of_getElem? (i := 578) (by decide +kernel), List.mem_of_getElem? (i := 579) (by decide +kernel)⟩
set_option maxRecDepth 20000 in
theorem okB_X4_mark : ng_okB md_X4_mark := ⟨List.mem_of_getElem? (i := 598) rfl, List.mem_of_getElem? (i := 52) (by decide +kernel), ⟨by decide +kernel, by decide +kernel⟩, by decide +kernel, plainFor_of_name (by decide +kernel), rfl⟩
theorem ok_X4_mark : ng_okV md_X4_mark := ⟨okB_X4_mark, List.mem_of_getElem? (i := 596) (by decide +kernel), List.mem_of_getElem? (i := 597) (by decide +kernel)⟩
set_option maxRecDepth 20000 in
theorem okB_X4_mixed : ng_okB md_X4_mixed := ⟨List.mem_of_getElem? (i := 602) rfl, List.mem_of_getElem? (i := 52) (by decide +kernel), ⟨by decide +kernel, by decide +kernel⟩, by decide +kernel, plainFor_of_name (by decide +kernel), rfl⟩
theorem ok_X4_mixed : ng_okV md_X4_mixed := ⟨okB_X4_mixed, List.mem_of_getElem? (i := 601) (by decide +kernel), List.mem_of_getElem? (i := 13) (by decide +kernel)⟩
set_option maxRecDepth 20000 in
theorem okB_X4_isLike : ng_okB md_X4_isLike := ⟨List.mem_of_getElem? (i := 606) rfl, List.mem_of_getElem? (i := 52) (by decide +kernel), ⟨by decide +kernel, by decide +kernel⟩, by decide +kernel, plainFor_of_name (by decide +kernel), rfl⟩
theorem ok_X4_isLike : ng_okV md_X4_isLike := ⟨okB_X4_isLike, List.mem_of_getElem? (i := 604) (by decide +kernel), List.mem_of_getElem? (i := 605) (by decide +kernel)⟩
set_option maxRecDepth 20000 in
theorem okB_X4_sameWords : ng_okB md_X4_sameWords := ⟨List.mem_of_getElem? (i := 610) rfl, List.mem_of_getElem? (i := 52) (by decide +kernel), ⟨by decide +kernel, by decide +kernel⟩, by decide +kernel, plainFor_of_name (by decide +kernel), rfl⟩
theorem ok_X4_sameWords : ng_okV md_X4_sameWords := ⟨okB_X4_sameWords, List.mem_of_getElem? (i := 609) (by decide +kernel), List.mem_of_getElem? (i := 14) (by decide +kernel)⟩
set_option maxRecDepth 20000 in
theorem okB_X5_init : ng_okB md_X5_init := ⟨List.mem_of_getElem? (i := 62) rfl, List.mem_of_getElem? (i := 48) (by decide +kernel), ⟨by decide +kernel, by decide +kernel⟩, by decide +kernel, plainFor_of_name (by decide +kernel), rfl⟩
theorem ok_X5_init : ng_okI md_X5_init := ⟨okB_X5_init, List.mem_of_getElem? (i := 61) (by decide +kernel), rfl, rfl⟩
set_option maxRecDepth 20000 in
theorem okB_X5_terms : ng_okB md_X5_terms := ⟨List.mem_of_getElem? (i := 306) rfl, List.mem_of_getElem? (i := 48) (by decide +kernel), ⟨by decide +kernel, by decide +kernel⟩, by decide +kernel, plainFor_of_name (by decide +kernel), rfl⟩
theorem ok_X5_terms : ng_okV md_X5_terms := ⟨okB_X5_terms, List.mem_of_getElem? (i := 304) (by decide +kernel), List.mem_of_getElem? (i := 305) (by decide +kernel)⟩
set_option maxRecDepth 20000 in
theorem okB_X5_checks : ng_okB md_X5_checks := ⟨List.mem_of_getElem? (i := 313) rfl, List.mem_of_getElem? (i := 48) (by decide +kernel), ⟨by decide +kernel, by decide +kernel⟩, by decide +kernel, plainFor_of_name (by decide +kernel), rfl⟩
theorem ok_X5_checks : ng_okV md_X5_checks := ⟨okB_X5_checks, List.mem_of_getElem? (i := 311) (by decide +kernel), List.mem_of_getElem? (i := 312) (by decide +kernel)⟩
set_option maxRecDepth 20000 in
theorem okB_X5_house : ng_okB md_X5_house := ⟨List.mem_of_getElem? (i := 317) rfl, List.mem_of_getElem? (i := 48) (by decide +kernel), ⟨by decide +kernel, by decide +kernel⟩, by decide +kernel, plainFor_of_name (by decide +kernel), rfl⟩
theorem ok_X5_house : ng_okV md_X5_house := ⟨okB_X5_house, List.mem_of_getElem? (i := 315) (by decide +kernel), List.mem_of_getElem? (i := 316) (by decide +kernel)⟩
set_option maxRecDepth 20000 in
theorem okB_X5_throwOut : ng_okB md_X5_throwOut := ⟨List.mem_of_getElem? (i := 329) rfl, List.mem_of_getElem? (i := 48) (by decide +kernel), ⟨by decide +kernel, by decide +kernel⟩, by decide +kernel, plainFor_of_name (by decide +kernel), rfl⟩
theorem ok_X5_throwOut : ng_okV md_X5_throwOut := ⟨okB_X5_throwOut, List.mem_of_getElem? (i := 327) (by decide +kernel), List.mem_of_getElem? (i := 328) (by decide +kernel)⟩
set_option maxRecDepth 20000 in
theorem okB_X5_keeper : ng_okB md_X5_keeper := ⟨List.mem_of_getElem? (i := 337) rfl, List.mem_of_getElem? (i := 48) (by decide +kernel), ⟨by decide +kernel, by decide +kernel⟩, by decide +kernel, plainFor_of_name (by decide +kernel), rfl⟩
theorem ok_X5_keeper : ng_okV md_X5_keeper := ⟨okB_X5_keeper, List.mem_of_getElem? (i := 335) (by decide +kernel), List.mem_of_getElem? (i := 336) (by decide +kernel)⟩
set_option maxRecDepth 20000 in
theorem okB_X5_tap : ng_okB md_X5_tap := ⟨List.mem_of_getElem? (i := 341) rfl, List.mem_of_getElem? (i := 48) (by decide +kernel), ⟨by decide +kernel, by decide +kernel⟩, by decide +kernel, plainFor_of_name (by decide +kernel), rfl⟩
theorem ok_X5_tap : ng_okV md_X5_tap := ⟨okB_X5_tap, List.mem_of_getElem? (i := 339) (by decide +kernel), List.mem_of_getElem? (i := 340) (by decide +kernel)⟩
set_option maxRecDepth 20000 in
theorem okB_X5_prove : ng_okB md_X5_prove := ⟨List.mem_of_getElem? (i := 345) rfl, List.mem_of_getElem? (i := 48) (by decide +kernel), ⟨by decide +kernel, by decide +kernel⟩, by decide +kernel, plainFor_of_name (by decide +kernel), rfl⟩
theorem ok_X5_prove : ng_okV md_X5_prove := ⟨okB_X5_prove, List.mem_of_getElem? (i := 343) (by decide +kernel), List.mem_of_getElem? (i := 344) (by decide +kernel)⟩
set_option maxRecDepth 20000 in
theorem okB_X5_leave : ng_okB md_X5_leave := ⟨List.mem_of_getElem? (i := 356) rfl, List.mem_of_getElem? (i := 48) (by decide +kernel), ⟨by decide +kernel, by decide +kernel⟩, by decide +kernel, plainFor_of_name (by decide +kernel), rfl⟩
theorem ok_X5_leave : ng_okV md_X5_leave := ⟨okB_X5_leave, List.mem_of_getElem? (i := 354) (by decide +kernel), List.mem_of_getElem? (i := 355) (by decide +kernel)⟩
set_option maxRecDepth 20000 in
theorem okB_X5_end : ng_okB md_X5_end := ⟨List.mem_of_getElem? (i := 385) rfl, List.mem_of_getElem? (i := 48) (by decide +kernel), ⟨by decide +kernel, by decide +kernel⟩, by decide +kernel, plainFor_of_name (by decide +kernel), rfl⟩
theorem ok_X5_end : ng_okV md_X5_end := ⟨okB_X5_end, List.mem_of_getElem? (i := 383) (by decide +kernel), List.mem_of_getElem? (i := 384) (by decide +kernel)⟩
set_option maxRecDepth 20000 in
theorem okB_X5_ask : ng_okB md_X5_ask := ⟨List.mem_of_getElem? (i := 392) rfl, List.mem_of_getElem? (i := 48) (by decide +kernel), ⟨by decide +kernel, by decide +kernel⟩, by decide +kernel, plainFor_of_name (by decide +kernel), rfl⟩
theorem ok_X5_ask : ng_okV md_X5_ask := ⟨okB_X5_ask, List.mem_of_getElem? (i := 390) (by decide +kernel), List.mem_of_getElem? (i := 391) (by decide +kernel)⟩
set_option maxRecDepth 20000 in
theorem okB_X5_turn : ng_okB md_X5_turn := ⟨List.mem_of_getElem? (i := 406) rfl, List.mem_of_getElem? (i := 48) (by decide +kernel), ⟨by decide +kernel, by decide +kernel⟩, by decide +kernel, plainFor_of_name (by decide +kernel), rfl⟩
theorem ok_X5_turn : ng_okV md_X5_turn := ⟨okB_X5_turn, List.mem_of_getElem? (i := 404) (by decide +kernel), List.mem_of_getElem? (i := 405) (by decide +kernel)⟩
set_option maxRecDepth 20000 in
theorem okB_X5_show : ng_okB md_X5_show := ⟨List.mem_of_getElem? (i := 423) rfl, List.mem_of_getElem? (i := 48) (by decide +kernel), ⟨by decide +kernel, by decide +kernel⟩, by decide +kernel, plainFor_of_name (by decide +kernel), rfl⟩
theorem ok_X5_show : ng_okV md_X5_show := ⟨okB_X5_show, List.mem_of_getElem? (i := 421) (by decide +kernel), List.mem_of_getElem? (i := 422) (by decide +kernel)⟩
set_option maxRecDepth 20000 in
theorem okB_X5_hand : ng_okB md_X5_hand := ⟨List.mem_of_getElem? (i := 430) rfl, List.mem_of_getElem? (i := 48) (by decide +kernel), ⟨by decide +kernel, by decide +kernel⟩, by decide +kernel, plainFor_of_name (by decide +kernel), rfl⟩
theorem ok_X5_hand : ng_okV md_X5_hand := ⟨okB_X5_hand, List.mem_of_getElem? (i := 428) (by decide +kernel), List.mem_of_getElem? (i := 429) (by decide +kernel)⟩
set_option maxRecDepth 20000 in
theorem okB_X5_fake : ng_okB md_X5_fake := ⟨List.mem_of_getElem? (i := 434) rfl, List.mem_of_getElem? (i := 48) (by decide +kernel), ⟨by decide +kernel, by decide +kernel⟩, by decide +kernel, plainFor_of_name (by decide +kernel), rfl⟩
theorem ok_X5_fake : ng_okV md_X5_fake := ⟨okB_X5_fake, List.mem_of_getElem? (i := 432) (by decide +kernel), List.mem_of_getElem? (i := 433) (by decide +kernel)⟩
set_option maxRecDepth 20000 in
theorem okB_X5_deliver : ng_okB md_X5_deliver := ⟨List.mem_of_getElem? (i := 442) rfl, List.mem_of_getElem? (i := 48) (by decide +kernel), ⟨by decide +kernel, by decide +kernel⟩, by decide +kernel, plainFor_of_name (by decide +kernel), rfl⟩
theorem ok_X5_deliver : ng_okV md_X5_deliver := ⟨okB_X5_deliver, List.mem_of_getElem? (i := 440) (by decide +kernel), List.mem_of_getElem? (i := 441) (by decide +kernel)⟩
set_option maxRecDepth 20000 in
theorem okB_X5_copy : ng_okB md_X5_copy := ⟨List.mem_of_getElem? (i := 536) rfl, List.mem_of_getElem? (i := 48) (by decide +kernel), ⟨by decide +kernel, by decide +kernel⟩, by decide +kernel, plainFor_of_name (by decide +kernel), rfl⟩
theorem ok_X5_copy : ng_okV md_X5_copy := ⟨okB_X5_copy, List.mem_of_getElem? (i := 534) (by decide +kernel), List.mem_of_getElem? (i := 535) (by decide +kernel)⟩
set_option maxRecDepth 20000 in
theorem okB_X5_lose : ng_okB md_X5_lose := ⟨List.mem_of_getElem? (i := 544) rfl, List.mem_of_getElem? (i := 48) (by decide +kernel), ⟨by decide +kernel, by decide +kernel⟩, by decide +kernel, plainFor_of_name (by decide +kernel), rfl⟩
theorem ok_X5_lose : ng_okV md_X5_lose := ⟨okB_X5_lose, List.mem_of_getElem? (i := 542) (by decide +kernel), List.mem_of_getElem? (i := 543) (by decide +kernel)⟩
set_option maxRecDepth 20000 in
theorem okB_X5_tick : ng_okB md_X5_tick := ⟨List.mem_of_getElem? (i := 550) rfl, List.mem_of_getElem? (i := 48) (by decide +kernel), ⟨by decide +kernel, by decide +kernel⟩, by decide +kernel, plainFor_of_name (by decide +kernel), rfl⟩
theorem ok_X5_tick : ng_okV md_X5_tick := ⟨okB_X5_tick, List.mem_of_getElem? (i := 548) (by decide +kernel), List.mem_of_getElem? (i := 549) (by decide +kernel)⟩
set_option maxRecDepth 20000 in
theorem okB_X5_judge : ng_okB md_X5_judge := ⟨List.mem_of_getElem? (i := 563) rfl, List.mem_of_getElem? (i := 48) (by decide +kernel), ⟨by decide +kernel, by decide +kernel⟩, by decide +kernel, plainFor_of_name (by decide +kernel), rfl⟩
theorem ok_X5_judge : ng_okV md_X5_judge := ⟨okB_X5_judge, List.mem_of_getElem? (i := 561) (by decide +kernel), List.mem_of_getElem? (i := 562) (by decide +kernel)⟩
set_option maxRecDepth 20000 in
theorem okB_X5_found : ng_okB md_X5_found := ⟨List.mem_of_getElem? (i := 661) rfl, List.mem_of_getElem? (i := 48) (by decide +kernel), ⟨by decide +kernel, by decide +kernel⟩, by decide +kernel, plainFor_of_name (by decide +kernel), rfl⟩
theorem ok_X5_found : ng_okV md_X5_found := ⟨okB_X5_found, List.mem_of_getElem? (i := 659) (by decide +kernel), List.mem_of_getElem? (i := 660) (by decide +kernel)⟩
set_option maxRecDepth 20000 in
theorem okB_X5_stops : ng_okB md_X5_stops := ⟨List.mem_of_getElem? (i := 669) rfl, List.mem_of_getElem? (i := 48) (by decide +kernel), ⟨by decide +kernel, by decide +kernel⟩, by decide +kernel, plainFor_of_name (by decide +kernel), rfl⟩
theorem ok_X5_stops : ng_okV md_X5_stops := ⟨okB_X5_stops, List.mem_of_getElem? (i := 667) (by decide +kernel), List.mem_of_getElem? (i := 668) (by decide +kernel)⟩
set_option maxRecDepth 20000 in
theorem okB_X5_longest : ng_okB md_X5_longest := ⟨List.mem_of_getElem? (i := 673) rfl, List.mem_of_getElem? (i := 48) (by decide +kernel), ⟨by decide +kernel, by decide +kernel⟩, by decide +kernel, plainFor_of_name (by decide +kernel), rfl⟩
theorem ok_X5_longest : ng_okV md_X5_longest := ⟨okB_X5_longest, List.mem_of_getElem? (i := 671) (by decide +kernel), List.mem_of_getElem? (i := 672) (by decide +kernel)⟩
set_option maxRecDepth 20000 in
theorem okB_X5_note : ng_okB md_X5_note := ⟨List.mem_of_getElem? (i := 681) rfl, List.mem_of_getElem? (i := 48) (by decide +kernel), ⟨by decide +kernel, by decide +kernel⟩, by decide +kernel, plainFor_of_name (by decide +kernel), rfl⟩
theorem ok_X5_note : ng_okV md_X5_note := ⟨okB_X5_note, List.mem_of_getElem? (i := 679) (by decide +kernel), List.mem_of_getElem? (i := 680) (by decide +kernel)⟩
set_option maxRecDepth 20000 in
theorem okB_X5_letter : ng_okB md_X5_letter := ⟨List.mem_of_getElem? (i := 685) rfl, List.mem_of_getElem? (i := 48) (by decide +kernel), ⟨by decide +kernel, by decide +kernel⟩, by decide +kernel, plainFor_of_name (by decide +kernel), rfl⟩
theorem ok_X5_letter : ng_okV md_X5_letter := ⟨okB_X5_letter, List.mem_of_getElem? (i := 683) (by decide +kernel), List.mem_of_getElem? (i := 684) (by decide +kernel)⟩
set_option maxRecDepth 20000 in
theorem okB_X5_family : ng_okB md_X5_family := ⟨List.mem_of_getElem? (i := 693) rfl, List.mem_of_getElem? (i := 48) (by decide +kernel), ⟨by decide +kernel, by decide +kernel⟩, by decide +kernel, plainFor_of_name (by decide +kernel), rfl⟩
theorem ok_X5_family : ng_okV md_X5_family := ⟨okB_X5_family, List.mem_of_getElem? (i := 691) (by decide +kernel), List.mem_of_getElem? (i := 692) (by decide +kernel)⟩
set_option maxRecDepth 20000 in
theorem okB_X5_houseOf : ng_okB md_X5_houseOf := ⟨List.mem_of_getElem? (i := 698) rfl, List.mem_of_getElem? (i := 48) (by decide +kernel), ⟨by decide +kernel, by decide +kernel⟩, by decide +kernel, plainFor_of_name (by decide +kernel), rfl⟩
theorem ok_X5_houseOf : ng_okV md_X5_houseOf := ⟨okB_X5_houseOf, List.mem_of_getElem? (i := 696) (by decide +kernel), List.mem_of_getElem? (i := 697) (by decide +kernel)⟩
set_option maxRecDepth 20000 in
theorem okB_X5_browser : ng_okB md_X5_browser := ⟨List.mem_of_getElem? (i := 707) rfl, List.mem_of_getElem? (i := 48) (by decide +kernel), ⟨by decide +kernel, by decide +kernel⟩, by decide +kernel, plainFor_of_name (by decide +kernel), rfl⟩
theorem ok_X5_browser : ng_okV md_X5_browser := ⟨okB_X5_browser, List.mem_of_getElem? (i := 705) (by decide +kernel), List.mem_of_getElem? (i := 706) (by decide +kernel)⟩
set_option maxRecDepth 20000 in
theorem okB_X5_log : ng_okB md_X5_log := ⟨List.mem_of_getElem? (i := 715) rfl, List.mem_of_getElem? (i := 48) (by decide +kernel), ⟨by decide +kernel, by decide +kernel⟩, by decide +kernel, plainFor_of_name (by decide +kernel), rfl⟩
theorem ok_X5_log : ng_okV md_X5_log := ⟨okB_X5_log, List.mem_of_getElem? (i := 713) (by decide +kernel), List.mem_of_getElem? (i := 714) (by decide +kernel)⟩
set_option maxRecDepth 20000 in
theorem okB_X5_where : ng_okB md_X5_where := ⟨List.mem_of_getElem? (i := 723) rfl, List.mem_of_getElem? (i := 48) (by decide +kernel), ⟨by decide +kernel, by decide +kernel⟩, by decide +kernel, plainFor_of_name (by decide +kernel), rfl⟩
theorem ok_X5_where : ng_okV md_X5_where := ⟨okB_X5_where, List.mem_of_getElem? (i := 721) (by decide +kernel), List.mem_of_getElem? (i := 722) (by decide +kernel)⟩
set_option maxRecDepth 20000 in
theorem okB_X5_count : ng_okB md_X5_count := ⟨List.mem_of_getElem? (i := 727) rfl, List.mem_of_getElem? (i := 48) (by decide +kernel), ⟨by decide +kernel, by decide +kernel⟩, by decide +kernel, plainFor_of_name (by decide +kernel), rfl⟩
theorem ok_X5_count : ng_okV md_X5_count := ⟨okB_X5_count, List.mem_of_getElem? (i := 725) (by decide +kernel), List.mem_of_getElem? (i := 726) (by decide +kernel)⟩
set_option maxRecDepth 20000 in
theorem okB_X5_row : ng_okB md_X5_row := ⟨List.mem_of_getElem? (i := 749) rfl, List.mem_of_getElem? (i := 48) (by decide +kernel), ⟨by decide +kernel, by decide +kernel⟩, by decide +kernel, plainFor_of_name (by decide +kernel), rfl⟩
theorem ok_X5_row : ng_okV md_X5_row := ⟨okB_X5_row, List.mem_of_getElem? (i := 747) (by decide +kernel), List.mem_of_getElem? (i := 748) (by decide +kernel)⟩
set_option maxRecDepth 20000 in
theorem okB_X5_tear : ng_okB md_X5_tear := ⟨List.mem_of_getElem? (i := 760) rfl, List.mem_of_getElem? (i := 48) (by decide +kernel), ⟨by decide +kernel, by decide +kernel⟩, by decide +kernel, plainFor_of_name (by decide +kernel), rfl⟩
theorem ok_X5_tear : ng_okV md_X5_tear := ⟨okB_X5_tear, List.mem_of_getElem? (i := 758) (by decide +kernel), List.mem_of_getElem? (i := 759) (by decide +kernel)⟩
set_option maxRecDepth 20000 in
theorem okB_X5_write : ng_okB md_X5_write := ⟨List.mem_of_getElem? (i := 764) rfl, List.mem_of_getElem? (i := 48) (by decide +kernel), ⟨by decide +kernel, by decide +kernel⟩, by decide +kernel, plainFor_of_name (by decide +kernel), rfl⟩
theorem ok_X5_write : ng_okV md_X5_write := ⟨okB_X5_write, List.mem_of_getElem? (i := 762) (by decide +kernel), List.mem_of_getElem? (i := 763) (by decide +kernel)⟩
set_option maxRecDepth 20000 in
theorem okB_X5_paste : ng_okB md_X5_paste := ⟨List.mem_of_getElem? (i := 776) rfl, List.mem_of_getElem? (i := 48) (by decide +kernel), ⟨by decide +kernel, by decide +kernel⟩, by decide +kernel, plainFor_of_name (by decide +kernel), rfl⟩
theorem ok_X5_paste : ng_okV md_X5_paste := ⟨okB_X5_paste, List.mem_of_getElem? (i := 774) (by decide +kernel), List.mem_of_getElem? (i := 775) (by decide +kernel)⟩
set_option maxRecDepth 20000 in
theorem okB_X5_script : ng_okB md_X5_script := ⟨List.mem_of_getElem? (i := 785) rfl, List.mem_of_getElem? (i := 48) (by decide +kernel), ⟨by decide +kernel, by decide +kernel⟩, by decide +kernel, plainFor_of_name (by decide +kernel), rfl⟩
theorem ok_X5_script : ng_okV md_X5_script := ⟨okB_X5_script, List.mem_of_getElem? (i := 783) (by decide +kernel), List.mem_of_getElem? (i := 784) (by decide +kernel)⟩
set_option maxRecDepth 20000 in
theorem okB_X5_why : ng_okB md_X5_why := ⟨List.mem_of_getElem? (i := 819) rfl, List.mem_of_getElem? (i := 48) (by decide +kernel), ⟨by decide +kernel, by decide +kernel⟩, by decide +kernel, plainFor_of_name (by decide +kernel), rfl⟩
theorem ok_X5_why : ng_okV md_X5_why := ⟨okB_X5_why, List.mem_of_getElem? (i := 817) (by decide +kernel), List.mem_of_getElem? (i := 818) (by decide +kernel)⟩
set_option maxRecDepth 20000 in
theorem okB_X5_within : ng_okB md_X5_within := ⟨List.mem_of_getElem? (i := 309) rfl, List.mem_of_getElem? (i := 48) (by decide +kernel), ⟨by decide +kernel, by decide +kernel⟩, by decide +kernel, plainFor_of_name (by decide +kernel), rfl⟩
theorem ok_X5_within : ng_okS md_X5_within := ⟨okB_X5_within, List.mem_of_getElem? (i := 308) (by decide +kernel)⟩
set_option maxRecDepth 20000 in
theorem okB_X5_isBrowser : ng_okB md_X5_isBrowser := ⟨List.mem_of_getElem? (i := 348) rfl, List.mem_of_getElem? (i := 48) (by decide +kernel), ⟨by decide +kernel, by decide +kernel⟩, by decide +kernel, plainFor_of_name (by decide +kernel), rfl⟩
theorem ok_X5_isBrowser : ng_okS md_X5_isBrowser := ⟨okB_X5_isBrowser, List.mem_of_getElem? (i := 347) (by decide +kernel)⟩
set_option maxRecDepth 20000 in
theorem okB_X5_isRight : ng_okB md_X5_isRight := ⟨List.mem_of_getElem? (i := 426) rfl, List.mem_of_getElem? (i := 48) (by decide +kernel), ⟨by decide +kernel, by decide +kernel⟩, by decide +kernel, plainFor_of_name (by decide +kernel), rfl⟩
theorem ok_X5_isRight : ng_okS md_X5_isRight := ⟨okB_X5_isRight, List.mem_of_getElem? (i := 425) (by decide +kernel)⟩
set_option maxRecDepth 20000 in
theorem okB_X5_isSlot : ng_okB md_X5_isSlot := ⟨List.mem_of_getElem? (i := 741) rfl, List.mem_of_getElem? (i := 48) (by decide +kernel), ⟨by decide +kernel, by decide +kernel⟩, by decide +kernel, plainFor_of_name (by decide +kernel), rfl⟩
theorem ok_X5_isSlot : ng_okV md_X5_isSlot := ⟨okB_X5_isSlot, List.mem_of_getElem? (i := 740) (by decide +kernel), List.mem_of_getElem? (i := 23) (by decide +kernel)⟩
set_option maxRecDepth 20000 in
theorem okB_X5_isQuestion : ng_okB md_X5_isQuestion := ⟨List.mem_of_getElem? (i := 567) rfl, List.mem_of_getElem? (i := 48) (by decide +kernel), ⟨by decide +kernel, by decide +kernel⟩, by decide +kernel, plainFor_of_name (by decide +kernel), rfl⟩
theorem ok_X5_isQuestion : ng_okV md_X5_isQuestion := ⟨okB_X5_isQuestion, List.mem_of_getElem? (i := 566) (by decide +kernel), List.mem_of_getElem? (i := 10) (by decide +kernel)⟩
set_option maxRecDepth 20000 in
theorem okB_X5_fullSlots : ng_okB md_X5_fullSlots := ⟨List.mem_of_getElem? (i := 737) rfl, List.mem_of_getElem? (i := 48) (by decide +kernel), ⟨by decide +kernel, by decide +kernel⟩, by decide +kernel, plainFor_of_name (by decide +kernel), rfl⟩
theorem ok_X5_fullSlots : ng_okV md_X5_fullSlots := ⟨okB_X5_fullSlots, List.mem_of_getElem? (i := 736) (by decide +kernel), List.mem_of_getElem? (i := 22) (by decide +kernel)⟩
set_option maxRecDepth 20000 in
theorem okB_X5_needs : ng_okB md_X5_needs := ⟨List.mem_of_getElem? (i := 803) rfl, List.mem_of_getElem? (i := 48) (by decide +kernel), ⟨by decide +kernel, by decide +kernel⟩, by decide +kernel, plainFor_of_name (by decide +kernel), rfl⟩
theorem ok_X5_needs : ng_okS md_X5_needs := ⟨okB_X5_needs, List.mem_of_getElem? (i := 802) (by decide +kernel)⟩
set_option maxRecDepth 20000 in
theorem okB_X5_readAct : ng_okB md_X5_readAct := ⟨List.mem_of_getElem? (i := 789) rfl, List.mem_of_getElem? (i := 48) (by decide +kernel), ⟨by decide +kernel, by decide +kernel⟩, by decide +kernel, plainFor_of_name (by decide +kernel), rfl⟩
theorem ok_X5_readAct : ng_okV md_X5_readAct := ⟨okB_X5_readAct, List.mem_of_getElem? (i := 788) (by decide +kernel), List.mem_of_getElem? (i := 25) (by decide +kernel)⟩
set_option maxRecDepth 20000 in
theorem okB_X5_isDone : ng_okB md_X5_isDone := ⟨List.mem_of_getElem? (i := 807) rfl, List.mem_of_getElem? (i := 48) (by decide +kernel), ⟨by decide +kernel, by decide +kernel⟩, by decide +kernel, plainFor_of_name (by decide +kernel), rfl⟩
theorem ok_X5_isDone : ng_okV md_X5_isDone := ⟨okB_X5_isDone, List.mem_of_getElem? (i := 806) (by decide +kernel), List.mem_of_getElem? (i := 26) (by decide +kernel)⟩
set_option maxRecDepth 20000 in
theorem okB_X6_init : ng_okB md_X6_init := ⟨List.mem_of_getElem? (i := 824) rfl, List.mem_of_getElem? (i := 55) (by decide +kernel), ⟨by decide +kernel, by decide +kernel⟩, by decide +kernel, plainFor_of_name (by decide +kernel), rfl⟩
theorem ok_X6_init : ng_okI md_X6_init := ⟨okB_X6_init, List.mem_of_getElem? (i := 823) (by decide +kernel), rfl, rfl⟩
set_option maxRecDepth 20000 in
theorem okB_X6_in : ng_okB md_X6_in := ⟨List.mem_of_getElem? (i := 918) rfl, List.mem_of_getElem? (i := 55) (by decide +kernel), ⟨by decide +kernel, by decide +kernel⟩, by decide +kernel, plainFor_of_name (by decide +kernel), rfl⟩
theorem ok_X6_in : ng_okS md_X6_in := ⟨okB_X6_in, List.mem_of_getElem? (i := 917) (by decide +kernel)⟩
set_option maxRecDepth 20000 in
theorem okB_X6_house : ng_okB md_X6_house := ⟨List.mem_of_getElem? (i := 929) rfl, List.mem_of_getElem? (i := 55) (by decide +kernel), ⟨by decide +kernel, by decide +kernel⟩, by decide +kernel, plainFor_of_name (by decide +kernel), rfl⟩
theorem ok_X6_house : ng_okS md_X6_house := ⟨okB_X6_house, List.mem_of_getElem? (i := 928) (by decide +kernel)⟩
set_option maxRecDepth 20000 in
theorem okB_X6_browser : ng_okB md_X6_browser := ⟨List.mem_of_getElem? (i := 952) rfl, List.mem_of_getElem? (i := 55) (by decide +kernel), ⟨by decide +kernel, by decide +kernel⟩, by decide +kernel, plainFor_of_name (by decide +kernel), rfl⟩
theorem ok_X6_browser : ng_okS md_X6_browser := ⟨okB_X6_browser, List.mem_of_getElem? (i := 951) (by decide +kernel)⟩
set_option maxRecDepth 20000 in
theorem okB_X6_note : ng_okB md_X6_note := ⟨List.mem_of_getElem? (i := 966) rfl, List.mem_of_getElem? (i := 55) (by decide +kernel), ⟨by decide +kernel, by decide +kernel⟩, by decide +kernel, plainFor_of_name (by decide +kernel), rfl⟩
theorem ok_X6_note : ng_okS md_X6_note := ⟨okB_X6_note, List.mem_of_getElem? (i := 965) (by decide +kernel)⟩
set_option maxRecDepth 20000 in
theorem okB_X6_family : ng_okB md_X6_family := ⟨List.mem_of_getElem? (i := 959) rfl, List.mem_of_getElem? (i := 55) (by decide +kernel), ⟨by decide +kernel, by decide +kernel⟩, by decide +kernel, plainFor_of_name (by decide +kernel), rfl⟩
theorem ok_X6_family : ng_okS md_X6_family := ⟨okB_X6_family, List.mem_of_getElem? (i := 958) (by decide +kernel)⟩
set_option maxRecDepth 20000 in
theorem okB_X6_letter : ng_okB md_X6_letter := ⟨List.mem_of_getElem? (i := 973) rfl, List.mem_of_getElem? (i := 55) (by decide +kernel), ⟨by decide +kernel, by decide +kernel⟩, by decide +kernel, plainFor_of_name (by decide +kernel), rfl⟩
theorem ok_X6_letter : ng_okS md_X6_letter := ⟨okB_X6_letter, List.mem_of_getElem? (i := 972) (by decide +kernel)⟩
set_option maxRecDepth 20000 in
theorem okB_X6_isOn : ng_okB md_X6_isOn := ⟨List.mem_of_getElem? (i := 1041) rfl, List.mem_of_getElem? (i := 55) (by decide +kernel), ⟨by decide +kernel, by decide +kernel⟩, by decide +kernel, plainFor_of_name (by decide +kernel), rfl⟩
theorem ok_X6_isOn : ng_okS md_X6_isOn := ⟨okB_X6_isOn, List.mem_of_getElem? (i := 1040) (by decide +kernel)⟩
set_option maxRecDepth 20000 in
theorem okB_X6_isHouse : ng_okB md_X6_isHouse := ⟨List.mem_of_getElem? (i := 937) rfl, List.mem_of_getElem? (i := 55) (by decide +kernel), ⟨by decide +kernel, by decide +kernel⟩, by decide +kernel, plainFor_of_name (by decide +kernel), rfl⟩
theorem ok_X6_isHouse : ng_okV md_X6_isHouse := ⟨okB_X6_isHouse, List.mem_of_getElem? (i := 936) (by decide +kernel), List.mem_of_getElem? (i := 27) (by decide +kernel)⟩
set_option maxRecDepth 20000 in
theorem okB_X6_isNote : ng_okB md_X6_isNote := ⟨List.mem_of_getElem? (i := 996) rfl, List.mem_of_getElem? (i := 55) (by decide +kernel), ⟨by decide +kernel, by decide +kernel⟩, by decide +kernel, plainFor_of_name (by decide +kernel), rfl⟩
theorem ok_X6_isNote : ng_okV md_X6_isNote := ⟨okB_X6_isNote, List.mem_of_getElem? (i := 995) (by decide +kernel), List.mem_of_getElem? (i := 31) (by decide +kernel)⟩
set_option maxRecDepth 20000 in
theorem okB_X6_has : ng_okB md_X6_has := ⟨List.mem_of_getElem? (i := 999) rfl, List.mem_of_getElem? (i := 55) (by decide +kernel), ⟨by decide +kernel, by decide +kernel⟩, by decide +kernel, plainFor_of_name (by decide +kernel), rfl⟩
theorem ok_X6_has : ng_okS md_X6_has := ⟨okB_X6_has, List.mem_of_getElem? (i := 998) (by decide +kernel)⟩
set_option maxRecDepth 20000 in
theorem okB_X6_gets : ng_okB md_X6_gets := ⟨List.mem_of_getElem? (i := 976) rfl, List.mem_of_getElem? (i := 55) (by decide +kernel), ⟨by decide +kernel, by decide +kernel⟩, by decide +kernel, plainFor_of_name (by decide +kernel), rfl⟩
theorem ok_X6_gets : ng_okS md_X6_gets := ⟨okB_X6_gets, List.mem_of_getElem? (i := 975) (by decide +kernel)⟩
set_option maxRecDepth 20000 in
theorem okB_X6_terms : ng_okB md_X6_terms := ⟨List.mem_of_getElem? (i := 915) rfl, List.mem_of_getElem? (i := 55) (by decide +kernel), ⟨by decide +kernel, by decide +kernel⟩, by decide +kernel, plainFor_of_name (by decide +kernel), rfl⟩
theorem ok_X6_terms : ng_okV md_X6_terms := ⟨okB_X6_terms, List.mem_of_getElem? (i := 913) (by decide +kernel), List.mem_of_getElem? (i := 914) (by decide +kernel)⟩
set_option maxRecDepth 20000 in
theorem okB_X6_checks : ng_okB md_X6_checks := ⟨List.mem_of_getElem? (i := 922) rfl, List.mem_of_getElem? (i := 55) (by decide +kernel), ⟨by decide +kernel, by decide +kernel⟩, by decide +kernel, plainFor_of_name (by decide +kernel), rfl⟩
theorem ok_X6_checks : ng_okV md_X6_checks := ⟨okB_X6_checks, List.mem_of_getElem? (i := 920) (by decide +kernel), List.mem_of_getElem? (i := 921) (by decide +kernel)⟩
set_option maxRecDepth 20000 in
theorem okB_X6_house_ : ng_okB md_X6_house_ := ⟨List.mem_of_getElem? (i := 926) rfl, List.mem_of_getElem? (i := 55) (by decide +kernel), ⟨by decide +kernel, by decide +kernel⟩, by decide +kernel, plainFor_of_name (by decide +kernel), rfl⟩
theorem ok_X6_house_ : ng_okV md_X6_house_ := ⟨okB_X6_house_, List.mem_of_getElem? (i := 924) (by decide +kernel), List.mem_of_getElem? (i := 925) (by decide +kernel)⟩
set_option maxRecDepth 20000 in
theorem okB_X6_throwOut : ng_okB md_X6_throwOut := ⟨List.mem_of_getElem? (i := 933) rfl, List.mem_of_getElem? (i := 55) (by decide +kernel), ⟨by decide +kernel, by decide +kernel⟩, by decide +kernel, plainFor_of_name (by decide +kernel), rfl⟩
theorem ok_X6_throwOut : ng_okV md_X6_throwOut := ⟨okB_X6_throwOut, List.mem_of_getElem? (i := 931) (by decide +kernel), List.mem_of_getElem? (i := 932) (by decide +kernel)⟩
set_option maxRecDepth 20000 in
theorem okB_X6_keeper : ng_okB md_X6_keeper := ⟨List.mem_of_getElem? (i := 941) rfl, List.mem_of_getElem? (i := 55) (by decide +kernel), ⟨by decide +kernel, by decide +kernel⟩, by decide +kernel, plainFor_of_name (by decide +kernel), rfl⟩
theorem ok_X6_keeper : ng_okV md_X6_keeper := ⟨okB_X6_keeper, List.mem_of_getElem? (i := 939) (by decide +kernel), List.mem_of_getElem? (i := 940) (by decide +kernel)⟩
set_option maxRecDepth 20000 in
theorem okB_X6_tap : ng_okB md_X6_tap := ⟨List.mem_of_getElem? (i := 945) rfl, List.mem_of_getElem? (i := 55) (by decide +kernel), ⟨by decide +kernel, by decide +kernel⟩, by decide +kernel, plainFor_of_name (by decide +kernel), rfl⟩
theorem ok_X6_tap : ng_okV md_X6_tap := ⟨okB_X6_tap, List.mem_of_getElem? (i := 943) (by decide +kernel), List.mem_of_getElem? (i := 944) (by decide +kernel)⟩
set_option maxRecDepth 20000 in
theorem okB_X6_prove : ng_okB md_X6_prove := ⟨List.mem_of_getElem? (i := 949) rfl, List.mem_of_getElem? (i := 55) (by decide +kernel), ⟨by decide +kernel, by decide +kernel⟩, by decide +kernel, plainFor_of_name (by decide +kernel), rfl⟩
theorem ok_X6_prove : ng_okV md_X6_prove := ⟨okB_X6_prove, List.mem_of_getElem? (i := 947) (by decide +kernel), List.mem_of_getElem? (i := 948) (by decide +kernel)⟩
set_option maxRecDepth 20000 in
theorem okB_X6_leave : ng_okB md_X6_leave := ⟨List.mem_of_getElem? (i := 956) rfl, List.mem_of_getElem? (i := 55) (by decide +kernel), ⟨by decide +kernel, by decide +kernel⟩, by decide +kernel, plainFor_of_name (by decide +kernel), rfl⟩
theorem ok_X6_leave : ng_okV md_X6_leave := ⟨okB_X6_leave, List.mem_of_getElem? (i := 954) (by decide +kernel), List.mem_of_getElem? (i := 955) (by decide +kernel)⟩
set_option maxRecDepth 20000 in
theorem okB_X6_end : ng_okB md_X6_end := ⟨List.mem_of_getElem? (i := 980) rfl, List.mem_of_getElem? (i := 55) (by decide +kernel), ⟨by decide +kernel, by decide +kernel⟩, by decide +kernel, plainFor_of_name (by decide +kernel), rfl⟩
theorem ok_X6_end : ng_okV md_X6_end := ⟨okB_X6_end, List.mem_of_getElem? (i := 978) (by decide +kernel), List.mem_of_getElem? (i := 979) (by decide +kernel)⟩
set_option maxRecDepth 20000 in
theorem okB_X6_posts : ng_okB md_X6_posts := ⟨List.mem_of_getElem? (i := 970) rfl, List.mem_of_getElem? (i := 55) (by decide +kernel), ⟨by decide +kernel, by decide +kernel⟩, by decide +kernel, plainFor_of_name (by decide +kernel), rfl⟩
theorem ok_X6_posts : ng_okV md_X6_posts := ⟨okB_X6_posts, List.mem_of_getElem? (i := 969) (by decide +kernel), List.mem_of_getElem? (i := 29) (by decide +kernel)⟩
set_option maxRecDepth 20000 in
theorem okB_X6_removes : ng_okB md_X6_removes := ⟨List.mem_of_getElem? (i := 1026) rfl, List.mem_of_getElem? (i := 55) (by decide +kernel), ⟨by decide +kernel, by decide +kernel⟩, by decide +kernel, plainFor_of_name (by decide +kernel), rfl⟩
theorem ok_X6_removes : ng_okS md_X6_removes := ⟨okB_X6_removes, List.mem_of_getElem? (i := 1025) (by decide +kernel)⟩
set_option maxRecDepth 20000 in
theorem okB_X6_ends : ng_okB md_X6_ends := ⟨List.mem_of_getElem? (i := 963) rfl, List.mem_of_getElem? (i := 55) (by decide +kernel), ⟨by decide +kernel, by decide +kernel⟩, by decide +kernel, plainFor_of_name (by decide +kernel), rfl⟩
theorem ok_X6_ends : ng_okV md_X6_ends := ⟨okB_X6_ends, List.mem_of_getElem? (i := 962) (by decide +kernel), List.mem_of_getElem? (i := 28) (by decide +kernel)⟩
set_option maxRecDepth 20000 in
theorem okB_X6_given : ng_okB md_X6_given := ⟨List.mem_of_getElem? (i := 1034) rfl, List.mem_of_getElem? (i := 55) (by decide +kernel), ⟨by decide +kernel, by decide +kernel⟩, by decide +kernel, plainFor_of_name (by decide +kernel), rfl⟩
theorem ok_X6_given : ng_okV md_X6_given := ⟨okB_X6_given, List.mem_of_getElem? (i := 1033) (by decide +kernel), List.mem_of_getElem? (i := 35) (by decide +kernel)⟩
set_option maxRecDepth 20000 in
theorem okB_X6_asked : ng_okB md_X6_asked := ⟨List.mem_of_getElem? (i := 1030) rfl, List.mem_of_getElem? (i := 55) (by decide +kernel), ⟨by decide +kernel, by decide +kernel⟩, by decide +kernel, plainFor_of_name (by decide +kernel), rfl⟩
theorem ok_X6_asked : ng_okV md_X6_asked := ⟨okB_X6_asked, List.mem_of_getElem? (i := 1029) (by decide +kernel), List.mem_of_getElem? (i := 34) (by decide +kernel)⟩
set_option maxRecDepth 20000 in
theorem okB_X6_isGood : ng_okB md_X6_isGood := ⟨List.mem_of_getElem? (i := 1055) rfl, List.mem_of_getElem? (i := 55) (by decide +kernel), ⟨by decide +kernel, by decide +kernel⟩, by decide +kernel, plainFor_of_name (by decide +kernel), rfl⟩
theorem ok_X6_isGood : ng_okS md_X6_isGood := ⟨okB_X6_isGood, List.mem_of_getElem? (i := 1054) (by decide +kernel)⟩
set_option maxRecDepth 20000 in
theorem okB_X6_turned : ng_okB md_X6_turned := ⟨List.mem_of_getElem? (i := 1052) rfl, List.mem_of_getElem? (i := 55) (by decide +kernel), ⟨by decide +kernel, by decide +kernel⟩, by decide +kernel, plainFor_of_name (by decide +kernel), rfl⟩
theorem ok_X6_turned : ng_okV md_X6_turned := ⟨okB_X6_turned, List.mem_of_getElem? (i := 1051) (by decide +kernel), List.mem_of_getElem? (i := 38) (by decide +kernel)⟩
set_option maxRecDepth 20000 in
theorem okB_X6_handed : ng_okB md_X6_handed := ⟨List.mem_of_getElem? (i := 1059) rfl, List.mem_of_getElem? (i := 55) (by decide +kernel), ⟨by decide +kernel, by decide +kernel⟩, by decide +kernel, plainFor_of_name (by decide +kernel), rfl⟩
theorem ok_X6_handed : ng_okV md_X6_handed := ⟨okB_X6_handed, List.mem_of_getElem? (i := 1058) (by decide +kernel), List.mem_of_getElem? (i := 39) (by decide +kernel)⟩
set_option maxRecDepth 20000 in
theorem okB_X6_taken : ng_okB md_X6_taken := ⟨List.mem_of_getElem? (i := 1038) rfl, List.mem_of_getElem? (i := 55) (by decide +kernel), ⟨by decide +kernel, by decide +kernel⟩, by decide +kernel, plainFor_of_name (by decide +kernel), rfl⟩
theorem ok_X6_taken : ng_okV md_X6_taken := ⟨okB_X6_taken, List.mem_of_getElem? (i := 1037) (by decide +kernel), List.mem_of_getElem? (i := 36) (by decide +kernel)⟩
set_option maxRecDepth 20000 in
theorem okB_X6_verdict : ng_okB md_X6_verdict := ⟨List.mem_of_getElem? (i := 1048) rfl, List.mem_of_getElem? (i := 55) (by decide +kernel), ⟨by decide +kernel, by decide +kernel⟩, by decide +kernel, plainFor_of_name (by decide +kernel), rfl⟩
theorem ok_X6_verdict : ng_okS md_X6_verdict := ⟨okB_X6_verdict, List.mem_of_getElem? (i := 1047) (by decide +kernel)⟩
set_option maxRecDepth 20000 in
theorem okB_X6_shown : ng_okB md_X6_shown := ⟨List.mem_of_getElem? (i := 1045) rfl, List.mem_of_getElem? (i := 55) (by decide +kernel), ⟨by decide +kernel, by decide +kernel⟩, by decide +kernel, plainFor_of_name (by decide +kernel), rfl⟩
theorem ok_X6_shown : ng_okV md_X6_shown := ⟨okB_X6_shown, List.mem_of_getElem? (i := 1044) (by decide +kernel), List.mem_of_getElem? (i := 37) (by decide +kernel)⟩
set_option maxRecDepth 20000 in
theorem okB_X6_comes : ng_okB md_X6_comes := ⟨List.mem_of_getElem? (i := 1023) rfl, List.mem_of_getElem? (i := 55) (by decide +kernel), ⟨by decide +kernel, by decide +kernel⟩, by decide +kernel, plainFor_of_name (by decide +kernel), rfl⟩
theorem ok_X6_comes : ng_okV md_X6_comes := ⟨okB_X6_comes, List.mem_of_getElem? (i := 1022) (by decide +kernel), List.mem_of_getElem? (i := 33) (by decide +kernel)⟩
set_option maxRecDepth 20000 in
theorem okB_X6_ticks : ng_okB md_X6_ticks := ⟨List.mem_of_getElem? (i := 1075) rfl, List.mem_of_getElem? (i := 55) (by decide +kernel), ⟨by decide +kernel, by decide +kernel⟩, by decide +kernel, plainFor_of_name (by decide +kernel), rfl⟩
theorem ok_X6_ticks : ng_okV md_X6_ticks := ⟨okB_X6_ticks, List.mem_of_getElem? (i := 1074) (by decide +kernel), List.mem_of_getElem? (i := 40) (by decide +kernel)⟩
set_option maxRecDepth 20000 in
theorem okB_X6_firstLate : ng_okB md_X6_firstLate := ⟨List.mem_of_getElem? (i := 1078) rfl, List.mem_of_getElem? (i := 55) (by decide +kernel), ⟨by decide +kernel, by decide +kernel⟩, by decide +kernel, plainFor_of_name (by decide +kernel), rfl⟩
theorem ok_X6_firstLate : ng_okS md_X6_firstLate := ⟨okB_X6_firstLate, List.mem_of_getElem? (i := 1077) (by decide +kernel)⟩
set_option maxRecDepth 20000 in
theorem okB_X6_paired : ng_okB md_X6_paired := ⟨List.mem_of_getElem? (i := 988) rfl, List.mem_of_getElem? (i := 55) (by decide +kernel), ⟨by decide +kernel, by decide +kernel⟩, by decide +kernel, plainFor_of_name (by decide +kernel), rfl⟩
theorem ok_X6_paired : ng_okV md_X6_paired := ⟨okB_X6_paired, List.mem_of_getElem? (i := 987) (by decide +kernel), List.mem_of_getElem? (i := 30) (by decide +kernel)⟩
set_option maxRecDepth 20000 in
theorem okB_X6_ask : ng_okB md_X6_ask := ⟨List.mem_of_getElem? (i := 984) rfl, List.mem_of_getElem? (i := 55) (by decide +kernel), ⟨by decide +kernel, by decide +kernel⟩, by decide +kernel, plainFor_of_name (by decide +kernel), rfl⟩
theorem ok_X6_ask : ng_okV md_X6_ask := ⟨okB_X6_ask, List.mem_of_getElem? (i := 982) (by decide +kernel), List.mem_of_getElem? (i := 983) (by decide +kernel)⟩
set_option maxRecDepth 20000 in
theorem okB_X6_turn : ng_okB md_X6_turn := ⟨List.mem_of_getElem? (i := 992) rfl, List.mem_of_getElem? (i := 55) (by decide +kernel), ⟨by decide +kernel, by decide +kernel⟩, by decide +kernel, plainFor_of_name (by decide +kernel), rfl⟩
theorem ok_X6_turn : ng_okV md_X6_turn := ⟨okB_X6_turn, List.mem_of_getElem? (i := 990) (by decide +kernel), List.mem_of_getElem? (i := 991) (by decide +kernel)⟩
set_option maxRecDepth 20000 in
theorem okB_X6_isHolder : ng_okB md_X6_isHolder := ⟨List.mem_of_getElem? (i := 1007) rfl, List.mem_of_getElem? (i := 55) (by decide +kernel), ⟨by decide +kernel, by decide +kernel⟩, by decide +kernel, plainFor_of_name (by decide +kernel), rfl⟩
theorem ok_X6_isHolder : ng_okV md_X6_isHolder := ⟨okB_X6_isHolder, List.mem_of_getElem? (i := 1006) (by decide +kernel), List.mem_of_getElem? (i := 32) (by decide +kernel)⟩
set_option maxRecDepth 20000 in
theorem okB_X6_show : ng_okB md_X6_show := ⟨List.mem_of_getElem? (i := 1003) rfl, List.mem_of_getElem? (i := 55) (by decide +kernel), ⟨by decide +kernel, by decide +kernel⟩, by decide +kernel, plainFor_of_name (by decide +kernel), rfl⟩
theorem ok_X6_show : ng_okV md_X6_show := ⟨okB_X6_show, List.mem_of_getElem? (i := 1001) (by decide +kernel), List.mem_of_getElem? (i := 1002) (by decide +kernel)⟩
set_option maxRecDepth 20000 in
theorem okB_X6_hand : ng_okB md_X6_hand := ⟨List.mem_of_getElem? (i := 1011) rfl, List.mem_of_getElem? (i := 55) (by decide +kernel), ⟨by decide +kernel, by decide +kernel⟩, by decide +kernel, plainFor_of_name (by decide +kernel), rfl⟩
theorem ok_X6_hand : ng_okV md_X6_hand := ⟨okB_X6_hand, List.mem_of_getElem? (i := 1009) (by decide +kernel), List.mem_of_getElem? (i := 1010) (by decide +kernel)⟩
set_option maxRecDepth 20000 in
theorem okB_X6_fake : ng_okB md_X6_fake := ⟨List.mem_of_getElem? (i := 1015) rfl, List.mem_of_getElem? (i := 55) (by decide +kernel), ⟨by decide +kernel, by decide +kernel⟩, by decide +kernel, plainFor_of_name (by decide +kernel), rfl⟩
theorem ok_X6_fake : ng_okV md_X6_fake := ⟨okB_X6_fake, List.mem_of_getElem? (i := 1013) (by decide +kernel), List.mem_of_getElem? (i := 1014) (by decide +kernel)⟩
set_option maxRecDepth 20000 in
theorem okB_X6_deliver : ng_okB md_X6_deliver := ⟨List.mem_of_getElem? (i := 1019) rfl, List.mem_of_getElem? (i := 55) (by decide +kernel), ⟨by decide +kernel, by decide +kernel⟩, by decide +kernel, plainFor_of_name (by decide +kernel), rfl⟩
theorem ok_X6_deliver : ng_okV md_X6_deliver := ⟨okB_X6_deliver, List.mem_of_getElem? (i := 1017) (by decide +kernel), List.mem_of_getElem? (i := 1018) (by decide +kernel)⟩
set_option maxRecDepth 20000 in
theorem okB_X6_copy : ng_okB md_X6_copy := ⟨List.mem_of_getElem? (i := 1063) rfl, List.mem_of_getElem? (i := 55) (by decide +kernel), ⟨by decide +kernel, by decide +kernel⟩, by decide +kernel, plainFor_of_name (by decide +kernel), rfl⟩
theorem ok_X6_copy : ng_okV md_X6_copy := ⟨okB_X6_copy, List.mem_of_getElem? (i := 1061) (by decide +kernel), List.mem_of_getElem? (i := 1062) (by decide +kernel)⟩
set_option maxRecDepth 20000 in
theorem okB_X6_lose : ng_okB md_X6_lose := ⟨List.mem_of_getElem? (i := 1067) rfl, List.mem_of_getElem? (i := 55) (by decide +kernel), ⟨by decide +kernel, by decide +kernel⟩, by decide +kernel, plainFor_of_name (by decide +kernel), rfl⟩
theorem ok_X6_lose : ng_okV md_X6_lose := ⟨okB_X6_lose, List.mem_of_getElem? (i := 1065) (by decide +kernel), List.mem_of_getElem? (i := 1066) (by decide +kernel)⟩
set_option maxRecDepth 20000 in
theorem okB_X6_tick : ng_okB md_X6_tick := ⟨List.mem_of_getElem? (i := 1071) rfl, List.mem_of_getElem? (i := 55) (by decide +kernel), ⟨by decide +kernel, by decide +kernel⟩, by decide +kernel, plainFor_of_name (by decide +kernel), rfl⟩
theorem ok_X6_tick : ng_okV md_X6_tick := ⟨okB_X6_tick, List.mem_of_getElem? (i := 1069) (by decide +kernel), List.mem_of_getElem? (i := 1070) (by decide +kernel)⟩
set_option maxRecDepth 20000 in
theorem okB_X6_copy_ : ng_okB md_X6_copy_ := ⟨List.mem_of_getElem? (i := 1089) rfl, List.mem_of_getElem? (i := 55) (by decide +kernel), ⟨by decide +kernel, by decide +kernel⟩, by decide +kernel, plainFor_of_name (by decide +kernel), rfl⟩
theorem ok_X6_copy_ : ng_okS md_X6_copy_ := ⟨okB_X6_copy_, List.mem_of_getElem? (i := 1088) (by decide +kernel)⟩
set_option maxRecDepth 20000 in
theorem okB_X6_isAsked : ng_okB md_X6_isAsked := ⟨List.mem_of_getElem? (i := 1086) rfl, List.mem_of_getElem? (i := 55) (by decide +kernel), ⟨by decide +kernel, by decide +kernel⟩, by decide +kernel, plainFor_of_name (by decide +kernel), rfl⟩
theorem ok_X6_isAsked : ng_okV md_X6_isAsked := ⟨okB_X6_isAsked, List.mem_of_getElem? (i := 1085) (by decide +kernel), List.mem_of_getElem? (i := 41) (by decide +kernel)⟩
set_option maxRecDepth 20000 in
theorem okB_X6_isMixed : ng_okB md_X6_isMixed := ⟨List.mem_of_getElem? (i := 1103) rfl, List.mem_of_getElem? (i := 55) (by decide +kernel), ⟨by decide +kernel, by decide +kernel⟩, by decide +kernel, plainFor_of_name (by decide +kernel), rfl⟩
theorem ok_X6_isMixed : ng_okS md_X6_isMixed := ⟨okB_X6_isMixed, List.mem_of_getElem? (i := 1102) (by decide +kernel)⟩
set_option maxRecDepth 20000 in
theorem okB_X6_makes : ng_okB md_X6_makes := ⟨List.mem_of_getElem? (i := 1107) rfl, List.mem_of_getElem? (i := 55) (by decide +kernel), ⟨by decide +kernel, by decide +kernel⟩, by decide +kernel, plainFor_of_name (by decide +kernel), rfl⟩
theorem ok_X6_makes : ng_okV md_X6_makes := ⟨okB_X6_makes, List.mem_of_getElem? (i := 1106) (by decide +kernel), List.mem_of_getElem? (i := 44) (by decide +kernel)⟩
set_option maxRecDepth 20000 in
theorem okB_X6_sumOf : ng_okB md_X6_sumOf := ⟨List.mem_of_getElem? (i := 1096) rfl, List.mem_of_getElem? (i := 55) (by decide +kernel), ⟨by decide +kernel, by decide +kernel⟩, by decide +kernel, plainFor_of_name (by decide +kernel), rfl⟩
theorem ok_X6_sumOf : ng_okS md_X6_sumOf := ⟨okB_X6_sumOf, List.mem_of_getElem? (i := 1095) (by decide +kernel)⟩
set_option maxRecDepth 20000 in
theorem okB_X6_isThere : ng_okB md_X6_isThere := ⟨List.mem_of_getElem? (i := 1111) rfl, List.mem_of_getElem? (i := 55) (by decide +kernel), ⟨by decide +kernel, by decide +kernel⟩, by decide +kernel, plainFor_of_name (by decide +kernel), rfl⟩
theorem ok_X6_isThere : ng_okV md_X6_isThere := ⟨okB_X6_isThere, List.mem_of_getElem? (i := 1110) (by decide +kernel), List.mem_of_getElem? (i := 45) (by decide +kernel)⟩
set_option maxRecDepth 20000 in
theorem okB_X6_lays : ng_okB md_X6_lays := ⟨List.mem_of_getElem? (i := 1100) rfl, List.mem_of_getElem? (i := 55) (by decide +kernel), ⟨by decide +kernel, by decide +kernel⟩, by decide +kernel, plainFor_of_name (by decide +kernel), rfl⟩
theorem ok_X6_lays : ng_okV md_X6_lays := ⟨okB_X6_lays, List.mem_of_getElem? (i := 1099) (by decide +kernel), List.mem_of_getElem? (i := 43) (by decide +kernel)⟩
set_option maxRecDepth 20000 in
theorem okB_X6_search : ng_okB md_X6_search := ⟨List.mem_of_getElem? (i := 1093) rfl, List.mem_of_getElem? (i := 55) (by decide +kernel), ⟨by decide +kernel, by decide +kernel⟩, by decide +kernel, plainFor_of_name (by decide +kernel), rfl⟩
theorem ok_X6_search : ng_okV md_X6_search := ⟨okB_X6_search, List.mem_of_getElem? (i := 1092) (by decide +kernel), List.mem_of_getElem? (i := 42) (by decide +kernel)⟩
set_option maxRecDepth 20000 in
theorem okB_X6_judge : ng_okB md_X6_judge := ⟨List.mem_of_getElem? (i := 1082) rfl, List.mem_of_getElem? (i := 55) (by decide +kernel), ⟨by decide +kernel, by decide +kernel⟩, by decide +kernel, plainFor_of_name (by decide +kernel), rfl⟩
theorem ok_X6_judge : ng_okV md_X6_judge := ⟨okB_X6_judge, List.mem_of_getElem? (i := 1080) (by decide +kernel), List.mem_of_getElem? (i := 1081) (by decide +kernel)⟩
set_option maxRecDepth 20000 in
theorem okB_X6_found : ng_okB md_X6_found := ⟨List.mem_of_getElem? (i := 1115) rfl, List.mem_of_getElem? (i := 55) (by decide +kernel), ⟨by decide +kernel, by decide +kernel⟩, by decide +kernel, plainFor_of_name (by decide +kernel), rfl⟩
theorem ok_X6_found : ng_okV md_X6_found := ⟨okB_X6_found, List.mem_of_getElem? (i := 1113) (by decide +kernel), List.mem_of_getElem? (i := 1114) (by decide +kernel)⟩
set_option maxRecDepth 20000 in
theorem okB_X6_stops : ng_okB md_X6_stops := ⟨List.mem_of_getElem? (i := 1119) rfl, List.mem_of_getElem? (i := 55) (by decide +kernel), ⟨by decide +kernel, by decide +kernel⟩, by decide +kernel, plainFor_of_name (by decide +kernel), rfl⟩
theorem ok_X6_stops : ng_okV md_X6_stops := ⟨okB_X6_stops, List.mem_of_getElem? (i := 1117) (by decide +kernel), List.mem_of_getElem? (i := 1118) (by decide +kernel)⟩
set_option maxRecDepth 20000 in
theorem okB_X6_longest : ng_okB md_X6_longest := ⟨List.mem_of_getElem? (i := 1123) rfl, List.mem_of_getElem? (i := 55) (by decide +kernel), ⟨by decide +kernel, by decide +kernel⟩, by decide +kernel, plainFor_of_name (by decide +kernel), rfl⟩
theorem ok_X6_longest : ng_okV md_X6_longest := ⟨okB_X6_longest, List.mem_of_getElem? (i := 1121) (by decide +kernel), List.mem_of_getElem? (i := 1122) (by decide +kernel)⟩
set_option maxRecDepth 20000 in
theorem okB_X6_note_ : ng_okB md_X6_note_ := ⟨List.mem_of_getElem? (i := 1127) rfl, List.mem_of_getElem? (i := 55) (by decide +kernel), ⟨by decide +kernel, by decide +kernel⟩, by decide +kernel, plainFor_of_name (by decide +kernel), rfl⟩
theorem ok_X6_note_ : ng_okV md_X6_note_ := ⟨okB_X6_note_, List.mem_of_getElem? (i := 1125) (by decide +kernel), List.mem_of_getElem? (i := 1126) (by decide +kernel)⟩
set_option maxRecDepth 20000 in
theorem okB_X6_letter_ : ng_okB md_X6_letter_ := ⟨List.mem_of_getElem? (i := 1131) rfl, List.mem_of_getElem? (i := 55) (by decide +kernel), ⟨by decide +kernel, by decide +kernel⟩, by decide +kernel, plainFor_of_name (by decide +kernel), rfl⟩
theorem ok_X6_letter_ : ng_okV md_X6_letter_ := ⟨okB_X6_letter_, List.mem_of_getElem? (i := 1129) (by decide +kernel), List.mem_of_getElem? (i := 1130) (by decide +kernel)⟩
set_option maxRecDepth 20000 in
theorem okB_X6_family_ : ng_okB md_X6_family_ := ⟨List.mem_of_getElem? (i := 1135) rfl, List.mem_of_getElem? (i := 55) (by decide +kernel), ⟨by decide +kernel, by decide +kernel⟩, by decide +kernel, plainFor_of_name (by decide +kernel), rfl⟩
theorem ok_X6_family_ : ng_okV md_X6_family_ := ⟨okB_X6_family_, List.mem_of_getElem? (i := 1133) (by decide +kernel), List.mem_of_getElem? (i := 1134) (by decide +kernel)⟩
set_option maxRecDepth 20000 in
theorem okB_X6_houseOf : ng_okB md_X6_houseOf := ⟨List.mem_of_getElem? (i := 1139) rfl, List.mem_of_getElem? (i := 55) (by decide +kernel), ⟨by decide +kernel, by decide +kernel⟩, by decide +kernel, plainFor_of_name (by decide +kernel), rfl⟩
theorem ok_X6_houseOf : ng_okV md_X6_houseOf := ⟨okB_X6_houseOf, List.mem_of_getElem? (i := 1137) (by decide +kernel), List.mem_of_getElem? (i := 1138) (by decide +kernel)⟩
set_option maxRecDepth 20000 in
theorem okB_X6_browser_ : ng_okB md_X6_browser_ := ⟨List.mem_of_getElem? (i := 1143) rfl, List.mem_of_getElem? (i := 55) (by decide +kernel), ⟨by decide +kernel, by decide +kernel⟩, by decide +kernel, plainFor_of_name (by decide +kernel), rfl⟩
theorem ok_X6_browser_ : ng_okV md_X6_browser_ := ⟨okB_X6_browser_, List.mem_of_getElem? (i := 1141) (by decide +kernel), List.mem_of_getElem? (i := 1142) (by decide +kernel)⟩
set_option maxRecDepth 20000 in
theorem okB_X6_log : ng_okB md_X6_log := ⟨List.mem_of_getElem? (i := 1147) rfl, List.mem_of_getElem? (i := 55) (by decide +kernel), ⟨by decide +kernel, by decide +kernel⟩, by decide +kernel, plainFor_of_name (by decide +kernel), rfl⟩
theorem ok_X6_log : ng_okV md_X6_log := ⟨okB_X6_log, List.mem_of_getElem? (i := 1145) (by decide +kernel), List.mem_of_getElem? (i := 1146) (by decide +kernel)⟩
set_option maxRecDepth 20000 in
theorem okB_X6_where : ng_okB md_X6_where := ⟨List.mem_of_getElem? (i := 1151) rfl, List.mem_of_getElem? (i := 55) (by decide +kernel), ⟨by decide +kernel, by decide +kernel⟩, by decide +kernel, plainFor_of_name (by decide +kernel), rfl⟩
theorem ok_X6_where : ng_okV md_X6_where := ⟨okB_X6_where, List.mem_of_getElem? (i := 1149) (by decide +kernel), List.mem_of_getElem? (i := 1150) (by decide +kernel)⟩
set_option maxRecDepth 20000 in
theorem okB_X6_count : ng_okB md_X6_count := ⟨List.mem_of_getElem? (i := 1155) rfl, List.mem_of_getElem? (i := 55) (by decide +kernel), ⟨by decide +kernel, by decide +kernel⟩, by decide +kernel, plainFor_of_name (by decide +kernel), rfl⟩
theorem ok_X6_count : ng_okV md_X6_count := ⟨okB_X6_count, List.mem_of_getElem? (i := 1153) (by decide +kernel), List.mem_of_getElem? (i := 1154) (by decide +kernel)⟩
set_option maxRecDepth 20000 in
theorem okB_X6_isSlot : ng_okB md_X6_isSlot := ⟨List.mem_of_getElem? (i := 1162) rfl, List.mem_of_getElem? (i := 55) (by decide +kernel), ⟨by decide +kernel, by decide +kernel⟩, by decide +kernel, plainFor_of_name (by decide +kernel), rfl⟩
theorem ok_X6_isSlot : ng_okS md_X6_isSlot := ⟨okB_X6_isSlot, List.mem_of_getElem? (i := 1161) (by decide +kernel)⟩
set_option maxRecDepth 20000 in
theorem okB_X6_cut : ng_okB md_X6_cut := ⟨List.mem_of_getElem? (i := 1173) rfl, List.mem_of_getElem? (i := 55) (by decide +kernel), ⟨by decide +kernel, by decide +kernel⟩, by decide +kernel, plainFor_of_name (by decide +kernel), rfl⟩
theorem ok_X6_cut : ng_okS md_X6_cut := ⟨okB_X6_cut, List.mem_of_getElem? (i := 1172) (by decide +kernel)⟩
set_option maxRecDepth 20000 in
theorem okB_X6_row : ng_okB md_X6_row := ⟨List.mem_of_getElem? (i := 1159) rfl, List.mem_of_getElem? (i := 55) (by decide +kernel), ⟨by decide +kernel, by decide +kernel⟩, by decide +kernel, plainFor_of_name (by decide +kernel), rfl⟩
theorem ok_X6_row : ng_okV md_X6_row := ⟨okB_X6_row, List.mem_of_getElem? (i := 1157) (by decide +kernel), List.mem_of_getElem? (i := 1158) (by decide +kernel)⟩
set_option maxRecDepth 20000 in
theorem okB_X6_tear : ng_okB md_X6_tear := ⟨List.mem_of_getElem? (i := 1166) rfl, List.mem_of_getElem? (i := 55) (by decide +kernel), ⟨by decide +kernel, by decide +kernel⟩, by decide +kernel, plainFor_of_name (by decide +kernel), rfl⟩
theorem ok_X6_tear : ng_okV md_X6_tear := ⟨okB_X6_tear, List.mem_of_getElem? (i := 1164) (by decide +kernel), List.mem_of_getElem? (i := 1165) (by decide +kernel)⟩
set_option maxRecDepth 20000 in
theorem okB_X6_write : ng_okB md_X6_write := ⟨List.mem_of_getElem? (i := 1170) rfl, List.mem_of_getElem? (i := 55) (by decide +kernel), ⟨by decide +kernel, by decide +kernel⟩, by decide +kernel, plainFor_of_name (by decide +kernel), rfl⟩
theorem ok_X6_write : ng_okV md_X6_write := ⟨okB_X6_write, List.mem_of_getElem? (i := 1168) (by decide +kernel), List.mem_of_getElem? (i := 1169) (by decide +kernel)⟩
set_option maxRecDepth 20000 in
theorem okB_X6_paste : ng_okB md_X6_paste := ⟨List.mem_of_getElem? (i := 1177) rfl, List.mem_of_getElem? (i := 55) (by decide +kernel), ⟨by decide +kernel, by decide +kernel⟩, by decide +kernel, plainFor_of_name (by decide +kernel), rfl⟩
theorem ok_X6_paste : ng_okV md_X6_paste := ⟨okB_X6_paste, List.mem_of_getElem? (i := 1175) (by decide +kernel), List.mem_of_getElem? (i := 1176) (by decide +kernel)⟩
set_option maxRecDepth 20000 in
theorem okB_X6_done : ng_okB md_X6_done := ⟨List.mem_of_getElem? (i := 1191) rfl, List.mem_of_getElem? (i := 55) (by decide +kernel), ⟨by decide +kernel, by decide +kernel⟩, by decide +kernel, plainFor_of_name (by decide +kernel), rfl⟩
theorem ok_X6_done : ng_okV md_X6_done := ⟨okB_X6_done, List.mem_of_getElem? (i := 1190) (by decide +kernel), List.mem_of_getElem? (i := 46) (by decide +kernel)⟩
set_option maxRecDepth 20000 in
theorem okB_X6_isInt : ng_okB md_X6_isInt := ⟨List.mem_of_getElem? (i := 1187) rfl, List.mem_of_getElem? (i := 55) (by decide +kernel), ⟨by decide +kernel, by decide +kernel⟩, by decide +kernel, plainFor_of_name (by decide +kernel), rfl⟩
theorem ok_X6_isInt : ng_okS md_X6_isInt := ⟨okB_X6_isInt, List.mem_of_getElem? (i := 1186) (by decide +kernel)⟩
set_option maxRecDepth 20000 in
theorem okB_X6_script : ng_okB md_X6_script := ⟨List.mem_of_getElem? (i := 1181) rfl, List.mem_of_getElem? (i := 55) (by decide +kernel), ⟨by decide +kernel, by decide +kernel⟩, by decide +kernel, plainFor_of_name (by decide +kernel), rfl⟩
theorem ok_X6_script : ng_okV md_X6_script := ⟨okB_X6_script, List.mem_of_getElem? (i := 1179) (by decide +kernel), List.mem_of_getElem? (i := 1180) (by decide +kernel)⟩
set_option maxRecDepth 20000 in
theorem okB_X6_why : ng_okB md_X6_why := ⟨List.mem_of_getElem? (i := 1203) rfl, List.mem_of_getElem? (i := 55) (by decide +kernel), ⟨by decide +kernel, by decide +kernel⟩, by decide +kernel, plainFor_of_name (by decide +kernel), rfl⟩
theorem ok_X6_why : ng_okV md_X6_why := ⟨okB_X6_why, List.mem_of_getElem? (i := 1201) (by decide +kernel), List.mem_of_getElem? (i := 1202) (by decide +kernel)⟩
set_option maxRecDepth 20000 in
theorem okB_J9_floorMod_7cf53 : ng_okB md_J9_floorMod_7cf53 := ⟨List.mem_of_getElem? (i := 508) rfl, List.mem_of_getElem? (i := 57) (by decide +kernel), ⟨by decide +kernel, by decide +kernel⟩, by decide +kernel, by decide +kernel, rfl⟩
theorem ok_J9_floorMod_7cf53 : ng_okS md_J9_floorMod_7cf53 := ⟨okB_J9_floorMod_7cf53, List.mem_of_getElem? (i := 507) (by decide +kernel)⟩
set_option maxRecDepth 20000 in
theorem okB_J9_min_7cf53 : ng_okB md_J9_min_7cf53 := ⟨List.mem_of_getElem? (i := 528) rfl, List.mem_of_getElem? (i := 57) (by decide +kernel), ⟨by decide +kernel, by decide +kernel⟩, by decide +kernel, by decide +kernel, rfl⟩
theorem ok_J9_min_7cf53 : ng_okS md_J9_min_7cf53 := ⟨okB_J9_min_7cf53, List.mem_of_getElem? (i := 527) (by decide +kernel)⟩
set_option maxRecDepth 20000 in
theorem okB_J7_fill_d0a16 : ng_okB md_J7_fill_d0a16 := ⟨List.mem_of_getElem? (i := 756) rfl, List.mem_of_getElem? (i := 50) (by decide +kernel), ⟨by decide +kernel, by decide +kernel⟩, by decide +kernel, plainFor_of_name (by decide +kernel), rfl⟩
theorem ok_J7_fill_d0a16 : ng_okS md_J7_fill_d0a16 := ⟨okB_J7_fill_d0a16, List.mem_of_getElem? (i := 755) (by decide +kernel)⟩
set_option maxRecDepth 20000 in
theorem okB_J7_fill_53178 : ng_okB md_J7_fill_53178 := ⟨List.mem_of_getElem? (i := 74) rfl, List.mem_of_getElem? (i := 50) (by decide +kernel), ⟨by decide +kernel, by decide +kernel⟩, by decide +kernel, plainFor_of_name (by decide +kernel), rfl⟩
theorem ok_J7_fill_53178 : ng_okS md_J7_fill_53178 := ⟨okB_J7_fill_53178, List.mem_of_getElem? (i := 73) (by decide +kernel)⟩
theorem lk_RL_9 : Cond.methodLink RL 9 yX5_init ∈ lw_tbl := List.mem_of_getElem? (i := 60) (by decide +kernel)
theorem lk_RX5_1 : ng_okO RX5 1 := ⟨List.mem_of_getElem? (i := 63) (by decide +kernel), List.mem_of_getElem? (i := 64) (by decide +kernel), List.mem_of_getElem? (i := 65) (by decide +kernel)⟩
theorem lk_RX5_9 : Cond.methodLink RX5 9 yX2_init ∈ lw_tbl := List.mem_of_getElem? (i := 68) (by decide +kernel)
theorem lk_RX2_3 : ng_okO RX2 3 := ⟨List.mem_of_getElem? (i := 71) (by decide +kernel), List.mem_of_getElem? (i := 64) (by decide +kernel), List.mem_of_getElem? (i := 65) (by decide +kernel)⟩
theorem lk_RX2_65 : Cond.methodLink RX2 65 yJ7_fill_53178 ∈ lw_tbl := List.mem_of_getElem? (i := 72) (by decide +kernel)
theorem lk_RX0_3 : ng_okO RX0 3 := ⟨List.mem_of_getElem? (i := 161) (by decide +kernel), List.mem_of_getElem? (i := 64) (by decide +kernel), List.mem_of_getElem? (i := 65) (by decide +kernel)⟩
theorem lk_RX5_25 : Cond.methodLink RX5 25 yX4_init ∈ lw_tbl := List.mem_of_getElem? (i := 181) (by decide +kernel)
theorem lk_RX4_5 : ng_okO RX4 5 := ⟨List.mem_of_getElem? (i := 184) (by decide +kernel), List.mem_of_getElem? (i := 64) (by decide +kernel), List.mem_of_getElem? (i := 65) (by decide +kernel)⟩
theorem lk_RX5_34 : Cond.methodLink RX5 34 yX1_init ∈ lw_tbl := List.mem_of_getElem? (i := 197) (by decide +kernel)
theorem lk_RX1_3 : ng_okO RX1 3 := ⟨List.mem_of_getElem? (i := 200) (by decide +kernel), List.mem_of_getElem? (i := 64) (by decide +kernel), List.mem_of_getElem? (i := 65) (by decide +kernel)⟩
theorem lk_RX1_69 : Cond.methodLink RX1 69 yX4_init ∈ lw_tbl := List.mem_of_getElem? (i := 203) (by decide +kernel)
theorem lk_RX3_3 : ng_okO RX3 3 := ⟨List.mem_of_getElem? (i := 266) (by decide +kernel), List.mem_of_getElem? (i := 64) (by decide +kernel), List.mem_of_getElem? (i := 65) (by decide +kernel)⟩
theorem lk_RL_13 : Cond.methodLink RL 13 yX5_terms ∈ lw_tbl := List.mem_of_getElem? (i := 303) (by decide +kernel)
theorem lk_RX5_56 : Cond.methodLink RX5 56 yX5_within ∈ lw_tbl := List.mem_of_getElem? (i := 307) (by decide +kernel)
theorem lk_RL_18 : Cond.methodLink RL 18 yX5_checks ∈ lw_tbl := List.mem_of_getElem? (i := 310) (by decide +kernel)
theorem lk_RL_23 : Cond.methodLink RL 23 yX5_house ∈ lw_tbl := List.mem_of_getElem? (i := 314) (by decide +kernel)
theorem lk_RX5_87 : Cond.methodLink RX5 87 yX2_open ∈ lw_tbl := List.mem_of_getElem? (i := 318) (by decide +kernel)
theorem lk_RX5_91 : Cond.methodLink RX5 91 yX4_openHouse ∈ lw_tbl := List.mem_of_getElem? (i := 322) (by decide +kernel)
theorem lk_RL_28 : Cond.methodLink RL 28 yX5_throwOut ∈ lw_tbl := List.mem_of_getElem? (i := 326) (by decide +kernel)
theorem lk_RX5_95 : Cond.methodLink RX5 95 yX2_isIn ∈ lw_tbl := List.mem_of_getElem? (i := 330) (by decide +kernel)
theorem lk_RL_33 : Cond.methodLink RL 33 yX5_keeper ∈ lw_tbl := List.mem_of_getElem? (i := 334) (by decide +kernel)
theorem lk_RL_38 : Cond.methodLink RL 38 yX5_tap ∈ lw_tbl := List.mem_of_getElem? (i := 338) (by decide +kernel)
theorem lk_RL_42 : Cond.methodLink RL 42 yX5_prove ∈ lw_tbl := List.mem_of_getElem? (i := 342) (by decide +kernel)
theorem lk_RX5_109 : Cond.methodLink RX5 109 yX5_isBrowser ∈ lw_tbl := List.mem_of_getElem? (i := 346) (by decide +kernel)
theorem lk_RX5_115 : Cond.methodLink RX5 115 yX4_time ∈ lw_tbl := List.mem_of_getElem? (i := 349) (by decide +kernel)
theorem lk_RL_46 : Cond.methodLink RL 46 yX5_leave ∈ lw_tbl := List.mem_of_getElem? (i := 353) (by decide +kernel)
theorem lk_RX5_119 : Cond.methodLink RX5 119 yX4_endFamiliesOf ∈ lw_tbl := List.mem_of_getElem? (i := 357) (by decide +kernel)
theorem lk_RX4_36 : Cond.methodLink RX4 36 yX4_familyWord ∈ lw_tbl := List.mem_of_getElem? (i := 361) (by decide +kernel)
theorem lk_RX4_27 : Cond.methodLink RX4 27 yX4_isFamily ∈ lw_tbl := List.mem_of_getElem? (i := 365) (by decide +kernel)
theorem lk_RX4_166 : Cond.methodLink RX4 166 yX4_isEnded ∈ lw_tbl := List.mem_of_getElem? (i := 369) (by decide +kernel)
theorem lk_RX4_117 : Cond.methodLink RX4 117 yX4_endFamily ∈ lw_tbl := List.mem_of_getElem? (i := 373) (by decide +kernel)
theorem lk_RX4_92 : Cond.methodLink RX4 92 yX2_isIn ∈ lw_tbl := List.mem_of_getElem? (i := 377) (by decide +kernel)
theorem lk_RX4_54 : Cond.methodLink RX4 54 yX4_post ∈ lw_tbl := List.mem_of_getElem? (i := 378) (by decide +kernel)
theorem lk_RL_50 : Cond.methodLink RL 50 yX5_end ∈ lw_tbl := List.mem_of_getElem? (i := 382) (by decide +kernel)
theorem lk_RX5_123 : Cond.methodLink RX5 123 yX4_isFamily ∈ lw_tbl := List.mem_of_getElem? (i := 386) (by decide +kernel)
theorem lk_RX5_126 : Cond.methodLink RX5 126 yX4_isEnded ∈ lw_tbl := List.mem_of_getElem? (i := 387) (by decide +kernel)
theorem lk_RX5_129 : Cond.methodLink RX5 129 yX4_endFamily ∈ lw_tbl := List.mem_of_getElem? (i := 388) (by decide +kernel)
theorem lk_RL_54 : Cond.methodLink RL 54 yX5_ask ∈ lw_tbl := List.mem_of_getElem? (i := 389) (by decide +kernel)
theorem lk_RX5_132 : Cond.methodLink RX5 132 yX2_isHouse ∈ lw_tbl := List.mem_of_getElem? (i := 393) (by decide +kernel)
theorem lk_RX5_135 : Cond.methodLink RX5 135 yX4_givePair ∈ lw_tbl := List.mem_of_getElem? (i := 397) (by decide +kernel)
theorem lk_RX5_138 : Cond.methodLink RX5 138 yX4_post ∈ lw_tbl := List.mem_of_getElem? (i := 402) (by decide +kernel)
theorem lk_RL_59 : Cond.methodLink RL 59 yX5_turn ∈ lw_tbl := List.mem_of_getElem? (i := 403) (by decide +kernel)
theorem lk_RX5_142 : Cond.methodLink RX5 142 yX4_isNote ∈ lw_tbl := List.mem_of_getElem? (i := 407) (by decide +kernel)
theorem lk_RX5_145 : Cond.methodLink RX5 145 yX4_has ∈ lw_tbl := List.mem_of_getElem? (i := 411) (by decide +kernel)
theorem lk_RX4_23 : Cond.methodLink RX4 23 yX4_isNote ∈ lw_tbl := List.mem_of_getElem? (i := 415) (by decide +kernel)
theorem lk_RX5_149 : Cond.methodLink RX5 149 yX4_noteWord ∈ lw_tbl := List.mem_of_getElem? (i := 416) (by decide +kernel)
theorem lk_RL_64 : Cond.methodLink RL 64 yX5_show ∈ lw_tbl := List.mem_of_getElem? (i := 420) (by decide +kernel)
theorem lk_RX5_153 : Cond.methodLink RX5 153 yX5_isRight ∈ lw_tbl := List.mem_of_getElem? (i := 424) (by decide +kernel)
theorem lk_RL_69 : Cond.methodLink RL 69 yX5_hand ∈ lw_tbl := List.mem_of_getElem? (i := 427) (by decide +kernel)
theorem lk_RL_73 : Cond.methodLink RL 73 yX5_fake ∈ lw_tbl := List.mem_of_getElem? (i := 431) (by decide +kernel)
theorem lk_RX5_156 : Cond.methodLink RX5 156 yX4_knownPair ∈ lw_tbl := List.mem_of_getElem? (i := 435) (by decide +kernel)
theorem lk_RL_78 : Cond.methodLink RL 78 yX5_deliver ∈ lw_tbl := List.mem_of_getElem? (i := 439) (by decide +kernel)
theorem lk_RX5_159 : Cond.methodLink RX5 159 yX4_come ∈ lw_tbl := List.mem_of_getElem? (i := 443) (by decide +kernel)
theorem lk_RX4_30 : Cond.methodLink RX4 30 yX4_isLetter ∈ lw_tbl := List.mem_of_getElem? (i := 447) (by decide +kernel)
theorem lk_RX4_64 : Cond.methodLink RX4 64 yX4_takeOut ∈ lw_tbl := List.mem_of_getElem? (i := 451) (by decide +kernel)
theorem lk_RX4_58 : ng_okA RX4 58 := ⟨List.mem_of_getElem? (i := 455) (by decide +kernel), List.mem_of_getElem? (i := 457) (by decide +kernel), List.mem_of_getElem? (i := 456) (by decide +kernel), List.mem_of_getElem? (i := 56) (by decide +kernel)⟩
theorem lk_RX4_68 : Cond.methodLink RX4 68 yX4_askComes ∈ lw_tbl := List.mem_of_getElem? (i := 458) (by decide +kernel)
theorem lk_RX4_98 : Cond.methodLink RX4 98 yX4_beginFamily ∈ lw_tbl := List.mem_of_getElem? (i := 462) (by decide +kernel)
theorem lk_RX4_105 : Cond.methodLink RX4 105 yX4_addNoteLike ∈ lw_tbl := List.mem_of_getElem? (i := 466) (by decide +kernel)
theorem lk_RX4_72 : Cond.methodLink RX4 72 yX4_giveComes ∈ lw_tbl := List.mem_of_getElem? (i := 470) (by decide +kernel)
theorem lk_RX4_135 : Cond.methodLink RX4 135 yX4_takes ∈ lw_tbl := List.mem_of_getElem? (i := 474) (by decide +kernel)
theorem lk_RX4_127 : Cond.methodLink RX4 127 yX2_on ∈ lw_tbl := List.mem_of_getElem? (i := 478) (by decide +kernel)
theorem lk_RX4_120 : Cond.methodLink RX4 120 yX4_letHave ∈ lw_tbl := List.mem_of_getElem? (i := 482) (by decide +kernel)
theorem lk_RX4_75 : Cond.methodLink RX4 75 yX4_showComes ∈ lw_tbl := List.mem_of_getElem? (i := 486) (by decide +kernel)
theorem lk_RX4_139 : Cond.methodLink RX4 139 yX4_verdict ∈ lw_tbl := List.mem_of_getElem? (i := 490) (by decide +kernel)
theorem lk_RX4_157 : Cond.methodLink RX4 157 yX2_isOnce ∈ lw_tbl := List.mem_of_getElem? (i := 494) (by decide +kernel)
theorem lk_RX4_142 : Cond.methodLink RX4 142 yX4_letIn ∈ lw_tbl := List.mem_of_getElem? (i := 498) (by decide +kernel)
theorem lk_RX4_145 : Cond.methodLink RX4 145 yX0_add ∈ lw_tbl := List.mem_of_getElem? (i := 502) (by decide +kernel)
theorem lk_RX0_25 : Cond.methodLink RX0 25 yJ9_floorMod_7cf53 ∈ lw_tbl := List.mem_of_getElem? (i := 506) (by decide +kernel)
theorem lk_RX4_78 : Cond.methodLink RX4 78 yX4_turnComes ∈ lw_tbl := List.mem_of_getElem? (i := 509) (by decide +kernel)
theorem lk_RX4_111 : Cond.methodLink RX4 111 yX4_renew ∈ lw_tbl := List.mem_of_getElem? (i := 513) (by decide +kernel)
theorem lk_RX4_124 : Cond.methodLink RX4 124 yX4_isGoodForKeeper ∈ lw_tbl := List.mem_of_getElem? (i := 517) (by decide +kernel)
theorem lk_RX4_114 : Cond.methodLink RX4 114 yX4_noteWord ∈ lw_tbl := List.mem_of_getElem? (i := 521) (by decide +kernel)
theorem lk_RX4_82 : Cond.methodLink RX4 82 yX4_handComes ∈ lw_tbl := List.mem_of_getElem? (i := 522) (by decide +kernel)
theorem lk_RX4_130 : Cond.methodLink RX4 130 yJ9_min_7cf53 ∈ lw_tbl := List.mem_of_getElem? (i := 526) (by decide +kernel)
theorem lk_RX4_85 : Cond.methodLink RX4 85 yX4_overComes ∈ lw_tbl := List.mem_of_getElem? (i := 529) (by decide +kernel)
theorem lk_RL_82 : Cond.methodLink RL 82 yX5_copy ∈ lw_tbl := List.mem_of_getElem? (i := 533) (by decide +kernel)
theorem lk_RX5_162 : Cond.methodLink RX5 162 yX4_postAgain ∈ lw_tbl := List.mem_of_getElem? (i := 537) (by decide +kernel)
theorem lk_RL_86 : Cond.methodLink RL 86 yX5_lose ∈ lw_tbl := List.mem_of_getElem? (i := 541) (by decide +kernel)
theorem lk_RX5_165 : Cond.methodLink RX5 165 yX4_isLetter ∈ lw_tbl := List.mem_of_getElem? (i := 545) (by decide +kernel)
theorem lk_RX5_168 : Cond.methodLink RX5 168 yX4_takeOut ∈ lw_tbl := List.mem_of_getElem? (i := 546) (by decide +kernel)
theorem lk_RL_90 : Cond.methodLink RL 90 yX5_tick ∈ lw_tbl := List.mem_of_getElem? (i := 547) (by decide +kernel)
theorem lk_RX5_171 : Cond.methodLink RX5 171 yX4_passTick ∈ lw_tbl := List.mem_of_getElem? (i := 551) (by decide +kernel)
theorem lk_RX4_172 : Cond.methodLink RX4 172 yX4_hearOfEnded ∈ lw_tbl := List.mem_of_getElem? (i := 555) (by decide +kernel)
theorem lk_RX4_178 : Cond.methodLink RX4 178 yX4_come ∈ lw_tbl := List.mem_of_getElem? (i := 559) (by decide +kernel)
theorem lk_RL_94 : Cond.methodLink RL 94 yX5_judge ∈ lw_tbl := List.mem_of_getElem? (i := 560) (by decide +kernel)
theorem lk_RX5_174 : Cond.methodLink RX5 174 yX5_isQuestion ∈ lw_tbl := List.mem_of_getElem? (i := 564) (by decide +kernel)
theorem lk_RX5_178 : Cond.methodLink RX5 178 yX1_aim ∈ lw_tbl := List.mem_of_getElem? (i := 568) (by decide +kernel)
theorem lk_RX5_182 : Cond.methodLink RX5 182 yX1_search ∈ lw_tbl := List.mem_of_getElem? (i := 572) (by decide +kernel)
theorem lk_RX1_75 : Cond.methodLink RX1 75 yJ7_fill_53178 ∈ lw_tbl := List.mem_of_getElem? (i := 576) (by decide +kernel)
theorem lk_RX1_81 : Cond.methodLink RX1 81 yX4_become ∈ lw_tbl := List.mem_of_getElem? (i := 577) (by decide +kernel)
theorem lk_RX1_85 : Cond.methodLink RX1 85 yX1_isStrangeNoteTaken ∈ lw_tbl := List.mem_of_getElem? (i := 581) (by decide +kernel)
theorem lk_RX1_127 : Cond.methodLink RX1 127 yX4_notes ∈ lw_tbl := List.mem_of_getElem? (i := 585) (by decide +kernel)
theorem lk_RX1_130 : Cond.methodLink RX1 130 yX4_has ∈ lw_tbl := List.mem_of_getElem? (i := 589) (by decide +kernel)
theorem lk_RX1_134 : Cond.methodLink RX1 134 yX4_noteWord ∈ lw_tbl := List.mem_of_getElem? (i := 590) (by decide +kernel)
theorem lk_RX1_89 : Cond.methodLink RX1 89 yX1_keepIfNew ∈ lw_tbl := List.mem_of_getElem? (i := 591) (by decide +kernel)
theorem lk_RX1_158 : Cond.methodLink RX1 158 yX4_mark ∈ lw_tbl := List.mem_of_getElem? (i := 595) (by decide +kernel)
theorem lk_RX4_181 : Cond.methodLink RX4 181 yX4_mixed ∈ lw_tbl := List.mem_of_getElem? (i := 599) (by decide +kernel)
theorem lk_RX1_161 : Cond.methodLink RX1 161 yX4_isLike ∈ lw_tbl := List.mem_of_getElem? (i := 603) (by decide +kernel)
theorem lk_RX4_184 : Cond.methodLink RX4 184 yX4_sameWords ∈ lw_tbl := List.mem_of_getElem? (i := 607) (by decide +kernel)
theorem lk_RX1_93 : Cond.methodLink RX1 93 yX1_expand ∈ lw_tbl := List.mem_of_getElem? (i := 611) (by decide +kernel)
theorem lk_RX1_104 : Cond.methodLink RX1 104 yX1_tryLetters ∈ lw_tbl := List.mem_of_getElem? (i := 615) (by decide +kernel)
theorem lk_RX1_120 : Cond.methodLink RX1 120 yX4_letters ∈ lw_tbl := List.mem_of_getElem? (i := 619) (by decide +kernel)
theorem lk_RX1_124 : Cond.methodLink RX1 124 yX4_come ∈ lw_tbl := List.mem_of_getElem? (i := 623) (by decide +kernel)
theorem lk_RX1_117 : Cond.methodLink RX1 117 yX1_reach ∈ lw_tbl := List.mem_of_getElem? (i := 624) (by decide +kernel)
theorem lk_RX1_137 : Cond.methodLink RX1 137 yX1_meet ∈ lw_tbl := List.mem_of_getElem? (i := 628) (by decide +kernel)
theorem lk_RX1_108 : Cond.methodLink RX1 108 yX1_tryShows ∈ lw_tbl := List.mem_of_getElem? (i := 632) (by decide +kernel)
theorem lk_RX1_97 : Cond.methodLink RX1 97 yX4_verdict ∈ lw_tbl := List.mem_of_getElem? (i := 636) (by decide +kernel)
theorem lk_RX1_140 : Cond.methodLink RX1 140 yX4_letIn ∈ lw_tbl := List.mem_of_getElem? (i := 637) (by decide +kernel)
theorem lk_RX1_111 : Cond.methodLink RX1 111 yX1_tryTurns ∈ lw_tbl := List.mem_of_getElem? (i := 638) (by decide +kernel)
theorem lk_RX1_144 : Cond.methodLink RX1 144 yX4_thiefTurns ∈ lw_tbl := List.mem_of_getElem? (i := 642) (by decide +kernel)
theorem lk_RX1_114 : Cond.methodLink RX1 114 yX1_tryGives ∈ lw_tbl := List.mem_of_getElem? (i := 646) (by decide +kernel)
theorem lk_RX1_148 : Cond.methodLink RX1 148 yX4_knownPair ∈ lw_tbl := List.mem_of_getElem? (i := 650) (by decide +kernel)
theorem lk_RX1_151 : Cond.methodLink RX1 151 yX4_takes ∈ lw_tbl := List.mem_of_getElem? (i := 651) (by decide +kernel)
theorem lk_RX1_154 : Cond.methodLink RX1 154 yX4_giveComes ∈ lw_tbl := List.mem_of_getElem? (i := 652) (by decide +kernel)
theorem lk_RX1_101 : Cond.methodLink RX1 101 yX4_passTick ∈ lw_tbl := List.mem_of_getElem? (i := 653) (by decide +kernel)
theorem lk_RX5_185 : Cond.methodLink RX5 185 yX1_tell ∈ lw_tbl := List.mem_of_getElem? (i := 654) (by decide +kernel)
theorem lk_RL_99 : Cond.methodLink RL 99 yX5_found ∈ lw_tbl := List.mem_of_getElem? (i := 658) (by decide +kernel)
theorem lk_RX5_188 : Cond.methodLink RX5 188 yX1_toldMove ∈ lw_tbl := List.mem_of_getElem? (i := 662) (by decide +kernel)
theorem lk_RL_103 : Cond.methodLink RL 103 yX5_stops ∈ lw_tbl := List.mem_of_getElem? (i := 666) (by decide +kernel)
theorem lk_RL_107 : Cond.methodLink RL 107 yX5_longest ∈ lw_tbl := List.mem_of_getElem? (i := 670) (by decide +kernel)
theorem lk_RX5_191 : Cond.methodLink RX5 191 yX1_lastLetIn ∈ lw_tbl := List.mem_of_getElem? (i := 674) (by decide +kernel)
theorem lk_RL_111 : Cond.methodLink RL 111 yX5_note ∈ lw_tbl := List.mem_of_getElem? (i := 678) (by decide +kernel)
theorem lk_RL_115 : Cond.methodLink RL 115 yX5_letter ∈ lw_tbl := List.mem_of_getElem? (i := 682) (by decide +kernel)
theorem lk_RX5_195 : Cond.methodLink RX5 195 yX4_letterWord ∈ lw_tbl := List.mem_of_getElem? (i := 686) (by decide +kernel)
theorem lk_RL_119 : Cond.methodLink RL 119 yX5_family ∈ lw_tbl := List.mem_of_getElem? (i := 690) (by decide +kernel)
theorem lk_RX5_198 : Cond.methodLink RX5 198 yX4_familyWord ∈ lw_tbl := List.mem_of_getElem? (i := 694) (by decide +kernel)
theorem lk_RL_123 : Cond.methodLink RL 123 yX5_houseOf ∈ lw_tbl := List.mem_of_getElem? (i := 695) (by decide +kernel)
theorem lk_RX5_204 : Cond.methodLink RX5 204 yX2_isOnce ∈ lw_tbl := List.mem_of_getElem? (i := 699) (by decide +kernel)
theorem lk_RX5_210 : Cond.methodLink RX5 210 yX4_houseWord ∈ lw_tbl := List.mem_of_getElem? (i := 700) (by decide +kernel)
theorem lk_RL_127 : Cond.methodLink RL 127 yX5_browser ∈ lw_tbl := List.mem_of_getElem? (i := 704) (by decide +kernel)
theorem lk_RX5_213 : Cond.methodLink RX5 213 yX4_pairOf ∈ lw_tbl := List.mem_of_getElem? (i := 708) (by decide +kernel)
theorem lk_RL_131 : Cond.methodLink RL 131 yX5_log ∈ lw_tbl := List.mem_of_getElem? (i := 712) (by decide +kernel)
theorem lk_RX5_219 : Cond.methodLink RX5 219 yX0_word ∈ lw_tbl := List.mem_of_getElem? (i := 716) (by decide +kernel)
theorem lk_RL_135 : Cond.methodLink RL 135 yX5_where ∈ lw_tbl := List.mem_of_getElem? (i := 720) (by decide +kernel)
theorem lk_RL_139 : Cond.methodLink RL 139 yX5_count ∈ lw_tbl := List.mem_of_getElem? (i := 724) (by decide +kernel)
theorem lk_RX5_222 : Cond.methodLink RX5 222 yX4_notes ∈ lw_tbl := List.mem_of_getElem? (i := 728) (by decide +kernel)
theorem lk_RX5_225 : Cond.methodLink RX5 225 yX4_families ∈ lw_tbl := List.mem_of_getElem? (i := 729) (by decide +kernel)
theorem lk_RX5_228 : Cond.methodLink RX5 228 yX4_letters ∈ lw_tbl := List.mem_of_getElem? (i := 733) (by decide +kernel)
theorem lk_RX5_240 : Cond.methodLink RX5 240 yX5_fullSlots ∈ lw_tbl := List.mem_of_getElem? (i := 734) (by decide +kernel)
theorem lk_RX5_243 : Cond.methodLink RX5 243 yX5_isSlot ∈ lw_tbl := List.mem_of_getElem? (i := 738) (by decide +kernel)
theorem lk_RX5_250 : Cond.methodLink RX5 250 yX3_isLaid ∈ lw_tbl := List.mem_of_getElem? (i := 742) (by decide +kernel)
theorem lk_RL_143 : Cond.methodLink RL 143 yX5_row ∈ lw_tbl := List.mem_of_getElem? (i := 746) (by decide +kernel)
theorem lk_RX5_246 : Cond.methodLink RX5 246 yX3_lay ∈ lw_tbl := List.mem_of_getElem? (i := 750) (by decide +kernel)
theorem lk_RX3_22 : Cond.methodLink RX3 22 yJ7_fill_d0a16 ∈ lw_tbl := List.mem_of_getElem? (i := 754) (by decide +kernel)
theorem lk_RL_147 : Cond.methodLink RL 147 yX5_tear ∈ lw_tbl := List.mem_of_getElem? (i := 757) (by decide +kernel)
theorem lk_RL_153 : Cond.methodLink RL 153 yX5_write ∈ lw_tbl := List.mem_of_getElem? (i := 761) (by decide +kernel)
theorem lk_RX5_257 : Cond.methodLink RX5 257 yX3_put ∈ lw_tbl := List.mem_of_getElem? (i := 765) (by decide +kernel)
theorem lk_RX3_28 : Cond.methodLink RX3 28 yX3_cut ∈ lw_tbl := List.mem_of_getElem? (i := 769) (by decide +kernel)
theorem lk_RL_158 : Cond.methodLink RL 158 yX5_paste ∈ lw_tbl := List.mem_of_getElem? (i := 773) (by decide +kernel)
theorem lk_RX5_261 : Cond.methodLink RX5 261 yX3_holds ∈ lw_tbl := List.mem_of_getElem? (i := 777) (by decide +kernel)
theorem lk_RX5_268 : ng_okA RX5 268 := ⟨List.mem_of_getElem? (i := 781) (by decide +kernel), List.mem_of_getElem? (i := 457) (by decide +kernel), List.mem_of_getElem? (i := 456) (by decide +kernel), List.mem_of_getElem? (i := 56) (by decide +kernel)⟩
theorem lk_RL_162 : Cond.methodLink RL 162 yX5_script ∈ lw_tbl := List.mem_of_getElem? (i := 782) (by decide +kernel)
theorem lk_RX5_277 : Cond.methodLink RX5 277 yX5_readAct ∈ lw_tbl := List.mem_of_getElem? (i := 786) (by decide +kernel)
theorem lk_RX5_293 : Cond.methodLink RX5 293 yX3_isInt ∈ lw_tbl := List.mem_of_getElem? (i := 790) (by decide +kernel)
theorem lk_RX5_281 : Cond.methodLink RX5 281 yX3_intAt ∈ lw_tbl := List.mem_of_getElem? (i := 794) (by decide +kernel)
theorem lk_RX3_32 : Cond.methodLink RX3 32 yX3_isInt ∈ lw_tbl := List.mem_of_getElem? (i := 798) (by decide +kernel)
theorem lk_RX5_287 : Cond.methodLink RX5 287 yX5_needs ∈ lw_tbl := List.mem_of_getElem? (i := 801) (by decide +kernel)
theorem lk_RX5_284 : Cond.methodLink RX5 284 yX5_isDone ∈ lw_tbl := List.mem_of_getElem? (i := 804) (by decide +kernel)
theorem lk_RX5_296 : Cond.methodLink RX5 296 yX5_ask ∈ lw_tbl := List.mem_of_getElem? (i := 808) (by decide +kernel)
theorem lk_RX5_299 : Cond.methodLink RX5 299 yX5_turn ∈ lw_tbl := List.mem_of_getElem? (i := 809) (by decide +kernel)
theorem lk_RX5_302 : Cond.methodLink RX5 302 yX5_show ∈ lw_tbl := List.mem_of_getElem? (i := 810) (by decide +kernel)
theorem lk_RX5_306 : Cond.methodLink RX5 306 yX5_hand ∈ lw_tbl := List.mem_of_getElem? (i := 811) (by decide +kernel)
theorem lk_RX5_309 : Cond.methodLink RX5 309 yX5_deliver ∈ lw_tbl := List.mem_of_getElem? (i := 812) (by decide +kernel)
theorem lk_RX5_312 : Cond.methodLink RX5 312 yX5_tick ∈ lw_tbl := List.mem_of_getElem? (i := 813) (by decide +kernel)
theorem lk_RX5_315 : Cond.methodLink RX5 315 yX5_prove ∈ lw_tbl := List.mem_of_getElem? (i := 814) (by decide +kernel)
theorem lk_RX5_318 : Cond.methodLink RX5 318 yX5_fake ∈ lw_tbl := List.mem_of_getElem? (i := 815) (by decide +kernel)
theorem lk_RL_166 : Cond.methodLink RL 166 yX5_why ∈ lw_tbl := List.mem_of_getElem? (i := 816) (by decide +kernel)
theorem lk_RL_12 : Cond.methodLink RL 12 yX6_init ∈ lw_tbl := List.mem_of_getElem? (i := 822) (by decide +kernel)
theorem lk_RX6_1 : ng_okO RX6 1 := ⟨List.mem_of_getElem? (i := 825) (by decide +kernel), List.mem_of_getElem? (i := 64) (by decide +kernel), List.mem_of_getElem? (i := 65) (by decide +kernel)⟩
theorem lk_RL_17 : Cond.methodLink RL 17 yX6_terms ∈ lw_tbl := List.mem_of_getElem? (i := 912) (by decide +kernel)
theorem lk_RX6_67 : Cond.methodLink RX6 67 yX6_in ∈ lw_tbl := List.mem_of_getElem? (i := 916) (by decide +kernel)
theorem lk_RL_22 : Cond.methodLink RL 22 yX6_checks ∈ lw_tbl := List.mem_of_getElem? (i := 919) (by decide +kernel)
theorem lk_RL_27 : Cond.methodLink RL 27 yX6_house_ ∈ lw_tbl := List.mem_of_getElem? (i := 923) (by decide +kernel)
theorem lk_RX6_75 : Cond.methodLink RX6 75 yX6_house ∈ lw_tbl := List.mem_of_getElem? (i := 927) (by decide +kernel)
theorem lk_RL_32 : Cond.methodLink RL 32 yX6_throwOut ∈ lw_tbl := List.mem_of_getElem? (i := 930) (by decide +kernel)
theorem lk_RX6_78 : Cond.methodLink RX6 78 yX6_isHouse ∈ lw_tbl := List.mem_of_getElem? (i := 934) (by decide +kernel)
theorem lk_RL_37 : Cond.methodLink RL 37 yX6_keeper ∈ lw_tbl := List.mem_of_getElem? (i := 938) (by decide +kernel)
theorem lk_RL_41 : Cond.methodLink RL 41 yX6_tap ∈ lw_tbl := List.mem_of_getElem? (i := 942) (by decide +kernel)
theorem lk_RL_45 : Cond.methodLink RL 45 yX6_prove ∈ lw_tbl := List.mem_of_getElem? (i := 946) (by decide +kernel)
theorem lk_RX6_82 : Cond.methodLink RX6 82 yX6_browser ∈ lw_tbl := List.mem_of_getElem? (i := 950) (by decide +kernel)
theorem lk_RL_49 : Cond.methodLink RL 49 yX6_leave ∈ lw_tbl := List.mem_of_getElem? (i := 953) (by decide +kernel)
theorem lk_RX6_85 : Cond.methodLink RX6 85 yX6_family ∈ lw_tbl := List.mem_of_getElem? (i := 957) (by decide +kernel)
theorem lk_RX6_88 : Cond.methodLink RX6 88 yX6_ends ∈ lw_tbl := List.mem_of_getElem? (i := 960) (by decide +kernel)
theorem lk_RX6_71 : Cond.methodLink RX6 71 yX6_note ∈ lw_tbl := List.mem_of_getElem? (i := 964) (by decide +kernel)
theorem lk_RX6_106 : Cond.methodLink RX6 106 yX6_posts ∈ lw_tbl := List.mem_of_getElem? (i := 967) (by decide +kernel)
theorem lk_RX6_99 : Cond.methodLink RX6 99 yX6_letter ∈ lw_tbl := List.mem_of_getElem? (i := 971) (by decide +kernel)
theorem lk_RX6_102 : Cond.methodLink RX6 102 yX6_gets ∈ lw_tbl := List.mem_of_getElem? (i := 974) (by decide +kernel)
theorem lk_RL_53 : Cond.methodLink RL 53 yX6_end ∈ lw_tbl := List.mem_of_getElem? (i := 977) (by decide +kernel)
theorem lk_RL_58 : Cond.methodLink RL 58 yX6_ask ∈ lw_tbl := List.mem_of_getElem? (i := 981) (by decide +kernel)
theorem lk_RX6_159 : Cond.methodLink RX6 159 yX6_paired ∈ lw_tbl := List.mem_of_getElem? (i := 985) (by decide +kernel)
theorem lk_RL_63 : Cond.methodLink RL 63 yX6_turn ∈ lw_tbl := List.mem_of_getElem? (i := 989) (by decide +kernel)
theorem lk_RX6_162 : Cond.methodLink RX6 162 yX6_isNote ∈ lw_tbl := List.mem_of_getElem? (i := 993) (by decide +kernel)
theorem lk_RX6_165 : Cond.methodLink RX6 165 yX6_has ∈ lw_tbl := List.mem_of_getElem? (i := 997) (by decide +kernel)
theorem lk_RL_68 : Cond.methodLink RL 68 yX6_show ∈ lw_tbl := List.mem_of_getElem? (i := 1000) (by decide +kernel)
theorem lk_RX6_169 : Cond.methodLink RX6 169 yX6_isHolder ∈ lw_tbl := List.mem_of_getElem? (i := 1004) (by decide +kernel)
theorem lk_RL_72 : Cond.methodLink RL 72 yX6_hand ∈ lw_tbl := List.mem_of_getElem? (i := 1008) (by decide +kernel)
theorem lk_RL_77 : Cond.methodLink RL 77 yX6_fake ∈ lw_tbl := List.mem_of_getElem? (i := 1012) (by decide +kernel)
theorem lk_RL_81 : Cond.methodLink RL 81 yX6_deliver ∈ lw_tbl := List.mem_of_getElem? (i := 1016) (by decide +kernel)
theorem lk_RX6_155 : Cond.methodLink RX6 155 yX6_comes ∈ lw_tbl := List.mem_of_getElem? (i := 1020) (by decide +kernel)
theorem lk_RX6_131 : Cond.methodLink RX6 131 yX6_removes ∈ lw_tbl := List.mem_of_getElem? (i := 1024) (by decide +kernel)
theorem lk_RX6_134 : Cond.methodLink RX6 134 yX6_asked ∈ lw_tbl := List.mem_of_getElem? (i := 1027) (by decide +kernel)
theorem lk_RX6_110 : Cond.methodLink RX6 110 yX6_given ∈ lw_tbl := List.mem_of_getElem? (i := 1031) (by decide +kernel)
theorem lk_RX6_138 : Cond.methodLink RX6 138 yX6_taken ∈ lw_tbl := List.mem_of_getElem? (i := 1035) (by decide +kernel)
theorem lk_RX6_118 : Cond.methodLink RX6 118 yX6_isOn ∈ lw_tbl := List.mem_of_getElem? (i := 1039) (by decide +kernel)
theorem lk_RX6_141 : Cond.methodLink RX6 141 yX6_shown ∈ lw_tbl := List.mem_of_getElem? (i := 1042) (by decide +kernel)
theorem lk_RX6_121 : Cond.methodLink RX6 121 yX6_verdict ∈ lw_tbl := List.mem_of_getElem? (i := 1046) (by decide +kernel)
theorem lk_RX6_144 : Cond.methodLink RX6 144 yX6_turned ∈ lw_tbl := List.mem_of_getElem? (i := 1049) (by decide +kernel)
theorem lk_RX6_114 : Cond.methodLink RX6 114 yX6_isGood ∈ lw_tbl := List.mem_of_getElem? (i := 1053) (by decide +kernel)
theorem lk_RX6_148 : Cond.methodLink RX6 148 yX6_handed ∈ lw_tbl := List.mem_of_getElem? (i := 1056) (by decide +kernel)
theorem lk_RL_85 : Cond.methodLink RL 85 yX6_copy ∈ lw_tbl := List.mem_of_getElem? (i := 1060) (by decide +kernel)
theorem lk_RL_89 : Cond.methodLink RL 89 yX6_lose ∈ lw_tbl := List.mem_of_getElem? (i := 1064) (by decide +kernel)
theorem lk_RL_93 : Cond.methodLink RL 93 yX6_tick ∈ lw_tbl := List.mem_of_getElem? (i := 1068) (by decide +kernel)
theorem lk_RX6_172 : Cond.methodLink RX6 172 yX6_ticks ∈ lw_tbl := List.mem_of_getElem? (i := 1072) (by decide +kernel)
theorem lk_RX6_151 : Cond.methodLink RX6 151 yX6_firstLate ∈ lw_tbl := List.mem_of_getElem? (i := 1076) (by decide +kernel)
theorem lk_RL_98 : Cond.methodLink RL 98 yX6_judge ∈ lw_tbl := List.mem_of_getElem? (i := 1079) (by decide +kernel)
theorem lk_RX6_209 : Cond.methodLink RX6 209 yX6_isAsked ∈ lw_tbl := List.mem_of_getElem? (i := 1083) (by decide +kernel)
theorem lk_RX6_182 : Cond.methodLink RX6 182 yX6_copy_ ∈ lw_tbl := List.mem_of_getElem? (i := 1087) (by decide +kernel)
theorem lk_RX6_213 : Cond.methodLink RX6 213 yX6_search ∈ lw_tbl := List.mem_of_getElem? (i := 1090) (by decide +kernel)
theorem lk_RX6_189 : Cond.methodLink RX6 189 yX6_sumOf ∈ lw_tbl := List.mem_of_getElem? (i := 1094) (by decide +kernel)
theorem lk_RX6_192 : Cond.methodLink RX6 192 yX6_lays ∈ lw_tbl := List.mem_of_getElem? (i := 1097) (by decide +kernel)
theorem lk_RX6_196 : Cond.methodLink RX6 196 yX6_isMixed ∈ lw_tbl := List.mem_of_getElem? (i := 1101) (by decide +kernel)
theorem lk_RX6_199 : Cond.methodLink RX6 199 yX6_makes ∈ lw_tbl := List.mem_of_getElem? (i := 1104) (by decide +kernel)
theorem lk_RX6_206 : Cond.methodLink RX6 206 yX6_isThere ∈ lw_tbl := List.mem_of_getElem? (i := 1108) (by decide +kernel)
theorem lk_RL_102 : Cond.methodLink RL 102 yX6_found ∈ lw_tbl := List.mem_of_getElem? (i := 1112) (by decide +kernel)
theorem lk_RL_106 : Cond.methodLink RL 106 yX6_stops ∈ lw_tbl := List.mem_of_getElem? (i := 1116) (by decide +kernel)
theorem lk_RL_110 : Cond.methodLink RL 110 yX6_longest ∈ lw_tbl := List.mem_of_getElem? (i := 1120) (by decide +kernel)
theorem lk_RL_114 : Cond.methodLink RL 114 yX6_note_ ∈ lw_tbl := List.mem_of_getElem? (i := 1124) (by decide +kernel)
theorem lk_RL_118 : Cond.methodLink RL 118 yX6_letter_ ∈ lw_tbl := List.mem_of_getElem? (i := 1128) (by decide +kernel)
theorem lk_RL_122 : Cond.methodLink RL 122 yX6_family_ ∈ lw_tbl := List.mem_of_getElem? (i := 1132) (by decide +kernel)
theorem lk_RL_126 : Cond.methodLink RL 126 yX6_houseOf ∈ lw_tbl := List.mem_of_getElem? (i := 1136) (by decide +kernel)
theorem lk_RL_130 : Cond.methodLink RL 130 yX6_browser_ ∈ lw_tbl := List.mem_of_getElem? (i := 1140) (by decide +kernel)
theorem lk_RL_134 : Cond.methodLink RL 134 yX6_log ∈ lw_tbl := List.mem_of_getElem? (i := 1144) (by decide +kernel)
theorem lk_RL_138 : Cond.methodLink RL 138 yX6_where ∈ lw_tbl := List.mem_of_getElem? (i := 1148) (by decide +kernel)
theorem lk_RL_142 : Cond.methodLink RL 142 yX6_count ∈ lw_tbl := List.mem_of_getElem? (i := 1152) (by decide +kernel)
theorem lk_RL_146 : Cond.methodLink RL 146 yX6_row ∈ lw_tbl := List.mem_of_getElem? (i := 1156) (by decide +kernel)
theorem lk_RX6_223 : Cond.methodLink RX6 223 yX6_isSlot ∈ lw_tbl := List.mem_of_getElem? (i := 1160) (by decide +kernel)
theorem lk_RL_150 : Cond.methodLink RL 150 yX6_tear ∈ lw_tbl := List.mem_of_getElem? (i := 1163) (by decide +kernel)
theorem lk_RL_157 : Cond.methodLink RL 157 yX6_write ∈ lw_tbl := List.mem_of_getElem? (i := 1167) (by decide +kernel)
theorem lk_RX6_226 : Cond.methodLink RX6 226 yX6_cut ∈ lw_tbl := List.mem_of_getElem? (i := 1171) (by decide +kernel)
theorem lk_RL_161 : Cond.methodLink RL 161 yX6_paste ∈ lw_tbl := List.mem_of_getElem? (i := 1174) (by decide +kernel)
theorem lk_RL_165 : Cond.methodLink RL 165 yX6_script ∈ lw_tbl := List.mem_of_getElem? (i := 1178) (by decide +kernel)
theorem lk_RX6_263 : Cond.methodLink RX6 263 yX6_isInt ∈ lw_tbl := List.mem_of_getElem? (i := 1185) (by decide +kernel)
theorem lk_RX6_267 : Cond.methodLink RX6 267 yX6_done ∈ lw_tbl := List.mem_of_getElem? (i := 1188) (by decide +kernel)
theorem lk_RX6_230 : Cond.methodLink RX6 230 yX6_ask ∈ lw_tbl := List.mem_of_getElem? (i := 1192) (by decide +kernel)
theorem lk_RX6_234 : Cond.methodLink RX6 234 yX6_turn ∈ lw_tbl := List.mem_of_getElem? (i := 1193) (by decide +kernel)
theorem lk_RX6_238 : Cond.methodLink RX6 238 yX6_show ∈ lw_tbl := List.mem_of_getElem? (i := 1194) (by decide +kernel)
theorem lk_RX6_242 : Cond.methodLink RX6 242 yX6_hand ∈ lw_tbl := List.mem_of_getElem? (i := 1195) (by decide +kernel)
theorem lk_RX6_245 : Cond.methodLink RX6 245 yX6_deliver ∈ lw_tbl := List.mem_of_getElem? (i := 1196) (by decide +kernel)
theorem lk_RX6_248 : Cond.methodLink RX6 248 yX6_tick ∈ lw_tbl := List.mem_of_getElem? (i := 1197) (by decide +kernel)
theorem lk_RX6_251 : Cond.methodLink RX6 251 yX6_prove ∈ lw_tbl := List.mem_of_getElem? (i := 1198) (by decide +kernel)
theorem lk_RX6_254 : Cond.methodLink RX6 254 yX6_fake ∈ lw_tbl := List.mem_of_getElem? (i := 1199) (by decide +kernel)
theorem lk_RL_170 : Cond.methodLink RL 170 yX6_why ∈ lw_tbl := List.mem_of_getElem? (i := 1200) (by decide +kernel)
theorem lk_RX5_18 : Cond.methodLinkNest RX5 18 yX0_init "NoteGate" ∈ lw_tbl := List.mem_of_getElem? (i := 158) (by decide +kernel)
theorem lk_RX5_47 : Cond.methodLinkNest RX5 47 yX3_init "NoteGate" ∈ lw_tbl := List.mem_of_getElem? (i := 263) (by decide +kernel)
theorem lk_RX4_33 : Cond.methodLinkNest RX4 33 yX5_isBrowser "NoteGate" ∈ lw_tbl := List.mem_of_getElem? (i := 401) (by decide +kernel)
theorem cl_RL_7 : Cond.classLink RL 7 RX5 ∈ lw_tbl := List.mem_of_getElem? (i := 58) (by decide +kernel)
theorem cl_RX5_7 : Cond.classLink RX5 7 RX2 ∈ lw_tbl := List.mem_of_getElem? (i := 66) (by decide +kernel)
theorem cl_RX5_16 : Cond.classLink RX5 16 RX0 ∈ lw_tbl := List.mem_of_getElem? (i := 156) (by decide +kernel)
theorem cl_RX5_23 : Cond.classLink RX5 23 RX4 ∈ lw_tbl := List.mem_of_getElem? (i := 179) (by decide +kernel)
theorem cl_RX5_32 : Cond.classLink RX5 32 RX1 ∈ lw_tbl := List.mem_of_getElem? (i := 195) (by decide +kernel)
theorem cl_RX1_11 : Cond.classLink RX1 11 RX4 ∈ lw_tbl := List.mem_of_getElem? (i := 201) (by decide +kernel)
theorem cl_RX5_41 : Cond.classLink RX5 41 RX3 ∈ lw_tbl := List.mem_of_getElem? (i := 260) (by decide +kernel)
theorem cl_RL_10 : Cond.classLink RL 10 RX6 ∈ lw_tbl := List.mem_of_getElem? (i := 820) (by decide +kernel)
theorem inst_X0 : Cond.instantiable RX0 4 ∈ lw_tbl := List.mem_of_getElem? (i := 157) (by decide +kernel)
theorem init_X0 : Cond.initialized RX0 ∈ lw_tbl := List.mem_of_getElem? (i := 51) (by decide +kernel)
theorem inst_X1 : Cond.instantiable RX1 18 ∈ lw_tbl := List.mem_of_getElem? (i := 196) (by decide +kernel)
theorem init_X1 : Cond.initialized RX1 ∈ lw_tbl := List.mem_of_getElem? (i := 53) (by decide +kernel)
theorem inst_X2 : Cond.instantiable RX2 17 ∈ lw_tbl := List.mem_of_getElem? (i := 67) (by decide +kernel)
theorem init_X2 : Cond.initialized RX2 ∈ lw_tbl := List.mem_of_getElem? (i := 49) (by decide +kernel)
theorem inst_X3 : Cond.instantiable RX3 3 ∈ lw_tbl := List.mem_of_getElem? (i := 262) (by decide +kernel)
theorem init_X3 : Cond.initialized RX3 ∈ lw_tbl := List.mem_of_getElem? (i := 54) (by decide +kernel)
theorem inst_X4 : Cond.instantiable RX4 3 ∈ lw_tbl := List.mem_of_getElem? (i := 180) (by decide +kernel)
theorem init_X4 : Cond.initialized RX4 ∈ lw_tbl := List.mem_of_getElem? (i := 52) (by decide +kernel)
theorem inst_X5 : Cond.instantiable RX5 7 ∈ lw_tbl := List.mem_of_getElem? (i := 59) (by decide +kernel)
theorem init_X5 : Cond.initialized RX5 ∈ lw_tbl := List.mem_of_getElem? (i := 48) (by decide +kernel)
theorem inst_X6 : Cond.instantiable RX6 28 ∈ lw_tbl := List.mem_of_getElem? (i := 821) (by decide +kernel)
theorem init_X6 : Cond.initialized RX6 ∈ lw_tbl := List.mem_of_getElem? (i := 55) (by decide +kernel)
theorem fl_RX2_9 : ng_fld RX2 9 2 0 := ⟨RX2, TX2, 17, rfl, okC_X2, by decide, List.mem_of_getElem? (i := 75) (by decide +kernel)⟩
theorem fs_RX2_9 : ng_fls RX2 9 2 0 .int false := ⟨RX2, TX2, 17, tyX2, rfl, okC_X2, by decide, List.mem_of_getElem? (i := 75) (by decide +kernel), tyX2_ok, nmX2, rfl, by decide +kernel, by decide⟩
theorem fl_RX5_60 : ng_fld RX5 60 2 0 := ⟨RX2, TX2, 17, rfl, okC_X2, by decide, List.mem_of_getElem? (i := 76) (by decide +kernel)⟩
theorem fs_RX5_60 : ng_fls RX5 60 2 0 .int false := ⟨RX2, TX2, 17, tyX2, rfl, okC_X2, by decide, List.mem_of_getElem? (i := 76) (by decide +kernel), tyX2_ok, nmX2, rfl, by decide +kernel, by decide⟩
theorem fl_RX4_102 : ng_fld RX4 102 2 0 := ⟨RX2, TX2, 17, rfl, okC_X2, by decide, List.mem_of_getElem? (i := 77) (by decide +kernel)⟩
theorem fs_RX4_102 : ng_fls RX4 102 2 0 .int false := ⟨RX2, TX2, 17, tyX2, rfl, okC_X2, by decide, List.mem_of_getElem? (i := 77) (by decide +kernel), tyX2_ok, nmX2, rfl, by decide +kernel, by decide⟩
theorem fl_RX2_15 : ng_fld RX2 15 2 1 := ⟨RX2, TX2, 17, rfl, okC_X2, by decide, List.mem_of_getElem? (i := 78) (by decide +kernel)⟩
theorem fs_RX2_15 : ng_fls RX2 15 2 1 .int false := ⟨RX2, TX2, 17, tyX2, rfl, okC_X2, by decide, List.mem_of_getElem? (i := 78) (by decide +kernel), tyX2_ok, nmX2, rfl, by decide +kernel, by decide⟩
theorem fl_RX5_63 : ng_fld RX5 63 2 1 := ⟨RX2, TX2, 17, rfl, okC_X2, by decide, List.mem_of_getElem? (i := 79) (by decide +kernel)⟩
theorem fs_RX5_63 : ng_fls RX5 63 2 1 .int false := ⟨RX2, TX2, 17, tyX2, rfl, okC_X2, by decide, List.mem_of_getElem? (i := 79) (by decide +kernel), tyX2_ok, nmX2, rfl, by decide +kernel, by decide⟩
theorem fl_RX4_108 : ng_fld RX4 108 2 1 := ⟨RX2, TX2, 17, rfl, okC_X2, by decide, List.mem_of_getElem? (i := 80) (by decide +kernel)⟩
theorem fs_RX4_108 : ng_fls RX4 108 2 1 .int false := ⟨RX2, TX2, 17, tyX2, rfl, okC_X2, by decide, List.mem_of_getElem? (i := 80) (by decide +kernel), tyX2_ok, nmX2, rfl, by decide +kernel, by decide⟩
theorem fl_RX2_18 : ng_fld RX2 18 2 2 := ⟨RX2, TX2, 17, rfl, okC_X2, by decide, List.mem_of_getElem? (i := 81) (by decide +kernel)⟩
theorem fs_RX2_18 : ng_fls RX2 18 2 2 .int false := ⟨RX2, TX2, 17, tyX2, rfl, okC_X2, by decide, List.mem_of_getElem? (i := 81) (by decide +kernel), tyX2_ok, nmX2, rfl, by decide +kernel, by decide⟩
theorem fl_RX5_66 : ng_fld RX5 66 2 2 := ⟨RX2, TX2, 17, rfl, okC_X2, by decide, List.mem_of_getElem? (i := 82) (by decide +kernel)⟩
theorem fs_RX5_66 : ng_fls RX5 66 2 2 .int false := ⟨RX2, TX2, 17, tyX2, rfl, okC_X2, by decide, List.mem_of_getElem? (i := 82) (by decide +kernel), tyX2_ok, nmX2, rfl, by decide +kernel, by decide⟩
theorem fl_RX4_151 : ng_fld RX4 151 2 2 := ⟨RX2, TX2, 17, rfl, okC_X2, by decide, List.mem_of_getElem? (i := 83) (by decide +kernel)⟩
theorem fs_RX4_151 : ng_fls RX4 151 2 2 .int false := ⟨RX2, TX2, 17, tyX2, rfl, okC_X2, by decide, List.mem_of_getElem? (i := 83) (by decide +kernel), tyX2_ok, nmX2, rfl, by decide +kernel, by decide⟩
theorem fl_RX2_21 : ng_fld RX2 21 2 3 := ⟨RX2, TX2, 17, rfl, okC_X2, by decide, List.mem_of_getElem? (i := 84) (by decide +kernel)⟩
theorem fs_RX2_21 : ng_fls RX2 21 2 3 .int false := ⟨RX2, TX2, 17, tyX2, rfl, okC_X2, by decide, List.mem_of_getElem? (i := 84) (by decide +kernel), tyX2_ok, nmX2, rfl, by decide +kernel, by decide⟩
theorem fl_RX5_69 : ng_fld RX5 69 2 3 := ⟨RX2, TX2, 17, rfl, okC_X2, by decide, List.mem_of_getElem? (i := 85) (by decide +kernel)⟩
theorem fs_RX5_69 : ng_fls RX5 69 2 3 .int false := ⟨RX2, TX2, 17, tyX2, rfl, okC_X2, by decide, List.mem_of_getElem? (i := 85) (by decide +kernel), tyX2_ok, nmX2, rfl, by decide +kernel, by decide⟩
theorem fl_RX4_169 : ng_fld RX4 169 2 3 := ⟨RX2, TX2, 17, rfl, okC_X2, by decide, List.mem_of_getElem? (i := 86) (by decide +kernel)⟩
theorem fs_RX4_169 : ng_fls RX4 169 2 3 .int false := ⟨RX2, TX2, 17, tyX2, rfl, okC_X2, by decide, List.mem_of_getElem? (i := 86) (by decide +kernel), tyX2_ok, nmX2, rfl, by decide +kernel, by decide⟩
theorem fl_RX2_24 : ng_fld RX2 24 2 4 := ⟨RX2, TX2, 17, rfl, okC_X2, by decide, List.mem_of_getElem? (i := 87) (by decide +kernel)⟩
theorem fs_RX2_24 : ng_fls RX2 24 2 4 .int false := ⟨RX2, TX2, 17, tyX2, rfl, okC_X2, by decide, List.mem_of_getElem? (i := 87) (by decide +kernel), tyX2_ok, nmX2, rfl, by decide +kernel, by decide⟩
theorem fl_RX5_72 : ng_fld RX5 72 2 4 := ⟨RX2, TX2, 17, rfl, okC_X2, by decide, List.mem_of_getElem? (i := 88) (by decide +kernel)⟩
theorem fs_RX5_72 : ng_fls RX5 72 2 4 .int false := ⟨RX2, TX2, 17, tyX2, rfl, okC_X2, by decide, List.mem_of_getElem? (i := 88) (by decide +kernel), tyX2_ok, nmX2, rfl, by decide +kernel, by decide⟩
theorem fl_RX4_154 : ng_fld RX4 154 2 4 := ⟨RX2, TX2, 17, rfl, okC_X2, by decide, List.mem_of_getElem? (i := 89) (by decide +kernel)⟩
theorem fs_RX4_154 : ng_fls RX4 154 2 4 .int false := ⟨RX2, TX2, 17, tyX2, rfl, okC_X2, by decide, List.mem_of_getElem? (i := 89) (by decide +kernel), tyX2_ok, nmX2, rfl, by decide +kernel, by decide⟩
theorem fl_RX2_27 : ng_fld RX2 27 2 5 := ⟨RX2, TX2, 17, rfl, okC_X2, by decide, List.mem_of_getElem? (i := 90) (by decide +kernel)⟩
theorem fs_RX2_27 : ng_fls RX2 27 2 5 .int false := ⟨RX2, TX2, 17, tyX2, rfl, okC_X2, by decide, List.mem_of_getElem? (i := 90) (by decide +kernel), tyX2_ok, nmX2, rfl, by decide +kernel, by decide⟩
theorem fl_RX5_75 : ng_fld RX5 75 2 5 := ⟨RX2, TX2, 17, rfl, okC_X2, by decide, List.mem_of_getElem? (i := 91) (by decide +kernel)⟩
theorem fs_RX5_75 : ng_fls RX5 75 2 5 .int false := ⟨RX2, TX2, 17, tyX2, rfl, okC_X2, by decide, List.mem_of_getElem? (i := 91) (by decide +kernel), tyX2_ok, nmX2, rfl, by decide +kernel, by decide⟩
theorem fl_RX4_175 : ng_fld RX4 175 2 5 := ⟨RX2, TX2, 17, rfl, okC_X2, by decide, List.mem_of_getElem? (i := 92) (by decide +kernel)⟩
theorem fs_RX4_175 : ng_fls RX4 175 2 5 .int false := ⟨RX2, TX2, 17, tyX2, rfl, okC_X2, by decide, List.mem_of_getElem? (i := 92) (by decide +kernel), tyX2_ok, nmX2, rfl, by decide +kernel, by decide⟩
theorem fl_RX2_30 : ng_fld RX2 30 2 6 := ⟨RX2, TX2, 17, rfl, okC_X2, by decide, List.mem_of_getElem? (i := 93) (by decide +kernel)⟩
theorem fs_RX2_30 : ng_fls RX2 30 2 6 .int false := ⟨RX2, TX2, 17, tyX2, rfl, okC_X2, by decide, List.mem_of_getElem? (i := 93) (by decide +kernel), tyX2_ok, nmX2, rfl, by decide +kernel, by decide⟩
theorem fl_RX5_78 : ng_fld RX5 78 2 6 := ⟨RX2, TX2, 17, rfl, okC_X2, by decide, List.mem_of_getElem? (i := 94) (by decide +kernel)⟩
theorem fs_RX5_78 : ng_fls RX5 78 2 6 .int false := ⟨RX2, TX2, 17, tyX2, rfl, okC_X2, by decide, List.mem_of_getElem? (i := 94) (by decide +kernel), tyX2_ok, nmX2, rfl, by decide +kernel, by decide⟩
theorem fl_RX4_160 : ng_fld RX4 160 2 6 := ⟨RX2, TX2, 17, rfl, okC_X2, by decide, List.mem_of_getElem? (i := 95) (by decide +kernel)⟩
theorem fs_RX4_160 : ng_fls RX4 160 2 6 .int false := ⟨RX2, TX2, 17, tyX2, rfl, okC_X2, by decide, List.mem_of_getElem? (i := 95) (by decide +kernel), tyX2_ok, nmX2, rfl, by decide +kernel, by decide⟩
theorem fl_RX2_33 : ng_fld RX2 33 2 7 := ⟨RX2, TX2, 17, rfl, okC_X2, by decide, List.mem_of_getElem? (i := 96) (by decide +kernel)⟩
theorem fs_RX2_33 : ng_fls RX2 33 2 7 .int false := ⟨RX2, TX2, 17, tyX2, rfl, okC_X2, by decide, List.mem_of_getElem? (i := 96) (by decide +kernel), tyX2_ok, nmX2, rfl, by decide +kernel, by decide⟩
theorem fl_RX5_81 : ng_fld RX5 81 2 7 := ⟨RX2, TX2, 17, rfl, okC_X2, by decide, List.mem_of_getElem? (i := 97) (by decide +kernel)⟩
theorem fs_RX5_81 : ng_fls RX5 81 2 7 .int false := ⟨RX2, TX2, 17, tyX2, rfl, okC_X2, by decide, List.mem_of_getElem? (i := 97) (by decide +kernel), tyX2_ok, nmX2, rfl, by decide +kernel, by decide⟩
theorem fl_RX2_36 : ng_fld RX2 36 2 8 := ⟨RX2, TX2, 17, rfl, okC_X2, by decide, List.mem_of_getElem? (i := 98) (by decide +kernel)⟩
theorem fs_RX2_36 : ng_fls RX2 36 2 8 .int false := ⟨RX2, TX2, 17, tyX2, rfl, okC_X2, by decide, List.mem_of_getElem? (i := 98) (by decide +kernel), tyX2_ok, nmX2, rfl, by decide +kernel, by decide⟩
theorem fl_RX5_106 : ng_fld RX5 106 2 8 := ⟨RX2, TX2, 17, rfl, okC_X2, by decide, List.mem_of_getElem? (i := 99) (by decide +kernel)⟩
theorem fs_RX5_106 : ng_fls RX5 106 2 8 .int false := ⟨RX2, TX2, 17, tyX2, rfl, okC_X2, by decide, List.mem_of_getElem? (i := 99) (by decide +kernel), tyX2_ok, nmX2, rfl, by decide +kernel, by decide⟩
theorem fl_RX4_51 : ng_fld RX4 51 2 8 := ⟨RX2, TX2, 17, rfl, okC_X2, by decide, List.mem_of_getElem? (i := 100) (by decide +kernel)⟩
theorem fs_RX4_51 : ng_fls RX4 51 2 8 .int false := ⟨RX2, TX2, 17, tyX2, rfl, okC_X2, by decide, List.mem_of_getElem? (i := 100) (by decide +kernel), tyX2_ok, nmX2, rfl, by decide +kernel, by decide⟩
theorem fl_RX2_39 : ng_fld RX2 39 2 9 := ⟨RX2, TX2, 17, rfl, okC_X2, by decide, List.mem_of_getElem? (i := 101) (by decide +kernel)⟩
theorem fs_RX2_39 : ng_fls RX2 39 2 9 .boolean false := ⟨RX2, TX2, 17, tyX2, rfl, okC_X2, by decide, List.mem_of_getElem? (i := 101) (by decide +kernel), tyX2_ok, nmX2, rfl, by decide +kernel, by decide⟩
theorem fl_RX5_102 : ng_fld RX5 102 2 9 := ⟨RX2, TX2, 17, rfl, okC_X2, by decide, List.mem_of_getElem? (i := 102) (by decide +kernel)⟩
theorem fs_RX5_102 : ng_fls RX5 102 2 9 .boolean false := ⟨RX2, TX2, 17, tyX2, rfl, okC_X2, by decide, List.mem_of_getElem? (i := 102) (by decide +kernel), tyX2_ok, nmX2, rfl, by decide +kernel, by decide⟩
theorem fl_RX4_88 : ng_fld RX4 88 2 9 := ⟨RX2, TX2, 17, rfl, okC_X2, by decide, List.mem_of_getElem? (i := 103) (by decide +kernel)⟩
theorem fs_RX4_88 : ng_fls RX4 88 2 9 .boolean false := ⟨RX2, TX2, 17, tyX2, rfl, okC_X2, by decide, List.mem_of_getElem? (i := 103) (by decide +kernel), tyX2_ok, nmX2, rfl, by decide +kernel, by decide⟩
theorem fl_RX2_43 : ng_fld RX2 43 2 10 := ⟨RX2, TX2, 17, rfl, okC_X2, by decide, List.mem_of_getElem? (i := 104) (by decide +kernel)⟩
theorem fs_RX2_43 : ng_fls RX2 43 2 10 .int false := ⟨RX2, TX2, 17, tyX2, rfl, okC_X2, by decide, List.mem_of_getElem? (i := 104) (by decide +kernel), tyX2_ok, nmX2, rfl, by decide +kernel, by decide⟩
theorem fl_RX5_84 : ng_fld RX5 84 2 10 := ⟨RX2, TX2, 17, rfl, okC_X2, by decide, List.mem_of_getElem? (i := 105) (by decide +kernel)⟩
theorem fs_RX5_84 : ng_fls RX5 84 2 10 .int false := ⟨RX2, TX2, 17, tyX2, rfl, okC_X2, by decide, List.mem_of_getElem? (i := 105) (by decide +kernel), tyX2_ok, nmX2, rfl, by decide +kernel, by decide⟩
theorem fl_RX2_46 : ng_fld RX2 46 2 11 := ⟨RX2, TX2, 17, rfl, okC_X2, by decide, List.mem_of_getElem? (i := 106) (by decide +kernel)⟩
theorem fs_RX2_46 : ng_fls RX2 46 2 11 .int false := ⟨RX2, TX2, 17, tyX2, rfl, okC_X2, by decide, List.mem_of_getElem? (i := 106) (by decide +kernel), tyX2_ok, nmX2, rfl, by decide +kernel, by decide⟩
theorem fl_RX5_99 : ng_fld RX5 99 2 11 := ⟨RX2, TX2, 17, rfl, okC_X2, by decide, List.mem_of_getElem? (i := 107) (by decide +kernel)⟩
theorem fs_RX5_99 : ng_fls RX5 99 2 11 .int false := ⟨RX2, TX2, 17, tyX2, rfl, okC_X2, by decide, List.mem_of_getElem? (i := 107) (by decide +kernel), tyX2_ok, nmX2, rfl, by decide +kernel, by decide⟩
theorem fl_RX2_49 : ng_fld RX2 49 2 12 := ⟨RX2, TX2, 17, rfl, okC_X2, by decide, List.mem_of_getElem? (i := 108) (by decide +kernel)⟩
theorem fs_RX2_49 : ng_fls RX2 49 2 12 .int false := ⟨RX2, TX2, 17, tyX2, rfl, okC_X2, by decide, List.mem_of_getElem? (i := 108) (by decide +kernel), tyX2_ok, nmX2, rfl, by decide +kernel, by decide⟩
theorem fl_RX2_52 : ng_fld RX2 52 2 13 := ⟨RX2, TX2, 17, rfl, okC_X2, by decide, List.mem_of_getElem? (i := 109) (by decide +kernel)⟩
theorem fs_RX2_52 : ng_fls RX2 52 2 13 .int false := ⟨RX2, TX2, 17, tyX2, rfl, okC_X2, by decide, List.mem_of_getElem? (i := 109) (by decide +kernel), tyX2_ok, nmX2, rfl, by decide +kernel, by decide⟩
theorem fl_RX4_40 : ng_fld RX4 40 2 13 := ⟨RX2, TX2, 17, rfl, okC_X2, by decide, List.mem_of_getElem? (i := 110) (by decide +kernel)⟩
theorem fs_RX4_40 : ng_fls RX4 40 2 13 .int false := ⟨RX2, TX2, 17, tyX2, rfl, okC_X2, by decide, List.mem_of_getElem? (i := 110) (by decide +kernel), tyX2_ok, nmX2, rfl, by decide +kernel, by decide⟩
theorem fl_RX2_55 : ng_fld RX2 55 2 14 := ⟨RX2, TX2, 17, rfl, okC_X2, by decide, List.mem_of_getElem? (i := 111) (by decide +kernel)⟩
theorem fs_RX2_55 : ng_fls RX2 55 2 14 (.array .int) true := ⟨RX2, TX2, 17, tyX2, rfl, okC_X2, by decide, List.mem_of_getElem? (i := 111) (by decide +kernel), tyX2_ok, nmX2, rfl, by decide +kernel, fun _ => rfl⟩
theorem fl_RX5_201 : ng_fld RX5 201 2 14 := ⟨RX2, TX2, 17, rfl, okC_X2, by decide, List.mem_of_getElem? (i := 112) (by decide +kernel)⟩
theorem fl_RX4_148 : ng_fld RX4 148 2 14 := ⟨RX2, TX2, 17, rfl, okC_X2, by decide, List.mem_of_getElem? (i := 113) (by decide +kernel)⟩
theorem fl_RX2_59 : ng_fld RX2 59 2 15 := ⟨RX2, TX2, 17, rfl, okC_X2, by decide, List.mem_of_getElem? (i := 114) (by decide +kernel)⟩
theorem fs_RX2_59 : ng_fls RX2 59 2 15 (.array .int) true := ⟨RX2, TX2, 17, tyX2, rfl, okC_X2, by decide, List.mem_of_getElem? (i := 114) (by decide +kernel), tyX2_ok, nmX2, rfl, by decide +kernel, fun _ => rfl⟩
theorem fl_RX5_207 : ng_fld RX5 207 2 15 := ⟨RX2, TX2, 17, rfl, okC_X2, by decide, List.mem_of_getElem? (i := 115) (by decide +kernel)⟩
theorem fl_RX4_163 : ng_fld RX4 163 2 15 := ⟨RX2, TX2, 17, rfl, okC_X2, by decide, List.mem_of_getElem? (i := 116) (by decide +kernel)⟩
theorem fl_RX2_62 : ng_fld RX2 62 2 16 := ⟨RX2, TX2, 17, rfl, okC_X2, by decide, List.mem_of_getElem? (i := 117) (by decide +kernel)⟩
theorem fs_RX2_62 : ng_fls RX2 62 2 16 (.array .int) true := ⟨RX2, TX2, 17, tyX2, rfl, okC_X2, by decide, List.mem_of_getElem? (i := 117) (by decide +kernel), tyX2_ok, nmX2, rfl, by decide +kernel, fun _ => rfl⟩
theorem fl_RX5_112 : ng_fld RX5 112 2 16 := ⟨RX2, TX2, 17, rfl, okC_X2, by decide, List.mem_of_getElem? (i := 118) (by decide +kernel)⟩
theorem fl_RX4_95 : ng_fld RX4 95 2 16 := ⟨RX2, TX2, 17, rfl, okC_X2, by decide, List.mem_of_getElem? (i := 119) (by decide +kernel)⟩
theorem fl_RX0_11 : ng_fld RX0 11 0 0 := ⟨RX0, TX0, 4, rfl, okC_X0, by decide, List.mem_of_getElem? (i := 162) (by decide +kernel)⟩
theorem fs_RX0_11 : ng_fls RX0 11 0 0 (.array .int) true := ⟨RX0, TX0, 4, tyX0, rfl, okC_X0, by decide, List.mem_of_getElem? (i := 162) (by decide +kernel), tyX0_ok, nmX0, rfl, by decide +kernel, fun _ => rfl⟩
theorem fl_RX0_15 : ng_fld RX0 15 0 1 := ⟨RX0, TX0, 4, rfl, okC_X0, by decide, List.mem_of_getElem? (i := 163) (by decide +kernel)⟩
theorem fs_RX0_15 : ng_fls RX0 15 0 1 .int false := ⟨RX0, TX0, 4, tyX0, rfl, okC_X0, by decide, List.mem_of_getElem? (i := 163) (by decide +kernel), tyX0_ok, nmX0, rfl, by decide +kernel, by decide⟩
theorem fl_RX5_216 : ng_fld RX5 216 0 1 := ⟨RX0, TX0, 4, rfl, okC_X0, by decide, List.mem_of_getElem? (i := 164) (by decide +kernel)⟩
theorem fs_RX5_216 : ng_fls RX5 216 0 1 .int false := ⟨RX0, TX0, 4, tyX0, rfl, okC_X0, by decide, List.mem_of_getElem? (i := 164) (by decide +kernel), tyX0_ok, nmX0, rfl, by decide +kernel, by decide⟩
theorem fl_RX0_19 : ng_fld RX0 19 0 2 := ⟨RX0, TX0, 4, rfl, okC_X0, by decide, List.mem_of_getElem? (i := 165) (by decide +kernel)⟩
theorem fs_RX0_19 : ng_fls RX0 19 0 2 .int false := ⟨RX0, TX0, 4, tyX0, rfl, okC_X0, by decide, List.mem_of_getElem? (i := 165) (by decide +kernel), tyX0_ok, nmX0, rfl, by decide +kernel, by decide⟩
theorem fl_RX5_231 : ng_fld RX5 231 0 2 := ⟨RX0, TX0, 4, rfl, okC_X0, by decide, List.mem_of_getElem? (i := 166) (by decide +kernel)⟩
theorem fs_RX5_231 : ng_fls RX5 231 0 2 .int false := ⟨RX0, TX0, 4, tyX0, rfl, okC_X0, by decide, List.mem_of_getElem? (i := 166) (by decide +kernel), tyX0_ok, nmX0, rfl, by decide +kernel, by decide⟩
theorem fl_RX0_22 : ng_fld RX0 22 0 3 := ⟨RX0, TX0, 4, rfl, okC_X0, by decide, List.mem_of_getElem? (i := 167) (by decide +kernel)⟩
theorem fs_RX0_22 : ng_fls RX0 22 0 3 .int false := ⟨RX0, TX0, 4, tyX0, rfl, okC_X0, by decide, List.mem_of_getElem? (i := 167) (by decide +kernel), tyX0_ok, nmX0, rfl, by decide +kernel, by decide⟩
theorem fl_RX4_46 : ng_fld RX4 46 0 3 := ⟨RX0, TX0, 4, rfl, okC_X0, by decide, List.mem_of_getElem? (i := 168) (by decide +kernel)⟩
theorem fs_RX4_46 : ng_fls RX4 46 0 3 .int false := ⟨RX0, TX0, 4, tyX0, rfl, okC_X0, by decide, List.mem_of_getElem? (i := 168) (by decide +kernel), tyX0_ok, nmX0, rfl, by decide +kernel, by decide⟩
theorem fl_RX5_234 : ng_fld RX5 234 0 3 := ⟨RX0, TX0, 4, rfl, okC_X0, by decide, List.mem_of_getElem? (i := 169) (by decide +kernel)⟩
theorem fs_RX5_234 : ng_fls RX5 234 0 3 .int false := ⟨RX0, TX0, 4, tyX0, rfl, okC_X0, by decide, List.mem_of_getElem? (i := 169) (by decide +kernel), tyX0_ok, nmX0, rfl, by decide +kernel, by decide⟩
theorem fl_RX4_11 : ng_fld RX4 11 4 0 := ⟨RX4, TX4, 3, rfl, okC_X4, by decide, List.mem_of_getElem? (i := 185) (by decide +kernel)⟩
theorem fs_RX4_11 : ng_fls RX4 11 4 0 (.array .int) true := ⟨RX4, TX4, 3, tyX4, rfl, okC_X4, by decide, List.mem_of_getElem? (i := 185) (by decide +kernel), tyX4_ok, nmX4, rfl, by decide +kernel, fun _ => rfl⟩
theorem fl_RX4_15 : ng_fld RX4 15 4 1 := ⟨RX4, TX4, 3, rfl, okC_X4, by decide, List.mem_of_getElem? (i := 186) (by decide +kernel)⟩
theorem fs_RX4_15 : ng_fls RX4 15 4 1 (.object "NoteGate$Setting") true := ⟨RX4, TX4, 3, tyX4, rfl, okC_X4, by decide, List.mem_of_getElem? (i := 186) (by decide +kernel), tyX4_ok, nmX4, rfl, by decide +kernel, fun _ => rfl⟩
theorem fl_RX4_19 : ng_fld RX4 19 4 2 := ⟨RX4, TX4, 3, rfl, okC_X4, by decide, List.mem_of_getElem? (i := 187) (by decide +kernel)⟩
theorem fs_RX4_19 : ng_fls RX4 19 4 2 (.object "NoteGate$Diary") true := ⟨RX4, TX4, 3, tyX4, rfl, okC_X4, by decide, List.mem_of_getElem? (i := 187) (by decide +kernel), tyX4_ok, nmX4, rfl, by decide +kernel, fun _ => rfl⟩
theorem fl_RX1_61 : ng_fld RX1 61 1 0 := ⟨RX1, TX1, 18, rfl, okC_X1, by decide, List.mem_of_getElem? (i := 204) (by decide +kernel)⟩
theorem fs_RX1_61 : ng_fls RX1 61 1 0 (.object "NoteGate$Setting") true := ⟨RX1, TX1, 18, tyX1, rfl, okC_X1, by decide, List.mem_of_getElem? (i := 204) (by decide +kernel), tyX1_ok, nmX1, rfl, by decide +kernel, fun _ => rfl⟩
theorem fl_RX1_65 : ng_fld RX1 65 1 1 := ⟨RX1, TX1, 18, rfl, okC_X1, by decide, List.mem_of_getElem? (i := 205) (by decide +kernel)⟩
theorem fs_RX1_65 : ng_fls RX1 65 1 1 (.object "NoteGate$World") true := ⟨RX1, TX1, 18, tyX1, rfl, okC_X1, by decide, List.mem_of_getElem? (i := 205) (by decide +kernel), tyX1_ok, nmX1, rfl, by decide +kernel, fun _ => rfl⟩
theorem fl_RX1_72 : ng_fld RX1 72 1 2 := ⟨RX1, TX1, 18, rfl, okC_X1, by decide, List.mem_of_getElem? (i := 206) (by decide +kernel)⟩
theorem fs_RX1_72 : ng_fls RX1 72 1 2 (.object "NoteGate$World") true := ⟨RX1, TX1, 18, tyX1, rfl, okC_X1, by decide, List.mem_of_getElem? (i := 206) (by decide +kernel), tyX1_ok, nmX1, rfl, by decide +kernel, fun _ => rfl⟩
theorem fl_RX1_13 : ng_fld RX1 13 1 3 := ⟨RX1, TX1, 18, rfl, okC_X1, by decide, List.mem_of_getElem? (i := 207) (by decide +kernel)⟩
theorem fs_RX1_13 : ng_fls RX1 13 1 3 (.array (.object "NoteGate$World")) true := ⟨RX1, TX1, 18, tyX1, rfl, okC_X1, by decide, List.mem_of_getElem? (i := 207) (by decide +kernel), tyX1_ok, nmX1, rfl, by decide +kernel, fun _ => rfl⟩
theorem fl_RX1_17 : ng_fld RX1 17 1 4 := ⟨RX1, TX1, 18, rfl, okC_X1, by decide, List.mem_of_getElem? (i := 208) (by decide +kernel)⟩
theorem fs_RX1_17 : ng_fls RX1 17 1 4 (.array .int) true := ⟨RX1, TX1, 18, tyX1, rfl, okC_X1, by decide, List.mem_of_getElem? (i := 208) (by decide +kernel), tyX1_ok, nmX1, rfl, by decide +kernel, fun _ => rfl⟩
theorem fl_RX1_21 : ng_fld RX1 21 1 5 := ⟨RX1, TX1, 18, rfl, okC_X1, by decide, List.mem_of_getElem? (i := 209) (by decide +kernel)⟩
theorem fs_RX1_21 : ng_fls RX1 21 1 5 (.array .int) true := ⟨RX1, TX1, 18, tyX1, rfl, okC_X1, by decide, List.mem_of_getElem? (i := 209) (by decide +kernel), tyX1_ok, nmX1, rfl, by decide +kernel, fun _ => rfl⟩
theorem fl_RX1_24 : ng_fld RX1 24 1 6 := ⟨RX1, TX1, 18, rfl, okC_X1, by decide, List.mem_of_getElem? (i := 210) (by decide +kernel)⟩
theorem fs_RX1_24 : ng_fls RX1 24 1 6 (.array .int) true := ⟨RX1, TX1, 18, tyX1, rfl, okC_X1, by decide, List.mem_of_getElem? (i := 210) (by decide +kernel), tyX1_ok, nmX1, rfl, by decide +kernel, fun _ => rfl⟩
theorem fl_RX1_27 : ng_fld RX1 27 1 7 := ⟨RX1, TX1, 18, rfl, okC_X1, by decide, List.mem_of_getElem? (i := 211) (by decide +kernel)⟩
theorem fs_RX1_27 : ng_fls RX1 27 1 7 (.array .int) true := ⟨RX1, TX1, 18, tyX1, rfl, okC_X1, by decide, List.mem_of_getElem? (i := 211) (by decide +kernel), tyX1_ok, nmX1, rfl, by decide +kernel, fun _ => rfl⟩
theorem fl_RX1_30 : ng_fld RX1 30 1 8 := ⟨RX1, TX1, 18, rfl, okC_X1, by decide, List.mem_of_getElem? (i := 212) (by decide +kernel)⟩
theorem fs_RX1_30 : ng_fls RX1 30 1 8 (.array .int) true := ⟨RX1, TX1, 18, tyX1, rfl, okC_X1, by decide, List.mem_of_getElem? (i := 212) (by decide +kernel), tyX1_ok, nmX1, rfl, by decide +kernel, fun _ => rfl⟩
theorem fl_RX1_33 : ng_fld RX1 33 1 9 := ⟨RX1, TX1, 18, rfl, okC_X1, by decide, List.mem_of_getElem? (i := 213) (by decide +kernel)⟩
theorem fs_RX1_33 : ng_fls RX1 33 1 9 .int false := ⟨RX1, TX1, 18, tyX1, rfl, okC_X1, by decide, List.mem_of_getElem? (i := 213) (by decide +kernel), tyX1_ok, nmX1, rfl, by decide +kernel, by decide⟩
theorem fl_RX1_37 : ng_fld RX1 37 1 10 := ⟨RX1, TX1, 18, rfl, okC_X1, by decide, List.mem_of_getElem? (i := 214) (by decide +kernel)⟩
theorem fs_RX1_37 : ng_fls RX1 37 1 10 .int false := ⟨RX1, TX1, 18, tyX1, rfl, okC_X1, by decide, List.mem_of_getElem? (i := 214) (by decide +kernel), tyX1_ok, nmX1, rfl, by decide +kernel, by decide⟩
theorem fl_RX1_40 : ng_fld RX1 40 1 11 := ⟨RX1, TX1, 18, rfl, okC_X1, by decide, List.mem_of_getElem? (i := 215) (by decide +kernel)⟩
theorem fs_RX1_40 : ng_fls RX1 40 1 11 .int false := ⟨RX1, TX1, 18, tyX1, rfl, okC_X1, by decide, List.mem_of_getElem? (i := 215) (by decide +kernel), tyX1_ok, nmX1, rfl, by decide +kernel, by decide⟩
theorem fl_RX1_43 : ng_fld RX1 43 1 12 := ⟨RX1, TX1, 18, rfl, okC_X1, by decide, List.mem_of_getElem? (i := 216) (by decide +kernel)⟩
theorem fs_RX1_43 : ng_fls RX1 43 1 12 .int false := ⟨RX1, TX1, 18, tyX1, rfl, okC_X1, by decide, List.mem_of_getElem? (i := 216) (by decide +kernel), tyX1_ok, nmX1, rfl, by decide +kernel, by decide⟩
theorem fl_RX1_46 : ng_fld RX1 46 1 13 := ⟨RX1, TX1, 18, rfl, okC_X1, by decide, List.mem_of_getElem? (i := 217) (by decide +kernel)⟩
theorem fs_RX1_46 : ng_fls RX1 46 1 13 .int false := ⟨RX1, TX1, 18, tyX1, rfl, okC_X1, by decide, List.mem_of_getElem? (i := 217) (by decide +kernel), tyX1_ok, nmX1, rfl, by decide +kernel, by decide⟩
theorem fl_RX1_49 : ng_fld RX1 49 1 14 := ⟨RX1, TX1, 18, rfl, okC_X1, by decide, List.mem_of_getElem? (i := 218) (by decide +kernel)⟩
theorem fs_RX1_49 : ng_fls RX1 49 1 14 .int false := ⟨RX1, TX1, 18, tyX1, rfl, okC_X1, by decide, List.mem_of_getElem? (i := 218) (by decide +kernel), tyX1_ok, nmX1, rfl, by decide +kernel, by decide⟩
theorem fl_RX1_52 : ng_fld RX1 52 1 15 := ⟨RX1, TX1, 18, rfl, okC_X1, by decide, List.mem_of_getElem? (i := 219) (by decide +kernel)⟩
theorem fs_RX1_52 : ng_fls RX1 52 1 15 .int false := ⟨RX1, TX1, 18, tyX1, rfl, okC_X1, by decide, List.mem_of_getElem? (i := 219) (by decide +kernel), tyX1_ok, nmX1, rfl, by decide +kernel, by decide⟩
theorem fl_RX1_55 : ng_fld RX1 55 1 16 := ⟨RX1, TX1, 18, rfl, okC_X1, by decide, List.mem_of_getElem? (i := 220) (by decide +kernel)⟩
theorem fs_RX1_55 : ng_fls RX1 55 1 16 .int false := ⟨RX1, TX1, 18, tyX1, rfl, okC_X1, by decide, List.mem_of_getElem? (i := 220) (by decide +kernel), tyX1_ok, nmX1, rfl, by decide +kernel, by decide⟩
theorem fl_RX1_58 : ng_fld RX1 58 1 17 := ⟨RX1, TX1, 18, rfl, okC_X1, by decide, List.mem_of_getElem? (i := 221) (by decide +kernel)⟩
theorem fs_RX1_58 : ng_fls RX1 58 1 17 .int false := ⟨RX1, TX1, 18, tyX1, rfl, okC_X1, by decide, List.mem_of_getElem? (i := 221) (by decide +kernel), tyX1_ok, nmX1, rfl, by decide +kernel, by decide⟩
theorem fl_RX5_237 : ng_fld RX5 237 1 17 := ⟨RX1, TX1, 18, rfl, okC_X1, by decide, List.mem_of_getElem? (i := 222) (by decide +kernel)⟩
theorem fs_RX5_237 : ng_fls RX5 237 1 17 .int false := ⟨RX1, TX1, 18, tyX1, rfl, okC_X1, by decide, List.mem_of_getElem? (i := 222) (by decide +kernel), tyX1_ok, nmX1, rfl, by decide +kernel, by decide⟩
theorem fl_RX3_9 : ng_fld RX3 9 3 0 := ⟨RX3, TX3, 3, rfl, okC_X3, by decide, List.mem_of_getElem? (i := 267) (by decide +kernel)⟩
theorem fs_RX3_9 : ng_fls RX3 9 3 0 (.array .long) true := ⟨RX3, TX3, 3, tyX3, rfl, okC_X3, by decide, List.mem_of_getElem? (i := 267) (by decide +kernel), tyX3_ok, nmX3, rfl, by decide +kernel, fun _ => rfl⟩
theorem fl_RX5_264 : ng_fld RX5 264 3 0 := ⟨RX3, TX3, 3, rfl, okC_X3, by decide, List.mem_of_getElem? (i := 268) (by decide +kernel)⟩
theorem fl_RX3_15 : ng_fld RX3 15 3 1 := ⟨RX3, TX3, 3, rfl, okC_X3, by decide, List.mem_of_getElem? (i := 269) (by decide +kernel)⟩
theorem fs_RX3_15 : ng_fls RX3 15 3 1 .int false := ⟨RX3, TX3, 3, tyX3, rfl, okC_X3, by decide, List.mem_of_getElem? (i := 269) (by decide +kernel), tyX3_ok, nmX3, rfl, by decide +kernel, by decide⟩
theorem fl_RX5_254 : ng_fld RX5 254 3 1 := ⟨RX3, TX3, 3, rfl, okC_X3, by decide, List.mem_of_getElem? (i := 270) (by decide +kernel)⟩
theorem fs_RX5_254 : ng_fls RX5 254 3 1 .int false := ⟨RX3, TX3, 3, tyX3, rfl, okC_X3, by decide, List.mem_of_getElem? (i := 270) (by decide +kernel), tyX3_ok, nmX3, rfl, by decide +kernel, by decide⟩
theorem fl_RX3_19 : ng_fld RX3 19 3 2 := ⟨RX3, TX3, 3, rfl, okC_X3, by decide, List.mem_of_getElem? (i := 271) (by decide +kernel)⟩
theorem fs_RX3_19 : ng_fls RX3 19 3 2 .int false := ⟨RX3, TX3, 3, tyX3, rfl, okC_X3, by decide, List.mem_of_getElem? (i := 271) (by decide +kernel), tyX3_ok, nmX3, rfl, by decide +kernel, by decide⟩
theorem fl_RX5_274 : ng_fld RX5 274 3 2 := ⟨RX3, TX3, 3, rfl, okC_X3, by decide, List.mem_of_getElem? (i := 272) (by decide +kernel)⟩
theorem fs_RX5_274 : ng_fls RX5 274 3 2 .int false := ⟨RX3, TX3, 3, tyX3, rfl, okC_X3, by decide, List.mem_of_getElem? (i := 272) (by decide +kernel), tyX3_ok, nmX3, rfl, by decide +kernel, by decide⟩
theorem fl_RX5_10 : ng_fld RX5 10 5 0 := ⟨RX5, TX5, 7, rfl, okC_X5, by decide, List.mem_of_getElem? (i := 281) (by decide +kernel)⟩
theorem fs_RX5_10 : ng_fls RX5 10 5 0 (.object "NoteGate$Setting") true := ⟨RX5, TX5, 7, tyX5, rfl, okC_X5, by decide, List.mem_of_getElem? (i := 281) (by decide +kernel), tyX5_ok, nmX5, rfl, by decide +kernel, fun _ => rfl⟩
theorem fl_RX5_19 : ng_fld RX5 19 5 1 := ⟨RX5, TX5, 7, rfl, okC_X5, by decide, List.mem_of_getElem? (i := 282) (by decide +kernel)⟩
theorem fs_RX5_19 : ng_fls RX5 19 5 1 (.object "NoteGate$Diary") true := ⟨RX5, TX5, 7, tyX5, rfl, okC_X5, by decide, List.mem_of_getElem? (i := 282) (by decide +kernel), tyX5_ok, nmX5, rfl, by decide +kernel, fun _ => rfl⟩
theorem fl_RX5_28 : ng_fld RX5 28 5 2 := ⟨RX5, TX5, 7, rfl, okC_X5, by decide, List.mem_of_getElem? (i := 283) (by decide +kernel)⟩
theorem fs_RX5_28 : ng_fls RX5 28 5 2 (.object "NoteGate$World") true := ⟨RX5, TX5, 7, tyX5, rfl, okC_X5, by decide, List.mem_of_getElem? (i := 283) (by decide +kernel), tyX5_ok, nmX5, rfl, by decide +kernel, fun _ => rfl⟩
theorem fl_RX5_37 : ng_fld RX5 37 5 3 := ⟨RX5, TX5, 7, rfl, okC_X5, by decide, List.mem_of_getElem? (i := 284) (by decide +kernel)⟩
theorem fs_RX5_37 : ng_fls RX5 37 5 3 (.object "NoteGate$Judge") true := ⟨RX5, TX5, 7, tyX5, rfl, okC_X5, by decide, List.mem_of_getElem? (i := 284) (by decide +kernel), tyX5_ok, nmX5, rfl, by decide +kernel, fun _ => rfl⟩
theorem fl_RX5_43 : ng_fld RX5 43 5 4 := ⟨RX5, TX5, 7, rfl, okC_X5, by decide, List.mem_of_getElem? (i := 285) (by decide +kernel)⟩
theorem fs_RX5_43 : ng_fls RX5 43 5 4 (.array (.object "NoteGate$Slot")) true := ⟨RX5, TX5, 7, tyX5, rfl, okC_X5, by decide, List.mem_of_getElem? (i := 285) (by decide +kernel), tyX5_ok, nmX5, rfl, by decide +kernel, fun _ => rfl⟩
theorem fl_RX5_48 : ng_fld RX5 48 5 5 := ⟨RX5, TX5, 7, rfl, okC_X5, by decide, List.mem_of_getElem? (i := 286) (by decide +kernel)⟩
theorem fs_RX5_48 : ng_fls RX5 48 5 5 (.array .int) true := ⟨RX5, TX5, 7, tyX5, rfl, okC_X5, by decide, List.mem_of_getElem? (i := 286) (by decide +kernel), tyX5_ok, nmX5, rfl, by decide +kernel, fun _ => rfl⟩
theorem fl_RX5_52 : ng_fld RX5 52 5 6 := ⟨RX5, TX5, 7, rfl, okC_X5, by decide, List.mem_of_getElem? (i := 287) (by decide +kernel)⟩
theorem fs_RX5_52 : ng_fls RX5 52 5 6 .int false := ⟨RX5, TX5, 7, tyX5, rfl, okC_X5, by decide, List.mem_of_getElem? (i := 287) (by decide +kernel), tyX5_ok, nmX5, rfl, by decide +kernel, by decide⟩
theorem fl_RX5_290 : Cond.fieldLink RX5 290 RX5 "NEEDS" "[I" ∈ lw_tbl := List.mem_of_getElem? (i := 799) (by decide +kernel)
theorem fl_RX6_64 : ng_fld RX6 64 6 0 := ⟨RX6, TX6, 28, rfl, okC_X6, by decide, List.mem_of_getElem? (i := 827) (by decide +kernel)⟩
theorem fs_RX6_64 : ng_fls RX6 64 6 0 .int false := ⟨RX6, TX6, 28, tyX6, rfl, okC_X6, by decide, List.mem_of_getElem? (i := 827) (by decide +kernel), tyX6_ok, nmX6, rfl, by decide +kernel, by decide⟩
theorem fl_RX6_9 : ng_fld RX6 9 6 1 := ⟨RX6, TX6, 28, rfl, okC_X6, by decide, List.mem_of_getElem? (i := 828) (by decide +kernel)⟩
theorem fs_RX6_9 : ng_fls RX6 9 6 1 (.array .int) true := ⟨RX6, TX6, 28, tyX6, rfl, okC_X6, by decide, List.mem_of_getElem? (i := 828) (by decide +kernel), tyX6_ok, nmX6, rfl, by decide +kernel, fun _ => rfl⟩
theorem fl_RX6_95 : ng_fld RX6 95 6 2 := ⟨RX6, TX6, 28, rfl, okC_X6, by decide, List.mem_of_getElem? (i := 829) (by decide +kernel)⟩
theorem fs_RX6_95 : ng_fls RX6 95 6 2 .boolean false := ⟨RX6, TX6, 28, tyX6, rfl, okC_X6, by decide, List.mem_of_getElem? (i := 829) (by decide +kernel), tyX6_ok, nmX6, rfl, by decide +kernel, by decide⟩
theorem fl_RX6_92 : ng_fld RX6 92 6 3 := ⟨RX6, TX6, 28, rfl, okC_X6, by decide, List.mem_of_getElem? (i := 830) (by decide +kernel)⟩
theorem fs_RX6_92 : ng_fls RX6 92 6 3 .int false := ⟨RX6, TX6, 28, tyX6, rfl, okC_X6, by decide, List.mem_of_getElem? (i := 830) (by decide +kernel), tyX6_ok, nmX6, rfl, by decide +kernel, by decide⟩
theorem fl_RX6_125 : ng_fld RX6 125 6 4 := ⟨RX6, TX6, 28, rfl, okC_X6, by decide, List.mem_of_getElem? (i := 831) (by decide +kernel)⟩
theorem fs_RX6_125 : ng_fls RX6 125 6 4 .int false := ⟨RX6, TX6, 28, tyX6, rfl, okC_X6, by decide, List.mem_of_getElem? (i := 831) (by decide +kernel), tyX6_ok, nmX6, rfl, by decide +kernel, by decide⟩
theorem fl_RX6_128 : ng_fld RX6 128 6 5 := ⟨RX6, TX6, 28, rfl, okC_X6, by decide, List.mem_of_getElem? (i := 832) (by decide +kernel)⟩
theorem fs_RX6_128 : ng_fls RX6 128 6 5 .int false := ⟨RX6, TX6, 28, tyX6, rfl, okC_X6, by decide, List.mem_of_getElem? (i := 832) (by decide +kernel), tyX6_ok, nmX6, rfl, by decide +kernel, by decide⟩
theorem fl_RX6_13 : ng_fld RX6 13 6 6 := ⟨RX6, TX6, 28, rfl, okC_X6, by decide, List.mem_of_getElem? (i := 833) (by decide +kernel)⟩
theorem fs_RX6_13 : ng_fls RX6 13 6 6 (.array .int) true := ⟨RX6, TX6, 28, tyX6, rfl, okC_X6, by decide, List.mem_of_getElem? (i := 833) (by decide +kernel), tyX6_ok, nmX6, rfl, by decide +kernel, fun _ => rfl⟩
theorem fl_RX6_17 : ng_fld RX6 17 6 7 := ⟨RX6, TX6, 28, rfl, okC_X6, by decide, List.mem_of_getElem? (i := 834) (by decide +kernel)⟩
theorem fs_RX6_17 : ng_fls RX6 17 6 7 (.array .int) true := ⟨RX6, TX6, 28, tyX6, rfl, okC_X6, by decide, List.mem_of_getElem? (i := 834) (by decide +kernel), tyX6_ok, nmX6, rfl, by decide +kernel, fun _ => rfl⟩
theorem fl_RX6_20 : ng_fld RX6 20 6 8 := ⟨RX6, TX6, 28, rfl, okC_X6, by decide, List.mem_of_getElem? (i := 835) (by decide +kernel)⟩
theorem fs_RX6_20 : ng_fls RX6 20 6 8 (.array .int) true := ⟨RX6, TX6, 28, tyX6, rfl, okC_X6, by decide, List.mem_of_getElem? (i := 835) (by decide +kernel), tyX6_ok, nmX6, rfl, by decide +kernel, fun _ => rfl⟩
theorem fl_RX6_23 : ng_fld RX6 23 6 9 := ⟨RX6, TX6, 28, rfl, okC_X6, by decide, List.mem_of_getElem? (i := 836) (by decide +kernel)⟩
theorem fs_RX6_23 : ng_fls RX6 23 6 9 (.array .int) true := ⟨RX6, TX6, 28, tyX6, rfl, okC_X6, by decide, List.mem_of_getElem? (i := 836) (by decide +kernel), tyX6_ok, nmX6, rfl, by decide +kernel, fun _ => rfl⟩
theorem fl_RX6_26 : ng_fld RX6 26 6 10 := ⟨RX6, TX6, 28, rfl, okC_X6, by decide, List.mem_of_getElem? (i := 837) (by decide +kernel)⟩
theorem fs_RX6_26 : ng_fls RX6 26 6 10 (.array .int) true := ⟨RX6, TX6, 28, tyX6, rfl, okC_X6, by decide, List.mem_of_getElem? (i := 837) (by decide +kernel), tyX6_ok, nmX6, rfl, by decide +kernel, fun _ => rfl⟩
theorem fl_RX6_29 : ng_fld RX6 29 6 11 := ⟨RX6, TX6, 28, rfl, okC_X6, by decide, List.mem_of_getElem? (i := 838) (by decide +kernel)⟩
theorem fs_RX6_29 : ng_fls RX6 29 6 11 (.array .int) true := ⟨RX6, TX6, 28, tyX6, rfl, okC_X6, by decide, List.mem_of_getElem? (i := 838) (by decide +kernel), tyX6_ok, nmX6, rfl, by decide +kernel, fun _ => rfl⟩
theorem fl_RX6_32 : ng_fld RX6 32 6 12 := ⟨RX6, TX6, 28, rfl, okC_X6, by decide, List.mem_of_getElem? (i := 839) (by decide +kernel)⟩
theorem fs_RX6_32 : ng_fls RX6 32 6 12 (.array .int) true := ⟨RX6, TX6, 28, tyX6, rfl, okC_X6, by decide, List.mem_of_getElem? (i := 839) (by decide +kernel), tyX6_ok, nmX6, rfl, by decide +kernel, fun _ => rfl⟩
theorem fl_RX6_35 : ng_fld RX6 35 6 13 := ⟨RX6, TX6, 28, rfl, okC_X6, by decide, List.mem_of_getElem? (i := 840) (by decide +kernel)⟩
theorem fs_RX6_35 : ng_fls RX6 35 6 13 (.array .int) true := ⟨RX6, TX6, 28, tyX6, rfl, okC_X6, by decide, List.mem_of_getElem? (i := 840) (by decide +kernel), tyX6_ok, nmX6, rfl, by decide +kernel, fun _ => rfl⟩
theorem fl_RX6_38 : ng_fld RX6 38 6 14 := ⟨RX6, TX6, 28, rfl, okC_X6, by decide, List.mem_of_getElem? (i := 841) (by decide +kernel)⟩
theorem fs_RX6_38 : ng_fls RX6 38 6 14 (.array .int) true := ⟨RX6, TX6, 28, tyX6, rfl, okC_X6, by decide, List.mem_of_getElem? (i := 841) (by decide +kernel), tyX6_ok, nmX6, rfl, by decide +kernel, fun _ => rfl⟩
theorem fl_RX6_179 : ng_fld RX6 179 6 15 := ⟨RX6, TX6, 28, rfl, okC_X6, by decide, List.mem_of_getElem? (i := 842) (by decide +kernel)⟩
theorem fs_RX6_179 : ng_fls RX6 179 6 15 .int false := ⟨RX6, TX6, 28, tyX6, rfl, okC_X6, by decide, List.mem_of_getElem? (i := 842) (by decide +kernel), tyX6_ok, nmX6, rfl, by decide +kernel, by decide⟩
theorem fl_RX6_217 : ng_fld RX6 217 6 16 := ⟨RX6, TX6, 28, rfl, okC_X6, by decide, List.mem_of_getElem? (i := 843) (by decide +kernel)⟩
theorem fs_RX6_217 : ng_fls RX6 217 6 16 .int false := ⟨RX6, TX6, 28, tyX6, rfl, okC_X6, by decide, List.mem_of_getElem? (i := 843) (by decide +kernel), tyX6_ok, nmX6, rfl, by decide +kernel, by decide⟩
theorem fl_RX6_220 : ng_fld RX6 220 6 17 := ⟨RX6, TX6, 28, rfl, okC_X6, by decide, List.mem_of_getElem? (i := 844) (by decide +kernel)⟩
theorem fs_RX6_220 : ng_fls RX6 220 6 17 .int false := ⟨RX6, TX6, 28, tyX6, rfl, okC_X6, by decide, List.mem_of_getElem? (i := 844) (by decide +kernel), tyX6_ok, nmX6, rfl, by decide +kernel, by decide⟩
theorem fl_RX6_41 : ng_fld RX6 41 6 18 := ⟨RX6, TX6, 28, rfl, okC_X6, by decide, List.mem_of_getElem? (i := 845) (by decide +kernel)⟩
theorem fs_RX6_41 : ng_fls RX6 41 6 18 (.array .int) true := ⟨RX6, TX6, 28, tyX6, rfl, okC_X6, by decide, List.mem_of_getElem? (i := 845) (by decide +kernel), tyX6_ok, nmX6, rfl, by decide +kernel, fun _ => rfl⟩
theorem fl_RX6_44 : ng_fld RX6 44 6 19 := ⟨RX6, TX6, 28, rfl, okC_X6, by decide, List.mem_of_getElem? (i := 846) (by decide +kernel)⟩
theorem fs_RX6_44 : ng_fls RX6 44 6 19 (.array .int) true := ⟨RX6, TX6, 28, tyX6, rfl, okC_X6, by decide, List.mem_of_getElem? (i := 846) (by decide +kernel), tyX6_ok, nmX6, rfl, by decide +kernel, fun _ => rfl⟩
theorem fl_RX6_47 : ng_fld RX6 47 6 20 := ⟨RX6, TX6, 28, rfl, okC_X6, by decide, List.mem_of_getElem? (i := 847) (by decide +kernel)⟩
theorem fs_RX6_47 : ng_fls RX6 47 6 20 (.array .int) true := ⟨RX6, TX6, 28, tyX6, rfl, okC_X6, by decide, List.mem_of_getElem? (i := 847) (by decide +kernel), tyX6_ok, nmX6, rfl, by decide +kernel, fun _ => rfl⟩
theorem fl_RX6_50 : ng_fld RX6 50 6 21 := ⟨RX6, TX6, 28, rfl, okC_X6, by decide, List.mem_of_getElem? (i := 848) (by decide +kernel)⟩
theorem fs_RX6_50 : ng_fls RX6 50 6 21 (.array .long) true := ⟨RX6, TX6, 28, tyX6, rfl, okC_X6, by decide, List.mem_of_getElem? (i := 848) (by decide +kernel), tyX6_ok, nmX6, rfl, by decide +kernel, fun _ => rfl⟩
theorem fl_RX6_54 : ng_fld RX6 54 6 22 := ⟨RX6, TX6, 28, rfl, okC_X6, by decide, List.mem_of_getElem? (i := 849) (by decide +kernel)⟩
theorem fs_RX6_54 : ng_fls RX6 54 6 22 (.array .long) true := ⟨RX6, TX6, 28, tyX6, rfl, okC_X6, by decide, List.mem_of_getElem? (i := 849) (by decide +kernel), tyX6_ok, nmX6, rfl, by decide +kernel, fun _ => rfl⟩
theorem fl_RX6_57 : ng_fld RX6 57 6 23 := ⟨RX6, TX6, 28, rfl, okC_X6, by decide, List.mem_of_getElem? (i := 850) (by decide +kernel)⟩
theorem fs_RX6_57 : ng_fls RX6 57 6 23 .int false := ⟨RX6, TX6, 28, tyX6, rfl, okC_X6, by decide, List.mem_of_getElem? (i := 850) (by decide +kernel), tyX6_ok, nmX6, rfl, by decide +kernel, by decide⟩
theorem fl_RX6_176 : ng_fld RX6 176 6 24 := ⟨RX6, TX6, 28, rfl, okC_X6, by decide, List.mem_of_getElem? (i := 851) (by decide +kernel)⟩
theorem fs_RX6_176 : ng_fls RX6 176 6 24 .boolean false := ⟨RX6, TX6, 28, tyX6, rfl, okC_X6, by decide, List.mem_of_getElem? (i := 851) (by decide +kernel), tyX6_ok, nmX6, rfl, by decide +kernel, by decide⟩
theorem fl_RX6_203 : ng_fld RX6 203 6 25 := ⟨RX6, TX6, 28, rfl, okC_X6, by decide, List.mem_of_getElem? (i := 852) (by decide +kernel)⟩
theorem fs_RX6_203 : ng_fls RX6 203 6 25 .int false := ⟨RX6, TX6, 28, tyX6, rfl, okC_X6, by decide, List.mem_of_getElem? (i := 852) (by decide +kernel), tyX6_ok, nmX6, rfl, by decide +kernel, by decide⟩
theorem fl_RX6_186 : ng_fld RX6 186 6 26 := ⟨RX6, TX6, 28, rfl, okC_X6, by decide, List.mem_of_getElem? (i := 853) (by decide +kernel)⟩
theorem fs_RX6_186 : ng_fls RX6 186 6 26 .int false := ⟨RX6, TX6, 28, tyX6, rfl, okC_X6, by decide, List.mem_of_getElem? (i := 853) (by decide +kernel), tyX6_ok, nmX6, rfl, by decide +kernel, by decide⟩
theorem fl_RX6_61 : ng_fld RX6 61 6 27 := ⟨RX6, TX6, 28, rfl, okC_X6, by decide, List.mem_of_getElem? (i := 854) (by decide +kernel)⟩
theorem fs_RX6_61 : ng_fls RX6 61 6 27 (.array .int) true := ⟨RX6, TX6, 28, tyX6, rfl, okC_X6, by decide, List.mem_of_getElem? (i := 854) (by decide +kernel), tyX6_ok, nmX6, rfl, by decide +kernel, fun _ => rfl⟩
theorem fl_RX6_260 : Cond.fieldLink RX6 260 RX6 "NEEDS" "[I" ∈ lw_tbl := List.mem_of_getElem? (i := 1183) (by decide +kernel)
theorem arr_I : Cond.arrayClass .int ∈ lw_tbl := List.mem_of_getElem? (i := 155) (by decide +kernel)
theorem arr_J : Cond.arrayClass .long ∈ lw_tbl := List.mem_of_getElem? (i := 280) (by decide +kernel)
theorem kc_RX6_16 : Cond.constant RX6 16 158100 ∈ lw_tbl := List.mem_of_getElem? (i := 826) (by decide +kernel)
theorem kc_RX6_258 : Cond.constantLong RX6 258 7 ∈ lw_tbl := List.mem_of_getElem? (i := 1182) (by decide +kernel)
theorem kc_RL_151 : Cond.constantLong RL 151 4294967295 ∈ lw_tbl := List.mem_of_getElem? (i := 1204) (by decide +kernel)
