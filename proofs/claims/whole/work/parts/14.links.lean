theorem pl_RJ0 : plainName RJ0 = true := by decide +kernel
theorem pl_RJ1 : plainName RJ1 = true := by decide +kernel
theorem pl_RJ3 : plainName RJ3 = true := by decide +kernel
theorem pl_RJ6 : plainName RJ6 = true := by decide +kernel
theorem pl_RJ7 : plainName RJ7 = true := by decide +kernel
theorem pl_RX0 : plainName RX0 = true := by decide +kernel
theorem pl_RX1 : plainName RX1 = true := by decide +kernel
theorem pl_RX2 : plainName RX2 = true := by decide +kernel
theorem pl_RX3 : plainName RX3 = true := by decide +kernel
theorem pl_RX4 : plainName RX4 = true := by decide +kernel
theorem pl_RX5 : plainName RX5 = true := by decide +kernel
theorem pl_RX6 : plainName RX6 = true := by decide +kernel
theorem pl_RX7 : plainName RX7 = true := by decide +kernel
theorem pl_RX8 : plainName RX8 = true := by decide +kernel
def mJ0_isLatin1_aae02 : Mi := (yJ0_isLatin1_aae02, cJ0_isLatin1_aae02, 1, (some .boolean))
def mJ3_checkIndex_8e157 : Mi := (yJ3_checkIndex_8e157, cJ3_checkIndex_8e157, 3, (some .int))
def mJ0_checkIndex_df160 : Mi := (yJ0_checkIndex_df160, cJ0_checkIndex_df160, 2, none)
def mJ1_charAt_3b067 : Mi := (yJ1_charAt_3b067, cJ1_charAt_3b067, 2, (some .char))
def mJ0_charAt_5068e : Mi := (yJ0_charAt_5068e, cJ0_charAt_5068e, 2, (some .char))
def mJ0_coder_7d493 : Mi := (yJ0_coder_7d493, cJ0_coder_7d493, 1, (some .byte))
def mJ0_length_8abf5 : Mi := (yJ0_length_8abf5, cJ0_length_8abf5, 1, (some .int))
def mJ6_bitCount_0f7a4 : Mi := (yJ6_bitCount_0f7a4, cJ6_bitCount_0f7a4, 1, (some .int))
def mJ7_fill_53178 : Mi := (yJ7_fill_53178, cJ7_fill_53178, 4, none)
def mJ7_fill_d0a16 : Mi := (yJ7_fill_d0a16, cJ7_fill_d0a16, 5, none)
def mX2_start : Mi := (yX2_start, cX2_start, 3, none)
def mX0_addGarment : Mi := (yX0_addGarment, cX0_addGarment, 3, (some .int))
def mX4_start : Mi := (yX4_start, cX4_start, 2, none)
def mX0_addPerson : Mi := (yX0_addPerson, cX0_addPerson, 2, (some .int))
def mX2_countHabits : Mi := (yX2_countHabits, cX2_countHabits, 3, (some .int))
def mX0_countHabits : Mi := (yX0_countHabits, cX0_countHabits, 3, (some .int))
def mX0_wornBy : Mi := (yX0_wornBy, cX0_wornBy, 4, (some .int))
def mX0_countWorn : Mi := (yX0_countWorn, cX0_countWorn, 1, (some .int))
def mX0_pullOf : Mi := (yX0_pullOf, cX0_pullOf, 8, (some .int))
def mX0_deedIn : Mi := (yX0_deedIn, cX0_deedIn, 9, (some .int))
def mX7_isWithin : Mi := (yX7_isWithin, cX7_isWithin, 3, (some .boolean))
def mX0_hasPerson : Mi := (yX0_hasPerson, cX0_hasPerson, 2, (some .boolean))
def mX2_accustom : Mi := (yX2_accustom, cX2_accustom, 4, none)
def mX2_learnsOnce : Mi := (yX2_learnsOnce, cX2_learnsOnce, 1, (some .boolean))
def mX2_step : Mi := (yX2_step, cX2_step, 1, (some .int))
def mX2_learn : Mi := (yX2_learn, cX2_learn, 4, (some .boolean))
def mX0_passHour : Mi := (yX0_passHour, cX0_passHour, 5, (some .boolean))
def mX0_daysTillSettled : Mi := (yX0_daysTillSettled, cX0_daysTillSettled, 3, (some .int))
def mX0_deedOf : Mi := (yX0_deedOf, cX0_deedOf, 3, (some .int))
def mX0_doesAllOwn : Mi := (yX0_doesAllOwn, cX0_doesAllOwn, 5, (some .boolean))
def mX0_draw : Mi := (yX0_draw, cX0_draw, 2, (some .int))
def mX0_fewestOff : Mi := (yX0_fewestOff, cX0_fewestOff, 5, (some .int))
def mX0_habitsPatched : Mi := (yX0_habitsPatched, cX0_habitsPatched, 5, (some .int))
def mX0_hasGarment : Mi := (yX0_hasGarment, cX0_hasGarment, 2, (some .boolean))
def mX0_hoursInStrife : Mi := (yX0_hoursInStrife, cX0_hoursInStrife, 7, (some .int))
def mX2_canGo : Mi := (yX2_canGo, cX2_canGo, 1, (some .boolean))
def mX0_wouldGo : Mi := (yX0_wouldGo, cX0_wouldGo, 3, (some .boolean))
def mX0_hoursToGo : Mi := (yX0_hoursToGo, cX0_hoursToGo, 4, (some .int))
def mX2_init : Mi := (yX2_init, cX2_init, 1, none)
def mX4_init : Mi := (yX4_init, cX4_init, 1, none)
def mX0_init : Mi := (yX0_init, cX0_init, 2, none)
def mX0_isFullOfGarments : Mi := (yX0_isFullOfGarments, cX0_isFullOfGarments, 1, (some .boolean))
def mX0_isFullOfPeople : Mi := (yX0_isFullOfPeople, cX0_isFullOfPeople, 1, (some .boolean))
def mX0_isGoing : Mi := (yX0_isGoing, cX0_isGoing, 3, (some .boolean))
def mX0_leastWill : Mi := (yX0_leastWill, cX0_leastWill, 4, (some .int))
def mX0_likeness : Mi := (yX0_likeness, cX0_likeness, 6, (some .int))
def mX0_mostLike : Mi := (yX0_mostLike, cX0_mostLike, 6, (some .int))
def mX0_passDay : Mi := (yX0_passDay, cX0_passDay, 4, (some .int))
def mX2_launder : Mi := (yX2_launder, cX2_launder, 3, none)
def mX0_passYear : Mi := (yX0_passYear, cX0_passYear, 3, none)
def mX2_take : Mi := (yX2_take, cX2_take, 2, none)
def mX4_take : Mi := (yX4_take, cX4_take, 2, none)
def mX0_take : Mi := (yX0_take, cX0_take, 3, none)
def mX0_unlikeDeeds : Mi := (yX0_unlikeDeeds, cX0_unlikeDeeds, 4, (some .int))
def mX1_advance : Mi := (yX1_advance, cX1_advance, 4, (some .boolean))
def mX1_init : Mi := (yX1_init, cX1_init, 1, none)
def mX6_intAt : Mi := (yX6_intAt, cX6_intAt, 2, (some .int))
def mX1_scoreLoad : Mi := (yX1_scoreLoad, cX1_scoreLoad, 7, (some .int))
def mX1_scoreLoads : Mi := (yX1_scoreLoads, cX1_scoreLoads, 8, none)
def mX1_scoreWay : Mi := (yX1_scoreWay, cX1_scoreWay, 5, (some .int))
def mX1_search : Mi := (yX1_search, cX1_search, 7, none)
def mX2_hasLearnt : Mi := (yX2_hasLearnt, cX2_hasLearnt, 4, (some .boolean))
def mX2_isA : Mi := (yX2_isA, cX2_isA, 4, (some .boolean))
def mX2_learnDay : Mi := (yX2_learnDay, cX2_learnDay, 3, none)
def mX3_bodyAt : Mi := (yX3_bodyAt, cX3_bodyAt, 2, (some .int))
def mX3_forget : Mi := (yX3_forget, cX3_forget, 1, none)
def mX3_init : Mi := (yX3_init, cX3_init, 1, none)
def mX3_note : Mi := (yX3_note, cX3_note, 2, none)
def mX3_run : Mi := (yX3_run, cX3_run, 8, (some .int))
def mX3_make : Mi := (yX3_make, cX3_make, 5, (some .int))
def mX5_highest : Mi := (yX5_highest, cX5_highest, 2, (some .int))
def mX5_init : Mi := (yX5_init, cX5_init, 1, none)
def mX5_isDigitSign : Mi := (yX5_isDigitSign, cX5_isDigitSign, 2, (some .boolean))
def mX5_takeDigit : Mi := (yX5_takeDigit, cX5_takeDigit, 2, (some .int))
def mX5_readNumber : Mi := (yX5_readNumber, cX5_readNumber, 5, (some .int))
def mX5_readSign : Mi := (yX5_readSign, cX5_readSign, 2, (some .boolean))
def mX5_readNumbers : Mi := (yX5_readNumbers, cX5_readNumbers, 4, (some .boolean))
def mX5_spelling : Mi := (yX5_spelling, cX5_spelling, 1, (some (.object "java/lang/String")))
def mX5_wordEndingBehind : Mi := (yX5_wordEndingBehind, cX5_wordEndingBehind, 3, (some .int))
def mX5_wordsGoingOn : Mi := (yX5_wordsGoingOn, cX5_wordsGoingOn, 6, (some .int))
def mX5_readWord : Mi := (yX5_readWord, cX5_readWord, 4, (some .int))
def mX5_readItem : Mi := (yX5_readItem, cX5_readItem, 3, (some .int))
def mX5_tell : Mi := (yX5_tell, cX5_tell, 2, none)
def mX5_read : Mi := (yX5_read, cX5_read, 6, (some .int))
def mX6_at : Mi := (yX6_at, cX6_at, 2, (some .long))
def mX6_holdGarment : Mi := (yX6_holdGarment, cX6_holdGarment, 2, none)
def mX6_holdNothing : Mi := (yX6_holdNothing, cX6_holdNothing, 1, none)
def mX6_holdRow : Mi := (yX6_holdRow, cX6_holdRow, 3, none)
def mX6_holdsGarment : Mi := (yX6_holdsGarment, cX6_holdsGarment, 1, (some .boolean))
def mX6_holdsNothing : Mi := (yX6_holdsNothing, cX6_holdsNothing, 1, (some .boolean))
def mX6_holdsRow : Mi := (yX6_holdsRow, cX6_holdsRow, 1, (some .boolean))
def mX6_init : Mi := (yX6_init, cX6_init, 1, none)
def mX6_isOfOtherSort : Mi := (yX6_isOfOtherSort, cX6_isOfOtherSort, 2, (some .boolean))
def mX6_put : Mi := (yX6_put, cX6_put, 4, none)
def mX6_spans : Mi := (yX6_spans, cX6_spans, 3, (some .boolean))
def mX7_isDigit : Mi := (yX7_isDigit, cX7_isDigit, 1, (some .boolean))
def mX6_tellsDeedsAlone : Mi := (yX6_tellsDeedsAlone, cX6_tellsDeedsAlone, 2, (some .boolean))
def mX7_act : Mi := (yX7_act, cX7_act, 4, (some .int))
def mX7_isHour : Mi := (yX7_isHour, cX7_isHour, 1, (some .boolean))
def mX7_refuse : Mi := (yX7_refuse, cX7_refuse, 2, (some .int))
def mX7_alone : Mi := (yX7_alone, cX7_alone, 4, (some .int))
def mX7_areDaysAndHour : Mi := (yX7_areDaysAndHour, cX7_areDaysAndHour, 2, (some .boolean))
def mX7_tryDays : Mi := (yX7_tryDays, cX7_tryDays, 5, none)
def mX7_behind : Mi := (yX7_behind, cX7_behind, 6, (some .int))
def mX7_isShelf : Mi := (yX7_isShelf, cX7_isShelf, 1, (some .boolean))
def mX7_copy : Mi := (yX7_copy, cX7_copy, 8, (some .int))
def mX7_refuseLower : Mi := (yX7_refuseLower, cX7_refuseLower, 2, (some .int))
def mX7_cure : Mi := (yX7_cure, cX7_cure, 3, (some .int))
def mX7_days : Mi := (yX7_days, cX7_days, 4, (some .int))
def mX7_does : Mi := (yX7_does, cX7_does, 4, (some .int))
def mX7_rowTrouble : Mi := (yX7_rowTrouble, cX7_rowTrouble, 2, (some .int))
def mX7_dressed : Mi := (yX7_dressed, cX7_dressed, 6, (some .int))
def mX7_element : Mi := (yX7_element, cX7_element, 3, (some .long))
def mX7_fault : Mi := (yX7_fault, cX7_fault, 1, (some .int))
def mX7_isFitting : Mi := (yX7_isFitting, cX7_isFitting, 5, (some .boolean))
def mX7_toldDayTrouble : Mi := (yX7_toldDayTrouble, cX7_toldDayTrouble, 3, (some .int))
def mX7_fits : Mi := (yX7_fits, cX7_fits, 5, (some .int))
def mX7_isKind : Mi := (yX7_isKind, cX7_isKind, 1, (some .boolean))
def mX7_garment : Mi := (yX7_garment, cX7_garment, 3, (some .int))
def mX7_garmentOf : Mi := (yX7_garmentOf, cX7_garmentOf, 4, (some .int))
def mX7_goes : Mi := (yX7_goes, cX7_goes, 4, (some .int))
def mX7_habit : Mi := (yX7_habit, cX7_habit, 6, (some .int))
def mX7_holds : Mi := (yX7_holds, cX7_holds, 2, (some .int))
def mX7_home : Mi := (yX7_home, cX7_home, 4, (some .int))
def mX7_image : Mi := (yX7_image, cX7_image, 1, (some .int))
def mX7_init : Mi := (yX7_init, cX7_init, 2, none)
def mX7_judge : Mi := (yX7_judge, cX7_judge, 5, (some .int))
def mX7_kept : Mi := (yX7_kept, cX7_kept, 4, (some .int))
def mX7_like : Mi := (yX7_like, cX7_like, 3, (some .int))
def mX7_own : Mi := (yX7_own, cX7_own, 5, (some .int))
def mX7_person : Mi := (yX7_person, cX7_person, 2, (some .int))
def mX7_personOf : Mi := (yX7_personOf, cX7_personOf, 3, (some .int))
def mX7_restore : Mi := (yX7_restore, cX7_restore, 2, (some .int))
def mX7_row : Mi := (yX7_row, cX7_row, 4, (some .int))
def mX7_saying : Mi := (yX7_saying, cX7_saying, 4, (some .int))
def mX7_says : Mi := (yX7_says, cX7_says, 4, (some .int))
def mX7_seed : Mi := (yX7_seed, cX7_seed, 3, (some .int))
def mX7_set : Mi := (yX7_set, cX7_set, 6, (some .int))
def mX7_settled : Mi := (yX7_settled, cX7_settled, 4, (some .int))
def mX7_show : Mi := (yX7_show, cX7_show, 3, (some .int))
def mX7_status : Mi := (yX7_status, cX7_status, 2, (some .int))
def mX7_taught : Mi := (yX7_taught, cX7_taught, 5, (some .int))
def mX7_trace : Mi := (yX7_trace, cX7_trace, 2, (some .int))
def mX7_two : Mi := (yX7_two, cX7_two, 4, (some .int))
def mX7_wardrobe : Mi := (yX7_wardrobe, cX7_wardrobe, 4, (some .int))
def mX7_wash : Mi := (yX7_wash, cX7_wash, 2, (some .int))
def mX7_washed : Mi := (yX7_washed, cX7_washed, 4, (some .int))
def mX7_watch : Mi := (yX7_watch, cX7_watch, 5, (some .int))
def mX7_wear : Mi := (yX7_wear, cX7_wear, 4, (some .int))
def mX7_whose : Mi := (yX7_whose, cX7_whose, 2, (some .int))
def mX7_will : Mi := (yX7_will, cX7_will, 4, (some .int))
def mX7_wins : Mi := (yX7_wins, cX7_wins, 4, (some .int))
def mX7_years : Mi := (yX7_years, cX7_years, 3, (some .int))
def mX8_above : Mi := (yX8_above, cX8_above, 1, (some .int))
def mX8_ran : Mi := (yX8_ran, cX8_ran, 2, none)
def mX8_sitsBy : Mi := (yX8_sitsBy, cX8_sitsBy, 5, (some .int))
def mX8_pullsBy : Mi := (yX8_pullsBy, cX8_pullsBy, 6, (some .int))
def mX8_fadesBy : Mi := (yX8_fadesBy, cX8_fadesBy, 6, (some .int))
def mX8_within : Mi := (yX8_within, cX8_within, 3, (some .boolean))
def mX8_isGarment : Mi := (yX8_isGarment, cX8_isGarment, 2, (some .boolean))
def mX8_act : Mi := (yX8_act, cX8_act, 4, (some .int))
def mX8_again : Mi := (yX8_again, cX8_again, 3, none)
def mX8_habits : Mi := (yX8_habits, cX8_habits, 4, (some .int))
def mX8_allHabits : Mi := (yX8_allHabits, cX8_allHabits, 3, (some .int))
def mX8_isUnder : Mi := (yX8_isUnder, cX8_isUnder, 3, (some .boolean))
def mX8_pull : Mi := (yX8_pull, cX8_pull, 7, (some .int))
def mX8_couldGo : Mi := (yX8_couldGo, cX8_couldGo, 3, (some .boolean))
def mX8_goesNow : Mi := (yX8_goesNow, cX8_goesNow, 3, (some .boolean))
def mX8_isHour : Mi := (yX8_isHour, cX8_isHour, 1, (some .boolean))
def mX8_no : Mi := (yX8_no, cX8_no, 2, (some .int))
def mX8_alone : Mi := (yX8_alone, cX8_alone, 4, (some .int))
def mX8_becomes : Mi := (yX8_becomes, cX8_becomes, 5, none)
def mX8_isDays : Mi := (yX8_isDays, cX8_isDays, 1, (some .boolean))
def mX8_keep : Mi := (yX8_keep, cX8_keep, 3, none)
def mX8_has : Mi := (yX8_has, cX8_has, 2, (some .boolean))
def mX8_doesWithout : Mi := (yX8_doesWithout, cX8_doesWithout, 6, (some .int))
def mX8_doesNow : Mi := (yX8_doesNow, cX8_doesNow, 3, (some .int))
def mX8_step : Mi := (yX8_step, cX8_step, 3, (some .int))
def mX8_learns : Mi := (yX8_learns, cX8_learns, 6, none)
def mX8_day : Mi := (yX8_day, cX8_day, 4, (some .int))
def mX8_waits : Mi := (yX8_waits, cX8_waits, 3, none)
def mX8_behind : Mi := (yX8_behind, cX8_behind, 6, (some .int))
def mX8_isRow : Mi := (yX8_isRow, cX8_isRow, 2, (some .boolean))
def mX8_copy : Mi := (yX8_copy, cX8_copy, 7, (some .int))
def mX8_isHimself : Mi := (yX8_isHimself, cX8_isHimself, 4, (some .boolean))
def mX8_isOne : Mi := (yX8_isOne, cX8_isOne, 2, (some .boolean))
def mX8_no10 : Mi := (yX8_no10, cX8_no10, 2, (some .int))
def mX8_cure : Mi := (yX8_cure, cX8_cure, 6, (some .int))
def mX8_days : Mi := (yX8_days, cX8_days, 4, (some .int))
def mX8_does : Mi := (yX8_does, cX8_does, 5, (some .int))
def mX8_told : Mi := (yX8_told, cX8_told, 3, (some .int))
def mX8_doneOf : Mi := (yX8_doneOf, cX8_doneOf, 5, (some .int))
def mX8_draw : Mi := (yX8_draw, cX8_draw, 2, (some .int))
def mX8_noRow : Mi := (yX8_noRow, cX8_noRow, 2, (some .int))
def mX8_dressed : Mi := (yX8_dressed, cX8_dressed, 11, (some .int))
def mX8_element : Mi := (yX8_element, cX8_element, 3, (some .long))
def mX8_fault : Mi := (yX8_fault, cX8_fault, 1, (some .int))
def mX8_noDay : Mi := (yX8_noDay, cX8_noDay, 3, (some .int))
def mX8_fits : Mi := (yX8_fits, cX8_fits, 7, (some .int))
def mX8_isDigit : Mi := (yX8_isDigit, cX8_isDigit, 1, (some .boolean))
def mX8_newGarment : Mi := (yX8_newGarment, cX8_newGarment, 4, (some .int))
def mX8_garment : Mi := (yX8_garment, cX8_garment, 3, (some .int))
def mX8_garmentOf : Mi := (yX8_garmentOf, cX8_garmentOf, 3, (some .int))
def mX8_goes : Mi := (yX8_goes, cX8_goes, 5, (some .int))
def mX8_habit : Mi := (yX8_habit, cX8_habit, 6, (some .int))
def mX8_holds : Mi := (yX8_holds, cX8_holds, 2, (some .int))
def mX8_likeOf : Mi := (yX8_likeOf, cX8_likeOf, 5, (some .int))
def mX8_whoseOf : Mi := (yX8_whoseOf, cX8_whoseOf, 4, (some .int))
def mX8_home : Mi := (yX8_home, cX8_home, 4, (some .int))
def mX8_image : Mi := (yX8_image, cX8_image, 1, (some .int))
def mX8_init : Mi := (yX8_init, cX8_init, 2, none)
def mX8_sign : Mi := (yX8_sign, cX8_sign, 1, (some .int))
def mX8_is : Mi := (yX8_is, cX8_is, 2, (some .boolean))
def mX8_newOne : Mi := (yX8_newOne, cX8_newOne, 3, (some .int))
def mX8_number : Mi := (yX8_number, cX8_number, 7, (some .boolean))
def mX8_then : Mi := (yX8_then, cX8_then, 2, (some .boolean))
def mX8_washedBy : Mi := (yX8_washedBy, cX8_washedBy, 1, (some .int))
def mX8_washes : Mi := (yX8_washes, cX8_washes, 4, none)
def mX8_word : Mi := (yX8_word, cX8_word, 3, (some .boolean))
def mX8_word_ : Mi := (yX8_word_, cX8_word_, 5, (some .boolean))
def mX8_item : Mi := (yX8_item, cX8_item, 1, (some .boolean))
def mX8_judge : Mi := (yX8_judge, cX8_judge, 5, (some .int))
def mX8_kept : Mi := (yX8_kept, cX8_kept, 5, (some .int))
def mX8_like : Mi := (yX8_like, cX8_like, 3, (some .int))
def mX8_own : Mi := (yX8_own, cX8_own, 5, (some .int))
def mX8_person : Mi := (yX8_person, cX8_person, 2, (some .int))
def mX8_personOf : Mi := (yX8_personOf, cX8_personOf, 5, (some .int))
def mX8_restore : Mi := (yX8_restore, cX8_restore, 2, (some .int))
def mX8_row : Mi := (yX8_row, cX8_row, 5, (some .int))
def mX8_says : Mi := (yX8_says, cX8_says, 6, (some .int))
def mX8_seed : Mi := (yX8_seed, cX8_seed, 3, (some .int))
def mX8_set : Mi := (yX8_set, cX8_set, 7, (some .int))
def mX8_settled : Mi := (yX8_settled, cX8_settled, 5, (some .int))
def mX8_show : Mi := (yX8_show, cX8_show, 3, (some .int))
def mX8_status : Mi := (yX8_status, cX8_status, 4, (some .int))
def mX8_taught : Mi := (yX8_taught, cX8_taught, 8, (some .int))
def mX8_trace : Mi := (yX8_trace, cX8_trace, 2, (some .int))
def mX8_two : Mi := (yX8_two, cX8_two, 8, (some .int))
def mX8_wardrobe : Mi := (yX8_wardrobe, cX8_wardrobe, 5, (some .int))
def mX8_wash : Mi := (yX8_wash, cX8_wash, 2, (some .int))
def mX8_washed : Mi := (yX8_washed, cX8_washed, 5, (some .int))
def mX8_watch : Mi := (yX8_watch, cX8_watch, 6, (some .int))
def mX8_wear : Mi := (yX8_wear, cX8_wear, 4, (some .int))
def mX8_whose : Mi := (yX8_whose, cX8_whose, 2, (some .int))
def mX8_will : Mi := (yX8_will, cX8_will, 4, (some .int))
def mX8_wins : Mi := (yX8_wins, cX8_wins, 4, (some .int))
def mX8_years : Mi := (yX8_years, cX8_years, 5, (some .int))
theorem kw_2 : ckw 2 := by
  intro c hc
  obtain ⟨j, hj, rfl⟩ := List.mem_map.mp hc
  have hj : j < 5 := List.mem_range.mp hj
  rcases (show j = 0 ∨ j = 1 ∨ j = 2 ∨ j = 3 ∨ j = 4 by omega) with rfl | rfl | rfl | rfl | rfl
  · exact tl_2_habits
  · exact tl_2_firms
  · exact tl_2_kind
  · exact tl_2_a
  · exact tl_2_wearer

theorem kw_0 : ckw 0 := by
  intro c hc
  obtain ⟨j, hj, rfl⟩ := List.mem_map.mp hc
  have hj : j < 7 := List.mem_range.mp hj
  rcases (show j = 0 ∨ j = 1 ∨ j = 2 ∨ j = 3 ∨ j = 4 ∨ j = 5 ∨ j = 6 by omega) with rfl | rfl | rfl | rfl | rfl | rfl | rfl
  · exact tl_0_people
  · exact tl_0_garments
  · exact tl_0_done
  · exact tl_0_peopleCount
  · exact tl_0_garmentCount
  · exact tl_0_seed
  · exact tl_0_daysPassed

theorem kw_4 : ckw 4 := by
  intro c hc
  obtain ⟨j, hj, rfl⟩ := List.mem_map.mp hc
  have hj : j < 2 := List.mem_range.mp hj
  rcases (show j = 0 ∨ j = 1 by omega) with rfl | rfl
  · exact tl_4_deeds
  · exact tl_4_will

theorem kw_1 : ckw 1 := by
  intro c hc
  obtain ⟨j, hj, rfl⟩ := List.mem_map.mp hc
  have hj : j < 5 := List.mem_range.mp hj
  rcases (show j = 0 ∨ j = 1 ∨ j = 2 ∨ j = 3 ∨ j = 4 by omega) with rfl | rfl | rfl | rfl | rfl
  · exact tl_1_best
  · exact tl_1_most
  · exact tl_1_way
  · exact tl_1_loads
  · exact tl_1_scores

theorem kw_6 : ckw 6 := by
  intro c hc
  obtain ⟨j, hj, rfl⟩ := List.mem_map.mp hc
  have hj : j < 3 := List.mem_range.mp hj
  rcases (show j = 0 ∨ j = 1 ∨ j = 2 by omega) with rfl | rfl | rfl
  · exact tl_6_elements
  · exact tl_6_size
  · exact tl_6_held

theorem kw_3 : ckw 3 := by
  intro c hc
  obtain ⟨j, hj, rfl⟩ := List.mem_map.mp hc
  have hj : j < 5 := List.mem_range.mp hj
  rcases (show j = 0 ∨ j = 1 ∨ j = 2 ∨ j = 3 ∨ j = 4 by omega) with rfl | rfl | rfl | rfl | rfl
  · exact tl_3_ran
  · exact tl_3_bodies
  · exact tl_3_kind
  · exact tl_3_m
  · exact tl_3_k

theorem kw_5 : ckw 5 := by
  intro c hc
  obtain ⟨j, hj, rfl⟩ := List.mem_map.mp hc
  have hj : j < 5 := List.mem_range.mp hj
  rcases (show j = 0 ∨ j = 1 ∨ j = 2 ∨ j = 3 ∨ j = 4 by omega) with rfl | rfl | rfl | rfl | rfl
  · exact tl_5_fault
  · exact tl_5_numbers
  · exact tl_5_text
  · exact tl_5_closet
  · exact tl_5_place

theorem kw_7 : ckw 7 := by
  intro c hc
  obtain ⟨j, hj, rfl⟩ := List.mem_map.mp hc
  have hj : j < 11 := List.mem_range.mp hj
  rcases (show j = 0 ∨ j = 1 ∨ j = 2 ∨ j = 3 ∨ j = 4 ∨ j = 5 ∨ j = 6 ∨ j = 7 ∨ j = 8 ∨ j = 9 ∨ j = 10 by omega) with rfl | rfl | rfl | rfl | rfl | rfl | rfl | rfl | rfl | rfl | rfl
  · exact tl_7_shelves
  · exact tl_7_refusals
  · exact tl_7_now
  · exact tl_7_trial
  · exact tl_7_imaged
  · exact tl_7_spare
  · exact tl_7_reader
  · exact tl_7_dresser
  · exact tl_7_moves
  · exact tl_7_imageTaken
  · exact tl_7_latestFault

theorem kw_8 : ckw 8 := by
  intro c hc
  obtain ⟨j, hj, rfl⟩ := List.mem_map.mp hc
  have hj : j < 27 := List.mem_range.mp hj
  rcases (show j = 0 ∨ j = 1 ∨ j = 2 ∨ j = 3 ∨ j = 4 ∨ j = 5 ∨ j = 6 ∨ j = 7 ∨ j = 8 ∨ j = 9 ∨ j = 10 ∨ j = 11 ∨ j = 12 ∨ j = 13 ∨ j = 14 ∨ j = 15 ∨ j = 16 ∨ j = 17 ∨ j = 18 ∨ j = 19 ∨ j = 20 ∨ j = 21 ∨ j = 22 ∨ j = 23 ∨ j = 24 ∨ j = 25 ∨ j = 26 by omega) with rfl | rfl | rfl | rfl | rfl | rfl | rfl | rfl | rfl | rfl | rfl | rfl | rfl | rfl | rfl | rfl | rfl | rfl | rfl | rfl | rfl | rfl | rfl | rfl | rfl | rfl | rfl
  · exact tl_8_holding
  · exact tl_8_rowLength
  · exact tl_8_rowOf
  · exact tl_8_people
  · exact tl_8_will
  · exact tl_8_own
  · exact tl_8_garments
  · exact tl_8_kind
  · exact tl_8_a
  · exact tl_8_wears
  · exact tl_8_habit
  · exact tl_8_firm
  · exact tl_8_days
  · exact tl_8_seed
  · exact tl_8_fault
  · exact tl_8_refusals
  · exact tl_8_traced
  · exact tl_8_traces
  · exact tl_8_imaged
  · exact tl_8_old
  · exact tl_8_ahead
  · exact tl_8_now
  · exact tl_8_deed
  · exact tl_8_best
  · exact tl_8_reading
  · exact tl_8_at
  · exact tl_8_numbers

theorem fl_RX2_18 {M : Mi} (h : M.1.cls = RX2) : FL M 18 2 2 := ⟨by decide, by decide, kw_2, h ▸ tf_RX2_18⟩
theorem fl_RX2_22 {M : Mi} (h : M.1.cls = RX2) : FL M 22 2 3 := ⟨by decide, by decide, kw_2, h ▸ tf_RX2_22⟩
theorem fl_RX2_25 {M : Mi} (h : M.1.cls = RX2) : FL M 25 2 4 := ⟨by decide, by decide, kw_2, h ▸ tf_RX2_25⟩
theorem fl_RX2_9 {M : Mi} (h : M.1.cls = RX2) : FL M 9 2 0 := ⟨by decide, by decide, kw_2, h ▸ tf_RX2_9⟩
theorem fl_RX2_15 {M : Mi} (h : M.1.cls = RX2) : FL M 15 2 1 := ⟨by decide, by decide, kw_2, h ▸ tf_RX2_15⟩
theorem fl_RX0_19 {M : Mi} (h : M.1.cls = RX0) : FL M 19 0 1 := ⟨by decide, by decide, kw_0, h ▸ tf_RX0_19⟩
theorem fl_RX0_31 {M : Mi} (h : M.1.cls = RX0) : FL M 31 0 4 := ⟨by decide, by decide, kw_0, h ▸ tf_RX0_31⟩
theorem fl_RX4_15 {M : Mi} (h : M.1.cls = RX4) : FL M 15 4 1 := ⟨by decide, by decide, kw_4, h ▸ tf_RX4_15⟩
theorem fl_RX4_9 {M : Mi} (h : M.1.cls = RX4) : FL M 9 4 0 := ⟨by decide, by decide, kw_4, h ▸ tf_RX4_9⟩
theorem fl_RX0_11 {M : Mi} (h : M.1.cls = RX0) : FL M 11 0 0 := ⟨by decide, by decide, kw_0, h ▸ tf_RX0_11⟩
theorem fl_RX0_27 {M : Mi} (h : M.1.cls = RX0) : FL M 27 0 3 := ⟨by decide, by decide, kw_0, h ▸ tf_RX0_27⟩
theorem fl_RX0_60 {M : Mi} (h : M.1.cls = RX0) : FL M 60 2 4 := ⟨by decide, by decide, kw_2, h ▸ tf_RX0_60⟩
theorem fl_RX0_76 {M : Mi} (h : M.1.cls = RX0) : FL M 76 2 0 := ⟨by decide, by decide, kw_2, h ▸ tf_RX0_76⟩
theorem fl_RX0_79 {M : Mi} (h : M.1.cls = RX0) : FL M 79 2 1 := ⟨by decide, by decide, kw_2, h ▸ tf_RX0_79⟩
theorem fl_RX0_82 {M : Mi} (h : M.1.cls = RX0) : FL M 82 2 3 := ⟨by decide, by decide, kw_2, h ▸ tf_RX0_82⟩
theorem fl_RX0_85 {M : Mi} (h : M.1.cls = RX0) : FL M 85 2 2 := ⟨by decide, by decide, kw_2, h ▸ tf_RX0_85⟩
theorem fl_RX0_88 {M : Mi} (h : M.1.cls = RX0) : FL M 88 4 0 := ⟨by decide, by decide, kw_4, h ▸ tf_RX0_88⟩
theorem fl_RX0_23 {M : Mi} (h : M.1.cls = RX0) : FL M 23 0 2 := ⟨by decide, by decide, kw_0, h ▸ tf_RX0_23⟩
theorem fl_RX0_95 {M : Mi} (h : M.1.cls = RX0) : FL M 95 4 1 := ⟨by decide, by decide, kw_4, h ▸ tf_RX0_95⟩
theorem fl_RX0_34 {M : Mi} (h : M.1.cls = RX0) : FL M 34 0 5 := ⟨by decide, by decide, kw_0, h ▸ tf_RX0_34⟩
theorem fl_RX0_37 {M : Mi} (h : M.1.cls = RX0) : FL M 37 0 6 := ⟨by decide, by decide, kw_0, h ▸ tf_RX0_37⟩
theorem fl_RX1_19 {M : Mi} (h : M.1.cls = RX1) : FL M 19 1 2 := ⟨by decide, by decide, kw_1, h ▸ tf_RX1_19⟩
theorem fl_RX1_9 {M : Mi} (h : M.1.cls = RX1) : FL M 9 1 0 := ⟨by decide, by decide, kw_1, h ▸ tf_RX1_9⟩
theorem fl_RX1_15 {M : Mi} (h : M.1.cls = RX1) : FL M 15 1 1 := ⟨by decide, by decide, kw_1, h ▸ tf_RX1_15⟩
theorem fl_RX1_22 {M : Mi} (h : M.1.cls = RX1) : FL M 22 1 3 := ⟨by decide, by decide, kw_1, h ▸ tf_RX1_22⟩
theorem fl_RX1_25 {M : Mi} (h : M.1.cls = RX1) : FL M 25 1 4 := ⟨by decide, by decide, kw_1, h ▸ tf_RX1_25⟩
theorem fl_RX6_15 {M : Mi} (h : M.1.cls = RX6) : FL M 15 6 1 := ⟨by decide, by decide, kw_6, h ▸ tf_RX6_15⟩
theorem fl_RX6_9 {M : Mi} (h : M.1.cls = RX6) : FL M 9 6 0 := ⟨by decide, by decide, kw_6, h ▸ tf_RX6_9⟩
theorem fl_RX1_65 {M : Mi} (h : M.1.cls = RX1) : FL M 65 0 0 := ⟨by decide, by decide, kw_0, h ▸ tf_RX1_65⟩
theorem fl_RX1_69 {M : Mi} (h : M.1.cls = RX1) : FL M 69 4 1 := ⟨by decide, by decide, kw_4, h ▸ tf_RX1_69⟩
theorem fl_RX1_38 {M : Mi} (h : M.1.cls = RX1) : FL M 38 0 3 := ⟨by decide, by decide, kw_0, h ▸ tf_RX1_38⟩
theorem fl_RX3_9 {M : Mi} (h : M.1.cls = RX3) : FL M 9 3 0 := ⟨by decide, by decide, kw_3, h ▸ tf_RX3_9⟩
theorem fl_RX3_15 {M : Mi} (h : M.1.cls = RX3) : FL M 15 3 1 := ⟨by decide, by decide, kw_3, h ▸ tf_RX3_15⟩
theorem fl_RX3_19 {M : Mi} (h : M.1.cls = RX3) : FL M 19 3 2 := ⟨by decide, by decide, kw_3, h ▸ tf_RX3_19⟩
theorem fl_RX3_22 {M : Mi} (h : M.1.cls = RX3) : FL M 22 3 3 := ⟨by decide, by decide, kw_3, h ▸ tf_RX3_22⟩
theorem fl_RX3_25 {M : Mi} (h : M.1.cls = RX3) : FL M 25 3 4 := ⟨by decide, by decide, kw_3, h ▸ tf_RX3_25⟩
theorem fl_RX3_28 {M : Mi} (h : M.1.cls = RX3) : FL M 28 2 2 := ⟨by decide, by decide, kw_2, h ▸ tf_RX3_28⟩
theorem fl_RX3_31 {M : Mi} (h : M.1.cls = RX3) : FL M 31 2 3 := ⟨by decide, by decide, kw_2, h ▸ tf_RX3_31⟩
theorem fl_RX5_23 {M : Mi} (h : M.1.cls = RX5) : FL M 23 5 3 := ⟨by decide, by decide, kw_5, h ▸ tf_RX5_23⟩
theorem fl_RX5_113 {M : Mi} (h : M.1.cls = RX5) : FL M 113 0 3 := ⟨by decide, by decide, kw_0, h ▸ tf_RX5_113⟩
theorem fl_RX5_116 {M : Mi} (h : M.1.cls = RX5) : FL M 116 0 4 := ⟨by decide, by decide, kw_0, h ▸ tf_RX5_116⟩
theorem fl_RX5_9 {M : Mi} (h : M.1.cls = RX5) : FL M 9 5 0 := ⟨by decide, by decide, kw_5, h ▸ tf_RX5_9⟩
theorem fl_RX5_15 {M : Mi} (h : M.1.cls = RX5) : FL M 15 5 1 := ⟨by decide, by decide, kw_5, h ▸ tf_RX5_15⟩
theorem fl_RX5_19 {M : Mi} (h : M.1.cls = RX5) : FL M 19 5 2 := ⟨by decide, by decide, kw_5, h ▸ tf_RX5_19⟩
theorem fl_RX5_27 {M : Mi} (h : M.1.cls = RX5) : FL M 27 5 4 := ⟨by decide, by decide, kw_5, h ▸ tf_RX5_27⟩
theorem fl_RX5_135 {M : Mi} (h : M.1.cls = RX5) : FL M 135 0 0 := ⟨by decide, by decide, kw_0, h ▸ tf_RX5_135⟩
theorem fl_RX5_139 {M : Mi} (h : M.1.cls = RX5) : FL M 139 4 0 := ⟨by decide, by decide, kw_4, h ▸ tf_RX5_139⟩
theorem fl_RX5_144 {M : Mi} (h : M.1.cls = RX5) : FL M 144 0 1 := ⟨by decide, by decide, kw_0, h ▸ tf_RX5_144⟩
theorem fl_RX5_154 {M : Mi} (h : M.1.cls = RX5) : FL M 154 2 4 := ⟨by decide, by decide, kw_2, h ▸ tf_RX5_154⟩
theorem fl_RX5_38 {M : Mi} (h : M.1.cls = RX5) : FL M 38 6 1 := ⟨by decide, by decide, kw_6, h ▸ tf_RX5_38⟩
theorem fl_RX6_19 {M : Mi} (h : M.1.cls = RX6) : FL M 19 6 2 := ⟨by decide, by decide, kw_6, h ▸ tf_RX6_19⟩
theorem fl_RX7_56 {M : Mi} (h : M.1.cls = RX7) : FL M 56 7 8 := ⟨by decide, by decide, kw_7, h ▸ tf_RX7_56⟩
theorem fl_RX7_22 {M : Mi} (h : M.1.cls = RX7) : FL M 22 7 2 := ⟨by decide, by decide, kw_7, h ▸ tf_RX7_22⟩
theorem fl_RX7_137 {M : Mi} (h : M.1.cls = RX7) : FL M 137 0 1 := ⟨by decide, by decide, kw_0, h ▸ tf_RX7_137⟩
theorem fl_RX7_15 {M : Mi} (h : M.1.cls = RX7) : FL M 15 7 1 := ⟨by decide, by decide, kw_7, h ▸ tf_RX7_15⟩
theorem fl_RX7_275 {M : Mi} (h : M.1.cls = RX7) : FL M 275 0 4 := ⟨by decide, by decide, kw_0, h ▸ tf_RX7_275⟩
theorem fl_RX7_26 {M : Mi} (h : M.1.cls = RX7) : FL M 26 7 3 := ⟨by decide, by decide, kw_7, h ▸ tf_RX7_26⟩
theorem fl_RX7_210 {M : Mi} (h : M.1.cls = RX7) : FL M 210 2 1 := ⟨by decide, by decide, kw_2, h ▸ tf_RX7_210⟩
theorem fl_RX7_188 {M : Mi} (h : M.1.cls = RX7) : FL M 188 2 0 := ⟨by decide, by decide, kw_2, h ▸ tf_RX7_188⟩
theorem fl_RX7_11 {M : Mi} (h : M.1.cls = RX7) : FL M 11 7 0 := ⟨by decide, by decide, kw_7, h ▸ tf_RX7_11⟩
theorem fl_RX7_107 {M : Mi} (h : M.1.cls = RX7) : FL M 107 6 0 := ⟨by decide, by decide, kw_6, h ▸ tf_RX7_107⟩
theorem fl_RX7_278 {M : Mi} (h : M.1.cls = RX7) : FL M 278 6 1 := ⟨by decide, by decide, kw_6, h ▸ tf_RX7_278⟩
theorem fl_RX7_262 {M : Mi} (h : M.1.cls = RX7) : FL M 262 0 3 := ⟨by decide, by decide, kw_0, h ▸ tf_RX7_262⟩
theorem fl_RX7_49 {M : Mi} (h : M.1.cls = RX7) : FL M 49 7 7 := ⟨by decide, by decide, kw_7, h ▸ tf_RX7_49⟩
theorem fl_RX7_288 {M : Mi} (h : M.1.cls = RX7) : FL M 288 1 0 := ⟨by decide, by decide, kw_1, h ▸ tf_RX7_288⟩
theorem fl_RX7_285 {M : Mi} (h : M.1.cls = RX7) : FL M 285 1 1 := ⟨by decide, by decide, kw_1, h ▸ tf_RX7_285⟩
theorem fl_RX7_64 {M : Mi} (h : M.1.cls = RX7) : FL M 64 7 10 := ⟨by decide, by decide, kw_7, h ▸ tf_RX7_64⟩
theorem fl_RX7_198 {M : Mi} (h : M.1.cls = RX7) : FL M 198 2 4 := ⟨by decide, by decide, kw_2, h ▸ tf_RX7_198⟩
theorem fl_RX7_207 {M : Mi} (h : M.1.cls = RX7) : FL M 207 2 3 := ⟨by decide, by decide, kw_2, h ▸ tf_RX7_207⟩
theorem fl_RX7_204 {M : Mi} (h : M.1.cls = RX7) : FL M 204 2 2 := ⟨by decide, by decide, kw_2, h ▸ tf_RX7_204⟩
theorem fl_RX7_131 {M : Mi} (h : M.1.cls = RX7) : FL M 131 6 2 := ⟨by decide, by decide, kw_6, h ▸ tf_RX7_131⟩
theorem fl_RX7_29 {M : Mi} (h : M.1.cls = RX7) : FL M 29 7 4 := ⟨by decide, by decide, kw_7, h ▸ tf_RX7_29⟩
theorem fl_RX7_60 {M : Mi} (h : M.1.cls = RX7) : FL M 60 7 9 := ⟨by decide, by decide, kw_7, h ▸ tf_RX7_60⟩
theorem fl_RX7_35 {M : Mi} (h : M.1.cls = RX7) : FL M 35 7 5 := ⟨by decide, by decide, kw_7, h ▸ tf_RX7_35⟩
theorem fl_RX7_42 {M : Mi} (h : M.1.cls = RX7) : FL M 42 7 6 := ⟨by decide, by decide, kw_7, h ▸ tf_RX7_42⟩
theorem fl_RX7_179 {M : Mi} (h : M.1.cls = RX7) : FL M 179 0 0 := ⟨by decide, by decide, kw_0, h ▸ tf_RX7_179⟩
theorem fl_RX7_183 {M : Mi} (h : M.1.cls = RX7) : FL M 183 4 0 := ⟨by decide, by decide, kw_4, h ▸ tf_RX7_183⟩
theorem fl_RX7_201 {M : Mi} (h : M.1.cls = RX7) : FL M 201 4 1 := ⟨by decide, by decide, kw_4, h ▸ tf_RX7_201⟩
theorem fl_RX7_326 {M : Mi} (h : M.1.cls = RX7) : FL M 326 0 5 := ⟨by decide, by decide, kw_0, h ▸ tf_RX7_326⟩
theorem fl_RX7_342 {M : Mi} (h : M.1.cls = RX7) : FL M 342 0 6 := ⟨by decide, by decide, kw_0, h ▸ tf_RX7_342⟩
theorem fl_RX7_345 {M : Mi} (h : M.1.cls = RX7) : FL M 345 3 0 := ⟨by decide, by decide, kw_3, h ▸ tf_RX7_345⟩
theorem fl_RX7_227 {M : Mi} (h : M.1.cls = RX7) : FL M 227 5 0 := ⟨by decide, by decide, kw_5, h ▸ tf_RX7_227⟩
theorem fl_RX8_269 {M : Mi} (h : M.1.cls = RX8) : FL M 269 8 16 := ⟨by decide, by decide, kw_8, h ▸ tf_RX8_269⟩
theorem fl_RX8_44 {M : Mi} (h : M.1.cls = RX8) : FL M 44 8 17 := ⟨by decide, by decide, kw_8, h ▸ tf_RX8_44⟩
theorem fl_RX8_26 {M : Mi} (h : M.1.cls = RX8) : FL M 26 8 7 := ⟨by decide, by decide, kw_8, h ▸ tf_RX8_26⟩
theorem fl_RX8_29 {M : Mi} (h : M.1.cls = RX8) : FL M 29 8 8 := ⟨by decide, by decide, kw_8, h ▸ tf_RX8_29⟩
theorem fl_RX8_76 {M : Mi} (h : M.1.cls = RX8) : FL M 76 8 6 := ⟨by decide, by decide, kw_8, h ▸ tf_RX8_76⟩
theorem fl_RX8_83 {M : Mi} (h : M.1.cls = RX8) : FL M 83 8 3 := ⟨by decide, by decide, kw_8, h ▸ tf_RX8_83⟩
theorem fl_RX8_224 {M : Mi} (h : M.1.cls = RX8) : FL M 224 8 12 := ⟨by decide, by decide, kw_8, h ▸ tf_RX8_224⟩
theorem fl_RX8_65 {M : Mi} (h : M.1.cls = RX8) : FL M 65 8 13 := ⟨by decide, by decide, kw_8, h ▸ tf_RX8_65⟩
theorem fl_RX8_20 {M : Mi} (h : M.1.cls = RX8) : FL M 20 8 4 := ⟨by decide, by decide, kw_8, h ▸ tf_RX8_20⟩
theorem fl_RX8_23 {M : Mi} (h : M.1.cls = RX8) : FL M 23 8 5 := ⟨by decide, by decide, kw_8, h ▸ tf_RX8_23⟩
theorem fl_RX8_35 {M : Mi} (h : M.1.cls = RX8) : FL M 35 8 10 := ⟨by decide, by decide, kw_8, h ▸ tf_RX8_35⟩
theorem fl_RX8_38 {M : Mi} (h : M.1.cls = RX8) : FL M 38 8 11 := ⟨by decide, by decide, kw_8, h ▸ tf_RX8_38⟩
theorem fl_RX8_32 {M : Mi} (h : M.1.cls = RX8) : FL M 32 8 9 := ⟨by decide, by decide, kw_8, h ▸ tf_RX8_32⟩
theorem fl_RX8_41 {M : Mi} (h : M.1.cls = RX8) : FL M 41 8 15 := ⟨by decide, by decide, kw_8, h ▸ tf_RX8_41⟩
theorem fl_RX8_56 {M : Mi} (h : M.1.cls = RX8) : FL M 56 8 22 := ⟨by decide, by decide, kw_8, h ▸ tf_RX8_56⟩
theorem fl_RX8_53 {M : Mi} (h : M.1.cls = RX8) : FL M 53 8 21 := ⟨by decide, by decide, kw_8, h ▸ tf_RX8_53⟩
theorem fl_RX8_7 {M : Mi} (h : M.1.cls = RX8) : FL M 7 8 0 := ⟨by decide, by decide, kw_8, h ▸ tf_RX8_7⟩
theorem fl_RX8_13 {M : Mi} (h : M.1.cls = RX8) : FL M 13 8 1 := ⟨by decide, by decide, kw_8, h ▸ tf_RX8_13⟩
theorem fl_RX8_16 {M : Mi} (h : M.1.cls = RX8) : FL M 16 8 2 := ⟨by decide, by decide, kw_8, h ▸ tf_RX8_16⟩
theorem fl_RX8_59 {M : Mi} (h : M.1.cls = RX8) : FL M 59 8 23 := ⟨by decide, by decide, kw_8, h ▸ tf_RX8_59⟩
theorem fl_RX8_69 {M : Mi} (h : M.1.cls = RX8) : FL M 69 8 14 := ⟨by decide, by decide, kw_8, h ▸ tf_RX8_69⟩
theorem fl_RX8_284 {M : Mi} (h : M.1.cls = RX8) : FL M 284 8 18 := ⟨by decide, by decide, kw_8, h ▸ tf_RX8_284⟩
theorem fl_RX8_47 {M : Mi} (h : M.1.cls = RX8) : FL M 47 8 19 := ⟨by decide, by decide, kw_8, h ▸ tf_RX8_47⟩
theorem fl_RX8_50 {M : Mi} (h : M.1.cls = RX8) : FL M 50 8 20 := ⟨by decide, by decide, kw_8, h ▸ tf_RX8_50⟩
theorem fl_RX8_62 {M : Mi} (h : M.1.cls = RX8) : FL M 62 8 26 := ⟨by decide, by decide, kw_8, h ▸ tf_RX8_62⟩
theorem fl_RX8_138 {M : Mi} (h : M.1.cls = RX8) : FL M 138 8 25 := ⟨by decide, by decide, kw_8, h ▸ tf_RX8_138⟩
theorem fl_RX8_141 {M : Mi} (h : M.1.cls = RX8) : FL M 141 8 24 := ⟨by decide, by decide, kw_8, h ▸ tf_RX8_141⟩
theorem mds_J3_checkIndex_8e157 : MDs mJ3_checkIndex_8e157 3 := ⟨⟨ti_RJ3, tcode_J3_checkIndex_8e157, ⟨by decide, by decide, by decide +kernel⟩, by decide⟩, tst_J3_checkIndex_8e157⟩
theorem mds_J0_checkIndex_df160 : MDs mJ0_checkIndex_df160 2 := ⟨⟨ti_RJ0, tcode_J0_checkIndex_df160, ⟨by decide, by decide, by decide +kernel⟩, by decide⟩, tst_J0_checkIndex_df160⟩
theorem mdv_J0_isLatin1_aae02 : MDv mJ0_isLatin1_aae02 0 := ⟨⟨ti_RJ0, tcode_J0_isLatin1_aae02, ⟨by decide, by decide, by decide +kernel⟩, by decide⟩, tin_J0_isLatin1_aae02, tse_J0_isLatin1_aae02⟩
theorem mds_J1_charAt_3b067 : MDs mJ1_charAt_3b067 2 := ⟨⟨ti_RJ1, tcode_J1_charAt_3b067, ⟨by decide, by decide, by decide +kernel⟩, by decide⟩, tst_J1_charAt_3b067⟩
theorem mdv_J0_coder_7d493 : MDv mJ0_coder_7d493 0 := ⟨⟨ti_RJ0, tcode_J0_coder_7d493, ⟨by decide, by decide, by decide +kernel⟩, by decide⟩, tin_J0_coder_7d493, tse_J0_coder_7d493⟩
theorem mds_J7_fill_53178 : MDs mJ7_fill_53178 2 := ⟨⟨ti_RJ7, tcode_J7_fill_53178, ⟨by decide, by decide, by decide +kernel⟩, by decide⟩, tst_J7_fill_53178⟩
theorem mdv_X2_start : MDv mX2_start 2 := ⟨⟨ti_RX2, tcode_X2_start, ⟨by decide, by decide, by decide +kernel⟩, by decide⟩, tin_X2_start, tse_X2_start⟩
theorem mdv_X4_start : MDv mX4_start 1 := ⟨⟨ti_RX4, tcode_X4_start, ⟨by decide, by decide, by decide +kernel⟩, by decide⟩, tin_X4_start, tse_X4_start⟩
theorem mdv_X2_countHabits : MDv mX2_countHabits 0 := ⟨⟨ti_RX2, tcode_X2_countHabits, ⟨by decide, by decide, by decide +kernel⟩, by decide⟩, tin_X2_countHabits, tse_X2_countHabits⟩
theorem mdv_X0_wornBy : MDv mX0_wornBy 1 := ⟨⟨ti_RX0, tcode_X0_wornBy, ⟨by decide, by decide, by decide +kernel⟩, by decide⟩, tin_X0_wornBy, tse_X0_wornBy⟩
theorem mds_J6_bitCount_0f7a4 : MDs mJ6_bitCount_0f7a4 1 := ⟨⟨ti_RJ6, tcode_J6_bitCount_0f7a4, ⟨by decide, by decide, by decide +kernel⟩, by decide⟩, tst_J6_bitCount_0f7a4⟩
theorem mdv_X0_pullOf : MDv mX0_pullOf 2 := ⟨⟨ti_RX0, tcode_X0_pullOf, ⟨by decide, by decide, by decide +kernel⟩, by decide⟩, tin_X0_pullOf, tse_X0_pullOf⟩
theorem mds_X7_isWithin : MDs mX7_isWithin 3 := ⟨⟨ti_RX7, tcode_X7_isWithin, ⟨by decide, by decide, by decide +kernel⟩, by decide⟩, tst_X7_isWithin⟩
theorem mdv_X2_learnsOnce : MDv mX2_learnsOnce 0 := ⟨⟨ti_RX2, tcode_X2_learnsOnce, ⟨by decide, by decide, by decide +kernel⟩, by decide⟩, tin_X2_learnsOnce, tse_X2_learnsOnce⟩
theorem mdv_X2_step : MDv mX2_step 0 := ⟨⟨ti_RX2, tcode_X2_step, ⟨by decide, by decide, by decide +kernel⟩, by decide⟩, tin_X2_step, tse_X2_step⟩
theorem mdv_X2_accustom : MDv mX2_accustom 3 := ⟨⟨ti_RX2, tcode_X2_accustom, ⟨by decide, by decide, by decide +kernel⟩, by decide⟩, tin_X2_accustom, tse_X2_accustom⟩
theorem mdv_X0_hasPerson : MDv mX0_hasPerson 1 := ⟨⟨ti_RX0, tcode_X0_hasPerson, ⟨by decide, by decide, by decide +kernel⟩, by decide⟩, tin_X0_hasPerson, tse_X0_hasPerson⟩
theorem mdv_X2_learn : MDv mX2_learn 2 := ⟨⟨ti_RX2, tcode_X2_learn, ⟨by decide, by decide, by decide +kernel⟩, by decide⟩, tin_X2_learn, tse_X2_learn⟩
theorem mdv_X0_deedIn : MDv mX0_deedIn 4 := ⟨⟨ti_RX0, tcode_X0_deedIn, ⟨by decide, by decide, by decide +kernel⟩, by decide⟩, tin_X0_deedIn, tse_X0_deedIn⟩
theorem mdv_X0_passHour : MDv mX0_passHour 1 := ⟨⟨ti_RX0, tcode_X0_passHour, ⟨by decide, by decide, by decide +kernel⟩, by decide⟩, tin_X0_passHour, tse_X0_passHour⟩
theorem mdv_X0_doesAllOwn : MDv mX0_doesAllOwn 3 := ⟨⟨ti_RX0, tcode_X0_doesAllOwn, ⟨by decide, by decide, by decide +kernel⟩, by decide⟩, tin_X0_doesAllOwn, tse_X0_doesAllOwn⟩
theorem mdv_X2_canGo : MDv mX2_canGo 0 := ⟨⟨ti_RX2, tcode_X2_canGo, ⟨by decide, by decide, by decide +kernel⟩, by decide⟩, tin_X2_canGo, tse_X2_canGo⟩
theorem mdv_X0_wouldGo : MDv mX0_wouldGo 2 := ⟨⟨ti_RX0, tcode_X0_wouldGo, ⟨by decide, by decide, by decide +kernel⟩, by decide⟩, tin_X0_wouldGo, tse_X0_wouldGo⟩
theorem mdi_X4_init : MDi mX4_init 0 := ⟨⟨ti_RX4, tcode_X4_init, ⟨by decide, by decide, by decide +kernel⟩, by decide⟩, tin_X4_init, rfl, rfl⟩
theorem mdi_X2_init : MDi mX2_init 0 := ⟨⟨ti_RX2, tcode_X2_init, ⟨by decide, by decide, by decide +kernel⟩, by decide⟩, tin_X2_init, rfl, rfl⟩
theorem mdv_X0_likeness : MDv mX0_likeness 2 := ⟨⟨ti_RX0, tcode_X0_likeness, ⟨by decide, by decide, by decide +kernel⟩, by decide⟩, tin_X0_likeness, tse_X0_likeness⟩
theorem mdv_X0_draw : MDv mX0_draw 1 := ⟨⟨ti_RX0, tcode_X0_draw, ⟨by decide, by decide, by decide +kernel⟩, by decide⟩, tin_X0_draw, tse_X0_draw⟩
theorem mdv_X0_hasGarment : MDv mX0_hasGarment 1 := ⟨⟨ti_RX0, tcode_X0_hasGarment, ⟨by decide, by decide, by decide +kernel⟩, by decide⟩, tin_X0_hasGarment, tse_X0_hasGarment⟩
theorem mdv_X0_passDay : MDv mX0_passDay 0 := ⟨⟨ti_RX0, tcode_X0_passDay, ⟨by decide, by decide, by decide +kernel⟩, by decide⟩, tin_X0_passDay, tse_X0_passDay⟩
theorem mdv_X2_launder : MDv mX2_launder 0 := ⟨⟨ti_RX2, tcode_X2_launder, ⟨by decide, by decide, by decide +kernel⟩, by decide⟩, tin_X2_launder, tse_X2_launder⟩
theorem mdv_X2_take : MDv mX2_take 1 := ⟨⟨ti_RX2, tcode_X2_take, ⟨by decide, by decide, by decide +kernel⟩, by decide⟩, tin_X2_take, tse_X2_take⟩
theorem mdv_X4_take : MDv mX4_take 1 := ⟨⟨ti_RX4, tcode_X4_take, ⟨by decide, by decide, by decide +kernel⟩, by decide⟩, tin_X4_take, tse_X4_take⟩
theorem mdv_X0_deedOf : MDv mX0_deedOf 2 := ⟨⟨ti_RX0, tcode_X0_deedOf, ⟨by decide, by decide, by decide +kernel⟩, by decide⟩, tin_X0_deedOf, tse_X0_deedOf⟩
theorem mdv_X6_intAt : MDv mX6_intAt 1 := ⟨⟨ti_RX6, tcode_X6_intAt, ⟨by decide, by decide, by decide +kernel⟩, by decide⟩, tin_X6_intAt, tse_X6_intAt⟩
theorem mds_X1_scoreLoad : MDs mX1_scoreLoad 4 := ⟨⟨ti_RX1, tcode_X1_scoreLoad, ⟨by decide, by decide, by decide +kernel⟩, by decide⟩, tst_X1_scoreLoad⟩
theorem mdv_X1_scoreLoads : MDv mX1_scoreLoads 3 := ⟨⟨ti_RX1, tcode_X1_scoreLoads, ⟨by decide, by decide, by decide +kernel⟩, by decide⟩, tin_X1_scoreLoads, tse_X1_scoreLoads⟩
theorem mdv_X1_scoreWay : MDv mX1_scoreWay 2 := ⟨⟨ti_RX1, tcode_X1_scoreWay, ⟨by decide, by decide, by decide +kernel⟩, by decide⟩, tin_X1_scoreWay, tse_X1_scoreWay⟩
theorem mdv_X1_advance : MDv mX1_advance 2 := ⟨⟨ti_RX1, tcode_X1_advance, ⟨by decide, by decide, by decide +kernel⟩, by decide⟩, tin_X1_advance, tse_X1_advance⟩
theorem mdv_X3_note : MDv mX3_note 1 := ⟨⟨ti_RX3, tcode_X3_note, ⟨by decide, by decide, by decide +kernel⟩, by decide⟩, tin_X3_note, tse_X3_note⟩
theorem mdv_X3_run : MDv mX3_run 4 := ⟨⟨ti_RX3, tcode_X3_run, ⟨by decide, by decide, by decide +kernel⟩, by decide⟩, tin_X3_run, tse_X3_run⟩
theorem mdv_X5_isDigitSign : MDv mX5_isDigitSign 1 := ⟨⟨ti_RX5, tcode_X5_isDigitSign, ⟨by decide, by decide, by decide +kernel⟩, by decide⟩, tin_X5_isDigitSign, tse_X5_isDigitSign⟩
theorem mdv_X5_takeDigit : MDv mX5_takeDigit 0 := ⟨⟨ti_RX5, tcode_X5_takeDigit, ⟨by decide, by decide, by decide +kernel⟩, by decide⟩, tin_X5_takeDigit, tse_X5_takeDigit⟩
theorem mdv_X5_readSign : MDv mX5_readSign 1 := ⟨⟨ti_RX5, tcode_X5_readSign, ⟨by decide, by decide, by decide +kernel⟩, by decide⟩, tin_X5_readSign, tse_X5_readSign⟩
theorem mdv_X5_highest : MDv mX5_highest 1 := ⟨⟨ti_RX5, tcode_X5_highest, ⟨by decide, by decide, by decide +kernel⟩, by decide⟩, tin_X5_highest, tse_X5_highest⟩
theorem mdv_X5_readNumber : MDv mX5_readNumber 2 := ⟨⟨ti_RX5, tcode_X5_readNumber, ⟨by decide, by decide, by decide +kernel⟩, by decide⟩, tin_X5_readNumber, tse_X5_readNumber⟩
theorem mds_X5_spelling : MDs mX5_spelling 1 := ⟨⟨ti_RX5, tcode_X5_spelling, ⟨by decide, by decide, by decide +kernel⟩, by decide⟩, tst_X5_spelling⟩
theorem mdv_J0_length_8abf5 : MDv mJ0_length_8abf5 0 := ⟨⟨ti_RJ0, tcode_J0_length_8abf5, ⟨by decide, by decide, by decide +kernel⟩, by decide⟩, tin_J0_length_8abf5, tse_J0_length_8abf5⟩
theorem mdv_J0_charAt_5068e : MDv mJ0_charAt_5068e 1 := ⟨⟨ti_RJ0, tcode_J0_charAt_5068e, ⟨by decide, by decide, by decide +kernel⟩, by decide⟩, tin_J0_charAt_5068e, tse_J0_charAt_5068e⟩
theorem mds_X5_wordsGoingOn : MDs mX5_wordsGoingOn 3 := ⟨⟨ti_RX5, tcode_X5_wordsGoingOn, ⟨by decide, by decide, by decide +kernel⟩, by decide⟩, tst_X5_wordsGoingOn⟩
theorem mds_X5_wordEndingBehind : MDs mX5_wordEndingBehind 2 := ⟨⟨ti_RX5, tcode_X5_wordEndingBehind, ⟨by decide, by decide, by decide +kernel⟩, by decide⟩, tst_X5_wordEndingBehind⟩
theorem mdv_X5_readWord : MDv mX5_readWord 0 := ⟨⟨ti_RX5, tcode_X5_readWord, ⟨by decide, by decide, by decide +kernel⟩, by decide⟩, tin_X5_readWord, tse_X5_readWord⟩
theorem mdv_X5_readNumbers : MDv mX5_readNumbers 1 := ⟨⟨ti_RX5, tcode_X5_readNumbers, ⟨by decide, by decide, by decide +kernel⟩, by decide⟩, tin_X5_readNumbers, tse_X5_readNumbers⟩
theorem mdv_X0_isFullOfGarments : MDv mX0_isFullOfGarments 0 := ⟨⟨ti_RX0, tcode_X0_isFullOfGarments, ⟨by decide, by decide, by decide +kernel⟩, by decide⟩, tin_X0_isFullOfGarments, tse_X0_isFullOfGarments⟩
theorem mdv_X0_isFullOfPeople : MDv mX0_isFullOfPeople 0 := ⟨⟨ti_RX0, tcode_X0_isFullOfPeople, ⟨by decide, by decide, by decide +kernel⟩, by decide⟩, tin_X0_isFullOfPeople, tse_X0_isFullOfPeople⟩
theorem mdv_X0_addPerson : MDv mX0_addPerson 1 := ⟨⟨ti_RX0, tcode_X0_addPerson, ⟨by decide, by decide, by decide +kernel⟩, by decide⟩, tin_X0_addPerson, tse_X0_addPerson⟩
theorem mdv_X0_addGarment : MDv mX0_addGarment 2 := ⟨⟨ti_RX0, tcode_X0_addGarment, ⟨by decide, by decide, by decide +kernel⟩, by decide⟩, tin_X0_addGarment, tse_X0_addGarment⟩
theorem mdv_X5_readItem : MDv mX5_readItem 0 := ⟨⟨ti_RX5, tcode_X5_readItem, ⟨by decide, by decide, by decide +kernel⟩, by decide⟩, tin_X5_readItem, tse_X5_readItem⟩
theorem mdv_X5_tell : MDv mX5_tell 1 := ⟨⟨ti_RX5, tcode_X5_tell, ⟨by decide, by decide, by decide +kernel⟩, by decide⟩, tin_X5_tell, tse_X5_tell⟩
theorem mds_J7_fill_d0a16 : MDs mJ7_fill_d0a16 2 := ⟨⟨ti_RJ7, tcode_J7_fill_d0a16, ⟨by decide, by decide, by decide +kernel⟩, by decide⟩, tst_J7_fill_d0a16⟩
theorem mdv_X6_holdsRow : MDv mX6_holdsRow 0 := ⟨⟨ti_RX6, tcode_X6_holdsRow, ⟨by decide, by decide, by decide +kernel⟩, by decide⟩, tin_X6_holdsRow, tse_X6_holdsRow⟩
theorem mds_X7_isDigit : MDs mX7_isDigit 1 := ⟨⟨ti_RX7, tcode_X7_isDigit, ⟨by decide, by decide, by decide +kernel⟩, by decide⟩, tst_X7_isDigit⟩
theorem mdv_X3_forget : MDv mX3_forget 0 := ⟨⟨ti_RX3, tcode_X3_forget, ⟨by decide, by decide, by decide +kernel⟩, by decide⟩, tin_X3_forget, tse_X3_forget⟩
theorem mdv_X3_make : MDv mX3_make 4 := ⟨⟨ti_RX3, tcode_X3_make, ⟨by decide, by decide, by decide +kernel⟩, by decide⟩, tin_X3_make, tse_X3_make⟩
theorem mds_X7_isHour : MDs mX7_isHour 1 := ⟨⟨ti_RX7, tcode_X7_isHour, ⟨by decide, by decide, by decide +kernel⟩, by decide⟩, tst_X7_isHour⟩
theorem mdv_X0_isGoing : MDv mX0_isGoing 2 := ⟨⟨ti_RX0, tcode_X0_isGoing, ⟨by decide, by decide, by decide +kernel⟩, by decide⟩, tin_X0_isGoing, tse_X0_isGoing⟩
theorem mdv_X7_refuse : MDv mX7_refuse 1 := ⟨⟨ti_RX7, tcode_X7_refuse, ⟨by decide, by decide, by decide +kernel⟩, by decide⟩, tin_X7_refuse, tse_X7_refuse⟩
theorem mdv_X0_take : MDv mX0_take 1 := ⟨⟨ti_RX0, tcode_X0_take, ⟨by decide, by decide, by decide +kernel⟩, by decide⟩, tin_X0_take, tse_X0_take⟩
theorem mds_X7_areDaysAndHour : MDs mX7_areDaysAndHour 2 := ⟨⟨ti_RX7, tcode_X7_areDaysAndHour, ⟨by decide, by decide, by decide +kernel⟩, by decide⟩, tst_X7_areDaysAndHour⟩
theorem mdv_X7_tryDays : MDv mX7_tryDays 2 := ⟨⟨ti_RX7, tcode_X7_tryDays, ⟨by decide, by decide, by decide +kernel⟩, by decide⟩, tin_X7_tryDays, tse_X7_tryDays⟩
theorem mds_X7_isShelf : MDs mX7_isShelf 1 := ⟨⟨ti_RX7, tcode_X7_isShelf, ⟨by decide, by decide, by decide +kernel⟩, by decide⟩, tst_X7_isShelf⟩
theorem mdv_X6_holdsGarment : MDv mX6_holdsGarment 0 := ⟨⟨ti_RX6, tcode_X6_holdsGarment, ⟨by decide, by decide, by decide +kernel⟩, by decide⟩, tin_X6_holdsGarment, tse_X6_holdsGarment⟩
theorem mdv_X6_isOfOtherSort : MDv mX6_isOfOtherSort 1 := ⟨⟨ti_RX6, tcode_X6_isOfOtherSort, ⟨by decide, by decide, by decide +kernel⟩, by decide⟩, tin_X6_isOfOtherSort, tse_X6_isOfOtherSort⟩
theorem mdv_X6_holdsNothing : MDv mX6_holdsNothing 0 := ⟨⟨ti_RX6, tcode_X6_holdsNothing, ⟨by decide, by decide, by decide +kernel⟩, by decide⟩, tin_X6_holdsNothing, tse_X6_holdsNothing⟩
theorem mdv_X6_spans : MDv mX6_spans 2 := ⟨⟨ti_RX6, tcode_X6_spans, ⟨by decide, by decide, by decide +kernel⟩, by decide⟩, tin_X6_spans, tse_X6_spans⟩
theorem mdv_X0_fewestOff : MDv mX0_fewestOff 1 := ⟨⟨ti_RX0, tcode_X0_fewestOff, ⟨by decide, by decide, by decide +kernel⟩, by decide⟩, tin_X0_fewestOff, tse_X0_fewestOff⟩
theorem mdv_X0_leastWill : MDv mX0_leastWill 1 := ⟨⟨ti_RX0, tcode_X0_leastWill, ⟨by decide, by decide, by decide +kernel⟩, by decide⟩, tin_X0_leastWill, tse_X0_leastWill⟩
theorem mdv_X7_refuseLower : MDv mX7_refuseLower 1 := ⟨⟨ti_RX7, tcode_X7_refuseLower, ⟨by decide, by decide, by decide +kernel⟩, by decide⟩, tin_X7_refuseLower, tse_X7_refuseLower⟩
theorem mdv_X7_rowTrouble : MDv mX7_rowTrouble 1 := ⟨⟨ti_RX7, tcode_X7_rowTrouble, ⟨by decide, by decide, by decide +kernel⟩, by decide⟩, tin_X7_rowTrouble, tse_X7_rowTrouble⟩
theorem mdv_X1_search : MDv mX1_search 3 := ⟨⟨ti_RX1, tcode_X1_search, ⟨by decide, by decide, by decide +kernel⟩, by decide⟩, tin_X1_search, tse_X1_search⟩
theorem mdv_X6_at : MDv mX6_at 1 := ⟨⟨ti_RX6, tcode_X6_at, ⟨by decide, by decide, by decide +kernel⟩, by decide⟩, tin_X6_at, tse_X6_at⟩
theorem mdv_X7_toldDayTrouble : MDv mX7_toldDayTrouble 1 := ⟨⟨ti_RX7, tcode_X7_toldDayTrouble, ⟨by decide, by decide, by decide +kernel⟩, by decide⟩, tin_X7_toldDayTrouble, tse_X7_toldDayTrouble⟩
theorem mdv_X7_isFitting : MDv mX7_isFitting 2 := ⟨⟨ti_RX7, tcode_X7_isFitting, ⟨by decide, by decide, by decide +kernel⟩, by decide⟩, tin_X7_isFitting, tse_X7_isFitting⟩
theorem mds_X7_isKind : MDs mX7_isKind 1 := ⟨⟨ti_RX7, tcode_X7_isKind, ⟨by decide, by decide, by decide +kernel⟩, by decide⟩, tst_X7_isKind⟩
theorem mdv_X0_mostLike : MDv mX0_mostLike 1 := ⟨⟨ti_RX0, tcode_X0_mostLike, ⟨by decide, by decide, by decide +kernel⟩, by decide⟩, tin_X0_mostLike, tse_X0_mostLike⟩
theorem mdi_X0_init : MDi mX0_init 0 := ⟨⟨ti_RX0, tcode_X0_init, ⟨by decide, by decide, by decide +kernel⟩, by decide⟩, tin_X0_init, rfl, rfl⟩
theorem mdi_X5_init : MDi mX5_init 0 := ⟨⟨ti_RX5, tcode_X5_init, ⟨by decide, by decide, by decide +kernel⟩, by decide⟩, tin_X5_init, rfl, rfl⟩
theorem mdi_X1_init : MDi mX1_init 0 := ⟨⟨ti_RX1, tcode_X1_init, ⟨by decide, by decide, by decide +kernel⟩, by decide⟩, tin_X1_init, rfl, rfl⟩
theorem mdi_X3_init : MDi mX3_init 0 := ⟨⟨ti_RX3, tcode_X3_init, ⟨by decide, by decide, by decide +kernel⟩, by decide⟩, tin_X3_init, rfl, rfl⟩
theorem mdi_X6_init : MDi mX6_init 0 := ⟨⟨ti_RX6, tcode_X6_init, ⟨by decide, by decide, by decide +kernel⟩, by decide⟩, tin_X6_init, rfl, rfl⟩
theorem mdv_X6_holdNothing : MDv mX6_holdNothing 0 := ⟨⟨ti_RX6, tcode_X6_holdNothing, ⟨by decide, by decide, by decide +kernel⟩, by decide⟩, tin_X6_holdNothing, tse_X6_holdNothing⟩
theorem mdv_X6_holdRow : MDv mX6_holdRow 2 := ⟨⟨ti_RX6, tcode_X6_holdRow, ⟨by decide, by decide, by decide +kernel⟩, by decide⟩, tin_X6_holdRow, tse_X6_holdRow⟩
theorem mdv_X0_hoursToGo : MDv mX0_hoursToGo 1 := ⟨⟨ti_RX0, tcode_X0_hoursToGo, ⟨by decide, by decide, by decide +kernel⟩, by decide⟩, tin_X0_hoursToGo, tse_X0_hoursToGo⟩
theorem mdv_X2_isA : MDv mX2_isA 1 := ⟨⟨ti_RX2, tcode_X2_isA, ⟨by decide, by decide, by decide +kernel⟩, by decide⟩, tin_X2_isA, tse_X2_isA⟩
theorem mdv_X7_saying : MDv mX7_saying 2 := ⟨⟨ti_RX7, tcode_X7_saying, ⟨by decide, by decide, by decide +kernel⟩, by decide⟩, tin_X7_saying, tse_X7_saying⟩
theorem mdv_X6_put : MDv mX6_put 2 := ⟨⟨ti_RX6, tcode_X6_put, ⟨by decide, by decide, by decide +kernel⟩, by decide⟩, tin_X6_put, tse_X6_put⟩
theorem mdv_X0_daysTillSettled : MDv mX0_daysTillSettled 1 := ⟨⟨ti_RX0, tcode_X0_daysTillSettled, ⟨by decide, by decide, by decide +kernel⟩, by decide⟩, tin_X0_daysTillSettled, tse_X0_daysTillSettled⟩
theorem mdv_X6_holdGarment : MDv mX6_holdGarment 1 := ⟨⟨ti_RX6, tcode_X6_holdGarment, ⟨by decide, by decide, by decide +kernel⟩, by decide⟩, tin_X6_holdGarment, tse_X6_holdGarment⟩
theorem mdv_X0_countHabits : MDv mX0_countHabits 0 := ⟨⟨ti_RX0, tcode_X0_countHabits, ⟨by decide, by decide, by decide +kernel⟩, by decide⟩, tin_X0_countHabits, tse_X0_countHabits⟩
theorem mdv_X0_countWorn : MDv mX0_countWorn 0 := ⟨⟨ti_RX0, tcode_X0_countWorn, ⟨by decide, by decide, by decide +kernel⟩, by decide⟩, tin_X0_countWorn, tse_X0_countWorn⟩
theorem mdv_X6_tellsDeedsAlone : MDv mX6_tellsDeedsAlone 0 := ⟨⟨ti_RX6, tcode_X6_tellsDeedsAlone, ⟨by decide, by decide, by decide +kernel⟩, by decide⟩, tin_X6_tellsDeedsAlone, tse_X6_tellsDeedsAlone⟩
theorem mdv_X2_hasLearnt : MDv mX2_hasLearnt 1 := ⟨⟨ti_RX2, tcode_X2_hasLearnt, ⟨by decide, by decide, by decide +kernel⟩, by decide⟩, tin_X2_hasLearnt, tse_X2_hasLearnt⟩
theorem mdv_X2_learnDay : MDv mX2_learnDay 1 := ⟨⟨ti_RX2, tcode_X2_learnDay, ⟨by decide, by decide, by decide +kernel⟩, by decide⟩, tin_X2_learnDay, tse_X2_learnDay⟩
theorem mdv_X3_bodyAt : MDv mX3_bodyAt 1 := ⟨⟨ti_RX3, tcode_X3_bodyAt, ⟨by decide, by decide, by decide +kernel⟩, by decide⟩, tin_X3_bodyAt, tse_X3_bodyAt⟩
theorem mdv_X0_habitsPatched : MDv mX0_habitsPatched 2 := ⟨⟨ti_RX0, tcode_X0_habitsPatched, ⟨by decide, by decide, by decide +kernel⟩, by decide⟩, tin_X0_habitsPatched, tse_X0_habitsPatched⟩
theorem mdv_X0_hoursInStrife : MDv mX0_hoursInStrife 2 := ⟨⟨ti_RX0, tcode_X0_hoursInStrife, ⟨by decide, by decide, by decide +kernel⟩, by decide⟩, tin_X0_hoursInStrife, tse_X0_hoursInStrife⟩
theorem mdv_X5_read : MDv mX5_read 2 := ⟨⟨ti_RX5, tcode_X5_read, ⟨by decide, by decide, by decide +kernel⟩, by decide⟩, tin_X5_read, tse_X5_read⟩
theorem mdv_X0_unlikeDeeds : MDv mX0_unlikeDeeds 1 := ⟨⟨ti_RX0, tcode_X0_unlikeDeeds, ⟨by decide, by decide, by decide +kernel⟩, by decide⟩, tin_X0_unlikeDeeds, tse_X0_unlikeDeeds⟩
theorem mdv_X0_passYear : MDv mX0_passYear 0 := ⟨⟨ti_RX0, tcode_X0_passYear, ⟨by decide, by decide, by decide +kernel⟩, by decide⟩, tin_X0_passYear, tse_X0_passYear⟩
theorem mdv_X8_ran : MDv mX8_ran 1 := ⟨⟨ti_RX8, tcode_X8_ran, ⟨by decide, by decide, by decide +kernel⟩, by decide⟩, tin_X8_ran, tse_X8_ran⟩
theorem mdv_X8_sitsBy : MDv mX8_sitsBy 2 := ⟨⟨ti_RX8, tcode_X8_sitsBy, ⟨by decide, by decide, by decide +kernel⟩, by decide⟩, tin_X8_sitsBy, tse_X8_sitsBy⟩
theorem mdv_X8_pullsBy : MDv mX8_pullsBy 2 := ⟨⟨ti_RX8, tcode_X8_pullsBy, ⟨by decide, by decide, by decide +kernel⟩, by decide⟩, tin_X8_pullsBy, tse_X8_pullsBy⟩
theorem mds_X8_within : MDs mX8_within 3 := ⟨⟨ti_RX8, tcode_X8_within, ⟨by decide, by decide, by decide +kernel⟩, by decide⟩, tst_X8_within⟩
theorem mdv_X8_isGarment : MDv mX8_isGarment 1 := ⟨⟨ti_RX8, tcode_X8_isGarment, ⟨by decide, by decide, by decide +kernel⟩, by decide⟩, tin_X8_isGarment, tse_X8_isGarment⟩
theorem mdv_X8_fadesBy : MDv mX8_fadesBy 2 := ⟨⟨ti_RX8, tcode_X8_fadesBy, ⟨by decide, by decide, by decide +kernel⟩, by decide⟩, tin_X8_fadesBy, tse_X8_fadesBy⟩
theorem mdv_X8_habits : MDv mX8_habits 1 := ⟨⟨ti_RX8, tcode_X8_habits, ⟨by decide, by decide, by decide +kernel⟩, by decide⟩, tin_X8_habits, tse_X8_habits⟩
theorem mds_X8_above : MDs mX8_above 1 := ⟨⟨ti_RX8, tcode_X8_above, ⟨by decide, by decide, by decide +kernel⟩, by decide⟩, tst_X8_above⟩
theorem mds_X8_isUnder : MDs mX8_isUnder 2 := ⟨⟨ti_RX8, tcode_X8_isUnder, ⟨by decide, by decide, by decide +kernel⟩, by decide⟩, tst_X8_isUnder⟩
theorem mdv_X8_pull : MDv mX8_pull 2 := ⟨⟨ti_RX8, tcode_X8_pull, ⟨by decide, by decide, by decide +kernel⟩, by decide⟩, tin_X8_pull, tse_X8_pull⟩
theorem mdv_X8_couldGo : MDv mX8_couldGo 2 := ⟨⟨ti_RX8, tcode_X8_couldGo, ⟨by decide, by decide, by decide +kernel⟩, by decide⟩, tin_X8_couldGo, tse_X8_couldGo⟩
theorem mds_X8_isHour : MDs mX8_isHour 1 := ⟨⟨ti_RX8, tcode_X8_isHour, ⟨by decide, by decide, by decide +kernel⟩, by decide⟩, tst_X8_isHour⟩
theorem mdv_X8_goesNow : MDv mX8_goesNow 2 := ⟨⟨ti_RX8, tcode_X8_goesNow, ⟨by decide, by decide, by decide +kernel⟩, by decide⟩, tin_X8_goesNow, tse_X8_goesNow⟩
theorem mdv_X8_no : MDv mX8_no 1 := ⟨⟨ti_RX8, tcode_X8_no, ⟨by decide, by decide, by decide +kernel⟩, by decide⟩, tin_X8_no, tse_X8_no⟩
theorem mds_X8_has : MDs mX8_has 2 := ⟨⟨ti_RX8, tcode_X8_has, ⟨by decide, by decide, by decide +kernel⟩, by decide⟩, tst_X8_has⟩
theorem mdv_X8_doesWithout : MDv mX8_doesWithout 3 := ⟨⟨ti_RX8, tcode_X8_doesWithout, ⟨by decide, by decide, by decide +kernel⟩, by decide⟩, tin_X8_doesWithout, tse_X8_doesWithout⟩
theorem mdv_X8_step : MDv mX8_step 2 := ⟨⟨ti_RX8, tcode_X8_step, ⟨by decide, by decide, by decide +kernel⟩, by decide⟩, tin_X8_step, tse_X8_step⟩
theorem mdv_X8_becomes : MDv mX8_becomes 4 := ⟨⟨ti_RX8, tcode_X8_becomes, ⟨by decide, by decide, by decide +kernel⟩, by decide⟩, tin_X8_becomes, tse_X8_becomes⟩
theorem mdv_X8_learns : MDv mX8_learns 3 := ⟨⟨ti_RX8, tcode_X8_learns, ⟨by decide, by decide, by decide +kernel⟩, by decide⟩, tin_X8_learns, tse_X8_learns⟩
theorem mdv_X8_doesNow : MDv mX8_doesNow 2 := ⟨⟨ti_RX8, tcode_X8_doesNow, ⟨by decide, by decide, by decide +kernel⟩, by decide⟩, tin_X8_doesNow, tse_X8_doesNow⟩
theorem mdv_X8_day : MDv mX8_day 0 := ⟨⟨ti_RX8, tcode_X8_day, ⟨by decide, by decide, by decide +kernel⟩, by decide⟩, tin_X8_day, tse_X8_day⟩
theorem mds_X8_isDays : MDs mX8_isDays 1 := ⟨⟨ti_RX8, tcode_X8_isDays, ⟨by decide, by decide, by decide +kernel⟩, by decide⟩, tst_X8_isDays⟩
theorem mdv_X8_keep : MDv mX8_keep 1 := ⟨⟨ti_RX8, tcode_X8_keep, ⟨by decide, by decide, by decide +kernel⟩, by decide⟩, tin_X8_keep, tse_X8_keep⟩
theorem mdv_X8_waits : MDv mX8_waits 1 := ⟨⟨ti_RX8, tcode_X8_waits, ⟨by decide, by decide, by decide +kernel⟩, by decide⟩, tin_X8_waits, tse_X8_waits⟩
theorem mdv_X8_again : MDv mX8_again 1 := ⟨⟨ti_RX8, tcode_X8_again, ⟨by decide, by decide, by decide +kernel⟩, by decide⟩, tin_X8_again, tse_X8_again⟩
theorem mdv_X8_isRow : MDv mX8_isRow 1 := ⟨⟨ti_RX8, tcode_X8_isRow, ⟨by decide, by decide, by decide +kernel⟩, by decide⟩, tin_X8_isRow, tse_X8_isRow⟩
theorem mdv_X8_isOne : MDv mX8_isOne 1 := ⟨⟨ti_RX8, tcode_X8_isOne, ⟨by decide, by decide, by decide +kernel⟩, by decide⟩, tin_X8_isOne, tse_X8_isOne⟩
theorem mdv_X8_isHimself : MDv mX8_isHimself 2 := ⟨⟨ti_RX8, tcode_X8_isHimself, ⟨by decide, by decide, by decide +kernel⟩, by decide⟩, tin_X8_isHimself, tse_X8_isHimself⟩
theorem mdv_X8_no10 : MDv mX8_no10 1 := ⟨⟨ti_RX8, tcode_X8_no10, ⟨by decide, by decide, by decide +kernel⟩, by decide⟩, tin_X8_no10, tse_X8_no10⟩
theorem mdv_X8_told : MDv mX8_told 2 := ⟨⟨ti_RX8, tcode_X8_told, ⟨by decide, by decide, by decide +kernel⟩, by decide⟩, tin_X8_told, tse_X8_told⟩
theorem mdv_X8_noRow : MDv mX8_noRow 1 := ⟨⟨ti_RX8, tcode_X8_noRow, ⟨by decide, by decide, by decide +kernel⟩, by decide⟩, tin_X8_noRow, tse_X8_noRow⟩
theorem mdv_X8_doneOf : MDv mX8_doneOf 1 := ⟨⟨ti_RX8, tcode_X8_doneOf, ⟨by decide, by decide, by decide +kernel⟩, by decide⟩, tin_X8_doneOf, tse_X8_doneOf⟩
theorem mdv_X8_noDay : MDv mX8_noDay 1 := ⟨⟨ti_RX8, tcode_X8_noDay, ⟨by decide, by decide, by decide +kernel⟩, by decide⟩, tin_X8_noDay, tse_X8_noDay⟩
theorem mds_X8_isDigit : MDs mX8_isDigit 1 := ⟨⟨ti_RX8, tcode_X8_isDigit, ⟨by decide, by decide, by decide +kernel⟩, by decide⟩, tst_X8_isDigit⟩
theorem mdv_X8_newGarment : MDv mX8_newGarment 2 := ⟨⟨ti_RX8, tcode_X8_newGarment, ⟨by decide, by decide, by decide +kernel⟩, by decide⟩, tin_X8_newGarment, tse_X8_newGarment⟩
theorem mdv_X8_likeOf : MDv mX8_likeOf 2 := ⟨⟨ti_RX8, tcode_X8_likeOf, ⟨by decide, by decide, by decide +kernel⟩, by decide⟩, tin_X8_likeOf, tse_X8_likeOf⟩
theorem mdv_X8_whoseOf : MDv mX8_whoseOf 1 := ⟨⟨ti_RX8, tcode_X8_whoseOf, ⟨by decide, by decide, by decide +kernel⟩, by decide⟩, tin_X8_whoseOf, tse_X8_whoseOf⟩
theorem mdv_X8_sign : MDv mX8_sign 0 := ⟨⟨ti_RX8, tcode_X8_sign, ⟨by decide, by decide, by decide +kernel⟩, by decide⟩, tin_X8_sign, tse_X8_sign⟩
theorem mdv_X8_is : MDv mX8_is 1 := ⟨⟨ti_RX8, tcode_X8_is, ⟨by decide, by decide, by decide +kernel⟩, by decide⟩, tin_X8_is, tse_X8_is⟩
theorem mds_X8_washedBy : MDs mX8_washedBy 1 := ⟨⟨ti_RX8, tcode_X8_washedBy, ⟨by decide, by decide, by decide +kernel⟩, by decide⟩, tst_X8_washedBy⟩
theorem mdv_X8_word : MDv mX8_word 1 := ⟨⟨ti_RX8, tcode_X8_word, ⟨by decide, by decide, by decide +kernel⟩, by decide⟩, tin_X8_word, tse_X8_word⟩
theorem mdv_X8_word_ : MDv mX8_word_ 2 := ⟨⟨ti_RX8, tcode_X8_word_, ⟨by decide, by decide, by decide +kernel⟩, by decide⟩, tin_X8_word_, tse_X8_word_⟩
theorem mdv_X8_number : MDv mX8_number 3 := ⟨⟨ti_RX8, tcode_X8_number, ⟨by decide, by decide, by decide +kernel⟩, by decide⟩, tin_X8_number, tse_X8_number⟩
theorem mdv_X8_then : MDv mX8_then 1 := ⟨⟨ti_RX8, tcode_X8_then, ⟨by decide, by decide, by decide +kernel⟩, by decide⟩, tin_X8_then, tse_X8_then⟩
theorem mdv_X8_newOne : MDv mX8_newOne 1 := ⟨⟨ti_RX8, tcode_X8_newOne, ⟨by decide, by decide, by decide +kernel⟩, by decide⟩, tin_X8_newOne, tse_X8_newOne⟩
theorem mdv_X8_washes : MDv mX8_washes 1 := ⟨⟨ti_RX8, tcode_X8_washes, ⟨by decide, by decide, by decide +kernel⟩, by decide⟩, tin_X8_washes, tse_X8_washes⟩
theorem mdv_X8_allHabits : MDv mX8_allHabits 0 := ⟨⟨ti_RX8, tcode_X8_allHabits, ⟨by decide, by decide, by decide +kernel⟩, by decide⟩, tin_X8_allHabits, tse_X8_allHabits⟩
theorem mdv_X8_item : MDv mX8_item 0 := ⟨⟨ti_RX8, tcode_X8_item, ⟨by decide, by decide, by decide +kernel⟩, by decide⟩, tin_X8_item, tse_X8_item⟩
theorem mdv_X8_draw : MDv mX8_draw 1 := ⟨⟨ti_RX8, tcode_X8_draw, ⟨by decide, by decide, by decide +kernel⟩, by decide⟩, tin_X8_draw, tse_X8_draw⟩
