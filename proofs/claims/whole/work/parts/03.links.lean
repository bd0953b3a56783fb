/-! method descriptors, cells, words by their places: written by a program out of the printed claim -/
abbrev MD : Type := MethodName × ByteArray × Nat × Option FieldType × Room
def mX7_init : MD := (yX7_init, cX7_init, 1, none, { frames := 3, cells := 43, slots := 863, locals := 120 })
def mX6_init : MD := (yX6_init, cX6_init, 1, none, { frames := 1, cells := 5, slots := 30, locals := 40 })
def mX5_init : MD := (yX5_init, cX5_init, 1, none, { frames := 2, cells := 8, slots := 242, locals := 80 })
def mX3_init : MD := (yX3_init, cX3_init, 2, none, { frames := 1, cells := 3, slots := 24, locals := 40 })
def mX2_init : MD := (yX2_init, cX2_init, 3, none, { frames := 1, cells := 3, slots := 18, locals := 40 })
def mX1_init : MD := (yX1_init, cX1_init, 3, none, { frames := 1, cells := 1, slots := 384, locals := 40 })
def mX0_init : MD := (yX0_init, cX0_init, 1, none, { frames := 1, cells := 4, slots := 30, locals := 40 })
def mJ7_fill_53178 : MD := (yJ7_fill_53178, cJ7_fill_53178, 4, none, { frames := 0, cells := 0, slots := 0, locals := 0 })
def mX4_init : MD := (yX4_init, cX4_init, 1, none, { frames := 1, cells := 2, slots := 12, locals := 40 })
def mX7_write : MD := (yX7_write, cX7_write, 5, (some .int), { frames := 1, cells := 0, slots := 0, locals := 40 })
def mX5_append : MD := (yX5_append, cX5_append, 2, none, { frames := 0, cells := 0, slots := 0, locals := 0 })
def mX7_erase : MD := (yX7_erase, cX7_erase, 2, (some .int), { frames := 0, cells := 0, slots := 0, locals := 0 })
def mX7_fault : MD := (yX7_fault, cX7_fault, 1, (some .int), { frames := 9, cells := 0, slots := 0, locals := 360 })
def mX5_read : MD := (yX5_read, cX5_read, 2, (some .int), { frames := 8, cells := 0, slots := 0, locals := 320 })
def mX6_copyFrom : MD := (yX6_copyFrom, cX6_copyFrom, 2, none, { frames := 1, cells := 0, slots := 0, locals := 40 })
def mX5_doLine : MD := (yX5_doLine, cX5_doLine, 2, (some .boolean), { frames := 7, cells := 0, slots := 0, locals := 280 })
def mX5_nextToken : MD := (yX5_nextToken, cX5_nextToken, 1, none, { frames := 1, cells := 0, slots := 0, locals := 40 })
def mX5_isLetter : MD := (yX5_isLetter, cX5_isLetter, 1, (some .boolean), { frames := 0, cells := 0, slots := 0, locals := 0 })
def mX5_isDigit : MD := (yX5_isDigit, cX5_isDigit, 1, (some .boolean), { frames := 0, cells := 0, slots := 0, locals := 0 })
def mX5_isWord : MD := (yX5_isWord, cX5_isWord, 3, (some .boolean), { frames := 5, cells := 0, slots := 0, locals := 200 })
def mJ0_length_8abf5 : MD := (yJ0_length_8abf5, cJ0_length_8abf5, 1, (some .int), { frames := 1, cells := 0, slots := 0, locals := 40 })
def mJ0_coder_7d493 : MD := (yJ0_coder_7d493, cJ0_coder_7d493, 1, (some .byte), { frames := 0, cells := 0, slots := 0, locals := 0 })
def mJ0_charAt_5068e : MD := (yJ0_charAt_5068e, cJ0_charAt_5068e, 2, (some .char), { frames := 4, cells := 0, slots := 0, locals := 160 })
def mJ0_isLatin1_aae02 : MD := (yJ0_isLatin1_aae02, cJ0_isLatin1_aae02, 1, (some .boolean), { frames := 0, cells := 0, slots := 0, locals := 0 })
def mJ1_charAt_3b067 : MD := (yJ1_charAt_3b067, cJ1_charAt_3b067, 2, (some .char), { frames := 2, cells := 0, slots := 0, locals := 80 })
def mJ0_checkIndex_df160 : MD := (yJ0_checkIndex_df160, cJ0_checkIndex_df160, 2, none, { frames := 1, cells := 0, slots := 0, locals := 40 })
def mJ3_checkIndex_8e157 : MD := (yJ3_checkIndex_8e157, cJ3_checkIndex_8e157, 3, (some .int), { frames := 0, cells := 0, slots := 0, locals := 0 })
def mJ2_charAt_3b067 : MD := (yJ2_charAt_3b067, cJ2_charAt_3b067, 2, (some .char), { frames := 3, cells := 0, slots := 0, locals := 120 })
def mJ2_checkIndex_2214a : MD := (yJ2_checkIndex_2214a, cJ2_checkIndex_2214a, 2, none, { frames := 2, cells := 0, slots := 0, locals := 80 })
def mJ2_length_9d52b : MD := (yJ2_length_9d52b, cJ2_length_9d52b, 1, (some .int), { frames := 0, cells := 0, slots := 0, locals := 0 })
def mJ2_getChar_3b067 : MD := (yJ2_getChar_3b067, cJ2_getChar_3b067, 2, (some .char), { frames := 1, cells := 0, slots := 0, locals := 40 })
def mX5_doInn : MD := (yX5_doInn, cX5_doInn, 1, (some .boolean), { frames := 3, cells := 0, slots := 0, locals := 120 })
def mX5_readNumber : MD := (yX5_readNumber, cX5_readNumber, 4, (some .boolean), { frames := 2, cells := 0, slots := 0, locals := 80 })
def mX6_beginInn : MD := (yX6_beginInn, cX6_beginInn, 2, none, { frames := 0, cells := 0, slots := 0, locals := 0 })
def mX5_doChair : MD := (yX5_doChair, cX5_doChair, 2, (some .boolean), { frames := 3, cells := 0, slots := 0, locals := 120 })
def mX6_hasChair : MD := (yX6_hasChair, cX6_hasChair, 2, (some .boolean), { frames := 1, cells := 0, slots := 0, locals := 40 })
def mX6_hasPlace : MD := (yX6_hasPlace, cX6_hasPlace, 2, (some .boolean), { frames := 0, cells := 0, slots := 0, locals := 0 })
def mX7_holds : MD := (yX7_holds, cX7_holds, 2, (some .boolean), { frames := 0, cells := 0, slots := 0, locals := 0 })
def mX5_kindOfWord : MD := (yX5_kindOfWord, cX5_kindOfWord, 1, (some .int), { frames := 6, cells := 0, slots := 0, locals := 240 })
def mX5_doGuest : MD := (yX5_doGuest, cX5_doGuest, 3, (some .boolean), { frames := 3, cells := 0, slots := 0, locals := 120 })
def mX5_mostOf : MD := (yX5_mostOf, cX5_mostOf, 2, (some .int), { frames := 0, cells := 0, slots := 0, locals := 0 })
def mX6_addGuest : MD := (yX6_addGuest, cX6_addGuest, 3, (some .boolean), { frames := 0, cells := 0, slots := 0, locals := 0 })
def mX7_inn : MD := (yX7_inn, cX7_inn, 1, (some .int), { frames := 9, cells := 0, slots := 0, locals := 360 })
def mX0_begin : MD := (yX0_begin, cX0_begin, 2, none, { frames := 2, cells := 0, slots := 0, locals := 80 })
def mX0_getUp : MD := (yX0_getUp, cX0_getUp, 1, none, { frames := 1, cells := 0, slots := 0, locals := 40 })
def mX7_place : MD := (yX7_place, cX7_place, 3, (some .int), { frames := 2, cells := 0, slots := 0, locals := 80 })
def mX0_whoIsAt : MD := (yX0_whoIsAt, cX0_whoIsAt, 5, (some .int), { frames := 0, cells := 0, slots := 0, locals := 0 })
def mX7_guest : MD := (yX7_guest, cX7_guest, 3, (some .int), { frames := 1, cells := 0, slots := 0, locals := 40 })
def mX6_hasGuest : MD := (yX6_hasGuest, cX6_hasGuest, 2, (some .boolean), { frames := 0, cells := 0, slots := 0, locals := 0 })
def mX7_as : MD := (yX7_as, cX7_as, 4, (some .int), { frames := 3, cells := 0, slots := 0, locals := 120 })
def mX6_isA : MD := (yX6_isA, cX6_isA, 3, (some .boolean), { frames := 0, cells := 0, slots := 0, locals := 0 })
def mX6_nearestChair : MD := (yX6_nearestChair, cX6_nearestChair, 3, (some .int), { frames := 2, cells := 0, slots := 0, locals := 80 })
def mX6_farthest : MD := (yX6_farthest, cX6_farthest, 1, (some .int), { frames := 0, cells := 0, slots := 0, locals := 0 })
def mX6_leastAt : MD := (yX6_leastAt, cX6_leastAt, 8, (some .int), { frames := 1, cells := 0, slots := 0, locals := 40 })
def mX6_ease : MD := (yX6_ease, cX6_ease, 2, (some .int), { frames := 0, cells := 0, slots := 0, locals := 0 })
def mX7_walk : MD := (yX7_walk, cX7_walk, 2, (some .int), { frames := 3, cells := 0, slots := 0, locals := 120 })
def mX0_goOn : MD := (yX0_goOn, cX0_goOn, 4, none, { frames := 2, cells := 0, slots := 0, locals := 80 })
def mX6_placeAfter : MD := (yX6_placeAfter, cX6_placeAfter, 5, (some .int), { frames := 1, cells := 0, slots := 0, locals := 40 })
def mJ9_floorMod_7cf53 : MD := (yJ9_floorMod_7cf53, cJ9_floorMod_7cf53, 3, (some .int), { frames := 0, cells := 0, slots := 0, locals := 0 })
def mX7_stop : MD := (yX7_stop, cX7_stop, 2, (some .int), { frames := 5, cells := 0, slots := 0, locals := 200 })
def mX6_everyone : MD := (yX6_everyone, cX6_everyone, 1, (some .int), { frames := 0, cells := 0, slots := 0, locals := 0 })
def mX3_settle : MD := (yX3_settle, cX3_settle, 3, (some .int), { frames := 4, cells := 0, slots := 0, locals := 160 })
def mX6_allOfKind : MD := (yX6_allOfKind, cX6_allOfKind, 4, (some .int), { frames := 0, cells := 0, slots := 0, locals := 0 })
def mX3_seatAll : MD := (yX3_seatAll, cX3_seatAll, 6, (some .int), { frames := 3, cells := 0, slots := 0, locals := 120 })
def mX3_seatOne : MD := (yX3_seatOne, cX3_seatOne, 5, none, { frames := 2, cells := 0, slots := 0, locals := 80 })
def mX3_take : MD := (yX3_take, cX3_take, 3, none, { frames := 0, cells := 0, slots := 0, locals := 0 })
def mX3_settleFaint : MD := (yX3_settleFaint, cX3_settleFaint, 2, none, { frames := 4, cells := 0, slots := 0, locals := 160 })
def mX0_end : MD := (yX0_end, cX0_end, 7, none, { frames := 1, cells := 0, slots := 0, locals := 40 })
def mJ6_bitCount_0f7a4 : MD := (yJ6_bitCount_0f7a4, cJ6_bitCount_0f7a4, 1, (some .int), { frames := 0, cells := 0, slots := 0, locals := 0 })
def mX6_allWorth : MD := (yX6_allWorth, cX6_allWorth, 3, (some .int), { frames := 0, cells := 0, slots := 0, locals := 0 })
def mX7_play : MD := (yX7_play, cX7_play, 1, (some .int), { frames := 2, cells := 0, slots := 0, locals := 80 })
def mX7_keep : MD := (yX7_keep, cX7_keep, 3, (some .int), { frames := 2, cells := 0, slots := 0, locals := 80 })
def mX7_isEither : MD := (yX7_isEither, cX7_isEither, 1, (some .boolean), { frames := 0, cells := 0, slots := 0, locals := 0 })
def mX0_copyFrom : MD := (yX0_copyFrom, cX0_copyFrom, 2, none, { frames := 1, cells := 0, slots := 0, locals := 40 })
def mX7_back : MD := (yX7_back, cX7_back, 3, (some .int), { frames := 2, cells := 0, slots := 0, locals := 80 })
def mX7_standing : MD := (yX7_standing, cX7_standing, 2, (some .int), { frames := 6, cells := 0, slots := 0, locals := 240 })
def mX7_isMinute : MD := (yX7_isMinute, cX7_isMinute, 1, (some .boolean), { frames := 0, cells := 0, slots := 0, locals := 0 })
def mX2_asTold : MD := (yX2_asTold, cX2_asTold, 1, none, { frames := 1, cells := 0, slots := 0, locals := 40 })
def mX2_stoodAt : MD := (yX2_stoodAt, cX2_stoodAt, 2, (some .int), { frames := 5, cells := 0, slots := 0, locals := 200 })
def mX2_goTo : MD := (yX2_goTo, cX2_goTo, 3, none, { frames := 2, cells := 0, slots := 0, locals := 80 })
def mX7_odds : MD := (yX7_odds, cX7_odds, 8, (some .int), { frames := 6, cells := 0, slots := 0, locals := 240 })
def mX7_areMinutes : MD := (yX7_areMinutes, cX7_areMinutes, 2, (some .boolean), { frames := 1, cells := 0, slots := 0, locals := 40 })
def mX2_tally : MD := (yX2_tally, cX2_tally, 5, none, { frames := 5, cells := 0, slots := 0, locals := 200 })
def mX2_minutesLike : MD := (yX2_minutesLike, cX2_minutesLike, 4, (some .int), { frames := 1, cells := 0, slots := 0, locals := 40 })
def mX2_minutesLikeTo : MD := (yX2_minutesLikeTo, cX2_minutesLikeTo, 3, (some .int), { frames := 0, cells := 0, slots := 0, locals := 0 })
def mX2_addTimes : MD := (yX2_addTimes, cX2_addTimes, 4, none, { frames := 1, cells := 0, slots := 0, locals := 40 })
def mX7_commonDivisor : MD := (yX7_commonDivisor, cX7_commonDivisor, 6, (some .int), { frames := 0, cells := 0, slots := 0, locals := 0 })
def mX7_surest : MD := (yX7_surest, cX7_surest, 5, (some .int), { frames := 7, cells := 0, slots := 0, locals := 280 })
def mX1_findSurest : MD := (yX1_findSurest, cX1_findSurest, 6, none, { frames := 6, cells := 0, slots := 0, locals := 240 })
def mX7_still : MD := (yX7_still, cX7_still, 4, (some .int), { frames := 7, cells := 0, slots := 0, locals := 280 })
def mX1_findStill : MD := (yX1_findStill, cX1_findStill, 5, none, { frames := 6, cells := 0, slots := 0, locals := 240 })
def mX1_nobodyWouldChange : MD := (yX1_nobodyWouldChange, cX1_nobodyWouldChange, 4, (some .boolean), { frames := 0, cells := 0, slots := 0, locals := 0 })
def mX7_plot : MD := (yX7_plot, cX7_plot, 5, (some .int), { frames := 7, cells := 0, slots := 0, locals := 280 })
def mX6_hasAll : MD := (yX6_hasAll, cX6_hasAll, 2, (some .boolean), { frames := 1, cells := 0, slots := 0, locals := 40 })
def mX1_findPlot : MD := (yX1_findPlot, cX1_findPlot, 6, none, { frames := 6, cells := 0, slots := 0, locals := 240 })
def mX1_keepStill : MD := (yX1_keepStill, cX1_keepStill, 3, none, { frames := 2, cells := 0, slots := 0, locals := 80 })
def mX7_price : MD := (yX7_price, cX7_price, 3, (some .int), { frames := 6, cells := 0, slots := 0, locals := 240 })
def mX6_greatestWorth : MD := (yX6_greatestWorth, cX6_greatestWorth, 4, (some .int), { frames := 1, cells := 0, slots := 0, locals := 40 })
def mJ9_max_7cf53 : MD := (yJ9_max_7cf53, cJ9_max_7cf53, 2, (some .int), { frames := 0, cells := 0, slots := 0, locals := 0 })
def mX7_laid : MD := (yX7_laid, cX7_laid, 5, (some .int), { frames := 7, cells := 0, slots := 0, locals := 280 })
def mX1_findLaid : MD := (yX1_findLaid, cX1_findLaid, 6, none, { frames := 6, cells := 0, slots := 0, locals := 240 })
def mX2_spread : MD := (yX2_spread, cX2_spread, 4, (some .int), { frames := 1, cells := 0, slots := 0, locals := 40 })
def mJ9_min_7cf53 : MD := (yJ9_min_7cf53, cJ9_min_7cf53, 2, (some .int), { frames := 0, cells := 0, slots := 0, locals := 0 })
def mX7_left : MD := (yX7_left, cX7_left, 4, (some .int), { frames := 7, cells := 0, slots := 0, locals := 280 })
def mX2_playRounds : MD := (yX2_playRounds, cX2_playRounds, 4, (some .int), { frames := 6, cells := 0, slots := 0, locals := 240 })
def mX7_seen : MD := (yX7_seen, cX7_seen, 3, (some .int), { frames := 1, cells := 0, slots := 0, locals := 40 })
def mX4_add : MD := (yX4_add, cX4_add, 3, none, { frames := 0, cells := 0, slots := 0, locals := 0 })
def mX7_forget : MD := (yX7_forget, cX7_forget, 2, (some .int), { frames := 0, cells := 0, slots := 0, locals := 0 })
def mX7_fits : MD := (yX7_fits, cX7_fits, 2, (some .int), { frames := 7, cells := 0, slots := 0, locals := 280 })
def mX1_findFits : MD := (yX1_findFits, cX1_findFits, 3, none, { frames := 6, cells := 0, slots := 0, locals := 240 })
def mX4_fit : MD := (yX4_fit, cX4_fit, 3, (some .boolean), { frames := 0, cells := 0, slots := 0, locals := 0 })
def mX7_count : MD := (yX7_count, cX7_count, 2, (some .int), { frames := 0, cells := 0, slots := 0, locals := 0 })
def mX8_init : MD := (yX8_init, cX8_init, 1, none, { frames := 2, cells := 16, slots := 799, locals := 80 })
def mX8_begin : MD := (yX8_begin, cX8_begin, 2, none, { frames := 1, cells := 0, slots := 0, locals := 40 })
def mX8_in : MD := (yX8_in, cX8_in, 6, (some .boolean), { frames := 0, cells := 0, slots := 0, locals := 0 })
def mX8_write : MD := (yX8_write, cX8_write, 5, (some .int), { frames := 1, cells := 0, slots := 0, locals := 40 })
def mX8_erase : MD := (yX8_erase, cX8_erase, 2, (some .int), { frames := 0, cells := 0, slots := 0, locals := 0 })
def mX8_fault : MD := (yX8_fault, cX8_fault, 2, (some .int), { frames := 6, cells := 0, slots := 0, locals := 240 })
def mX8_token : MD := (yX8_token, cX8_token, 1, none, { frames := 1, cells := 0, slots := 0, locals := 40 })
def mX8_sort : MD := (yX8_sort, cX8_sort, 1, (some .int), { frames := 0, cells := 0, slots := 0, locals := 0 })
def mX8_readsLine : MD := (yX8_readsLine, cX8_readsLine, 3, (some .boolean), { frames := 5, cells := 0, slots := 0, locals := 200 })
def mX8_wordOf : MD := (yX8_wordOf, cX8_wordOf, 2, (some .int), { frames := 2, cells := 0, slots := 0, locals := 80 })
def mX8_guestWord : MD := (yX8_guestWord, cX8_guestWord, 1, (some .int), { frames := 1, cells := 0, slots := 0, locals := 40 })
def mX8_isWord : MD := (yX8_isWord, cX8_isWord, 5, (some .boolean), { frames := 0, cells := 0, slots := 0, locals := 0 })
def mX8_isGuestWord : MD := (yX8_isGuestWord, cX8_isGuestWord, 1, (some .boolean), { frames := 1, cells := 0, slots := 0, locals := 40 })
def mX8_readsRest : MD := (yX8_readsRest, cX8_readsRest, 4, (some .boolean), { frames := 4, cells := 0, slots := 0, locals := 160 })
def mX8_numberHere : MD := (yX8_numberHere, cX8_numberHere, 3, (some .int), { frames := 1, cells := 0, slots := 0, locals := 40 })
def mX8_reads : MD := (yX8_reads, cX8_reads, 5, (some .boolean), { frames := 2, cells := 0, slots := 0, locals := 80 })
def mX8_has : MD := (yX8_has, cX8_has, 2, (some .boolean), { frames := 0, cells := 0, slots := 0, locals := 0 })
def mX8_readsGuest : MD := (yX8_readsGuest, cX8_readsGuest, 1, (some .boolean), { frames := 3, cells := 0, slots := 0, locals := 120 })
def mX8_inn : MD := (yX8_inn, cX8_inn, 2, (some .int), { frames := 7, cells := 0, slots := 0, locals := 280 })
def mX8_tell : MD := (yX8_tell, cX8_tell, 3, none, { frames := 0, cells := 0, slots := 0, locals := 0 })
def mX8_place : MD := (yX8_place, cX8_place, 6, (some .int), { frames := 2, cells := 0, slots := 0, locals := 80 })
def mX8_isPlace : MD := (yX8_isPlace, cX8_isPlace, 2, (some .boolean), { frames := 1, cells := 0, slots := 0, locals := 40 })
def mX8_guest : MD := (yX8_guest, cX8_guest, 3, (some .int), { frames := 2, cells := 0, slots := 0, locals := 80 })
def mX8_isGuest : MD := (yX8_isGuest, cX8_isGuest, 2, (some .boolean), { frames := 1, cells := 0, slots := 0, locals := 40 })
def mX8_as : MD := (yX8_as, cX8_as, 8, (some .int), { frames := 2, cells := 0, slots := 0, locals := 80 })
def mX8_effort : MD := (yX8_effort, cX8_effort, 4, (some .int), { frames := 1, cells := 0, slots := 0, locals := 40 })
def mX8_far : MD := (yX8_far, cX8_far, 4, (some .int), { frames := 0, cells := 0, slots := 0, locals := 0 })
def mX8_walk : MD := (yX8_walk, cX8_walk, 3, (some .int), { frames := 1, cells := 0, slots := 0, locals := 40 })
def mX8_walked : MD := (yX8_walked, cX8_walked, 6, (some .int), { frames := 0, cells := 0, slots := 0, locals := 0 })
def mX8_stop : MD := (yX8_stop, cX8_stop, 4, (some .int), { frames := 5, cells := 0, slots := 0, locals := 200 })
def mX8_everybody : MD := (yX8_everybody, cX8_everybody, 1, (some .int), { frames := 0, cells := 0, slots := 0, locals := 0 })
def mX8_stops : MD := (yX8_stops, cX8_stops, 5, (some .int), { frames := 4, cells := 0, slots := 0, locals := 160 })
def mX8_faint : MD := (yX8_faint, cX8_faint, 3, (some .int), { frames := 0, cells := 0, slots := 0, locals := 0 })
def mX8_seat : MD := (yX8_seat, cX8_seat, 2, none, { frames := 3, cells := 0, slots := 0, locals := 120 })
def mX8_findsTwo : MD := (yX8_findsTwo, cX8_findsTwo, 7, (some .boolean), { frames := 2, cells := 0, slots := 0, locals := 80 })
def mX8_takeSecond : MD := (yX8_takeSecond, cX8_takeSecond, 6, none, { frames := 1, cells := 0, slots := 0, locals := 40 })
def mX8_bits : MD := (yX8_bits, cX8_bits, 3, (some .int), { frames := 0, cells := 0, slots := 0, locals := 0 })
def mX8_play : MD := (yX8_play, cX8_play, 2, (some .int), { frames := 0, cells := 0, slots := 0, locals := 0 })
def mX8_keep : MD := (yX8_keep, cX8_keep, 2, (some .int), { frames := 1, cells := 0, slots := 0, locals := 40 })
def mX8_copy : MD := (yX8_copy, cX8_copy, 4, none, { frames := 0, cells := 0, slots := 0, locals := 0 })
def mX8_back : MD := (yX8_back, cX8_back, 2, (some .int), { frames := 1, cells := 0, slots := 0, locals := 40 })
def mX8_standing : MD := (yX8_standing, cX8_standing, 2, (some .int), { frames := 6, cells := 0, slots := 0, locals := 240 })
def mX8_isTime : MD := (yX8_isTime, cX8_isTime, 1, (some .boolean), { frames := 1, cells := 0, slots := 0, locals := 40 })
def mX8_standingAt : MD := (yX8_standingAt, cX8_standingAt, 2, (some .int), { frames := 5, cells := 0, slots := 0, locals := 200 })
def mX8_layAts : MD := (yX8_layAts, cX8_layAts, 3, none, { frames := 1, cells := 0, slots := 0, locals := 40 })
def mX8_odds : MD := (yX8_odds, cX8_odds, 10, (some .int), { frames := 7, cells := 0, slots := 0, locals := 280 })
def mX8_isSpan : MD := (yX8_isSpan, cX8_isSpan, 2, (some .boolean), { frames := 2, cells := 0, slots := 0, locals := 80 })
def mX8_minutesOf : MD := (yX8_minutesOf, cX8_minutesOf, 6, (some .int), { frames := 6, cells := 0, slots := 0, locals := 240 })
def mX8_surest : MD := (yX8_surest, cX8_surest, 11, (some .int), { frames := 7, cells := 0, slots := 0, locals := 280 })
def mX8_still : MD := (yX8_still, cX8_still, 7, (some .int), { frames := 7, cells := 0, slots := 0, locals := 280 })
def mX8_savePaces : MD := (yX8_savePaces, cX8_savePaces, 2, none, { frames := 0, cells := 0, slots := 0, locals := 0 })
def mX8_layStands : MD := (yX8_layStands, cX8_layStands, 7, none, { frames := 6, cells := 0, slots := 0, locals := 240 })
def mX8_restorePaces : MD := (yX8_restorePaces, cX8_restorePaces, 2, none, { frames := 0, cells := 0, slots := 0, locals := 0 })
def mX8_isStill : MD := (yX8_isStill, cX8_isStill, 4, (some .boolean), { frames := 0, cells := 0, slots := 0, locals := 0 })
def mX8_plot : MD := (yX8_plot, cX8_plot, 8, (some .int), { frames := 6, cells := 0, slots := 0, locals := 240 })
def mX8_price : MD := (yX8_price, cX8_price, 6, (some .int), { frames := 6, cells := 0, slots := 0, locals := 240 })
def mX8_laid : MD := (yX8_laid, cX8_laid, 9, (some .int), { frames := 6, cells := 0, slots := 0, locals := 240 })
def mX8_apart : MD := (yX8_apart, cX8_apart, 7, (some .int), { frames := 5, cells := 0, slots := 0, locals := 200 })
def mX8_left : MD := (yX8_left, cX8_left, 8, (some .int), { frames := 5, cells := 0, slots := 0, locals := 200 })
def mX8_leastOf : MD := (yX8_leastOf, cX8_leastOf, 1, (some .int), { frames := 0, cells := 0, slots := 0, locals := 0 })
def mX8_seen : MD := (yX8_seen, cX8_seen, 3, (some .int), { frames := 2, cells := 0, slots := 0, locals := 80 })
def mX8_forget : MD := (yX8_forget, cX8_forget, 2, (some .int), { frames := 0, cells := 0, slots := 0, locals := 0 })
def mX8_fits : MD := (yX8_fits, cX8_fits, 8, (some .int), { frames := 6, cells := 0, slots := 0, locals := 240 })
def mX8_count : MD := (yX8_count, cX8_count, 2, (some .int), { frames := 0, cells := 0, slots := 0, locals := 0 })
def mL_law : MD := (yL_law, cL_law, 4, (some .boolean), { frames := 12, cells := 61, slots := 1702, locals := 420 })
/-- a cell by its number: (0, n) an int array, (1, n) a boolean array, (2, c) an object of class c of CL -/
def shp : List (Nat × Nat) := [(2, 7), (2, 6), (0, 6), (0, 6), (0, 6), (0, 6), (0, 6), (2, 5), (0, 200), (2, 6), (0, 6), (0, 6), (0, 6), (0, 6), (0, 6), (0, 4), (2, 3), (0, 6), (0, 6), (0, 12), (2, 2), (0, 6), (0, 6), (0, 6), (2, 1), (0, 384), (2, 0), (0, 6), (0, 6), (0, 12), (0, 6), (2, 0), (0, 6), (0, 6), (0, 12), (0, 6), (2, 0), (0, 6), (0, 6), (0, 12), (0, 6), (2, 4), (0, 6), (0, 6), (2, 8), (0, 81), (1, 2), (0, 200), (0, 60), (0, 6), (0, 6), (0, 6), (0, 6), (0, 6), (0, 6), (0, 6), (0, 6), (0, 6), (0, 384), (0, 6), (0, 12)]
def rtab : List (List Bool) := [[false, false, false, false, true, true, true, true], [true, true, true, false, false, false, false], [true, true, true, true, true, false, false], [true, true, true, true, false, false], [false, true, true], [true, false, true, false, false, false, false, true], [false, false, false, true, true, true, true, true], [true, true, true, true, true, true, true, true, true], [true, true, true, false, true, false, false, false, true, true, true, true, true, false, false, false, false, false, false, false, true, true, true, false, false, false, true, true, true, true, false]]
def R0 : List (List (Option Nat)) := [[some 1, some 7, some 16, some 20, some 24, some 26, some 31, some 36, some 41], [none, none, none, some 2, some 3, some 4, some 5, some 6], [], [], [], [], [], [some 8, none, some 9, none, none, none, none, some 15], [], [none, none, none, some 10, some 11, some 12, some 13, some 14], [], [], [], [], [], [], [some 1, some 17, some 18, some 19, none, none], [], [], [], [some 1, some 16, some 21, some 22, some 23, none, none], [], [], [], [some 1, some 20, some 25, none, none, none, none], [], [none, none, none, none, some 27, some 28, some 29, some 30], [], [], [], [], [none, none, none, none, some 32, some 33, some 34, some 35], [], [], [], [], [none, none, none, none, some 37, some 38, some 39, some 40], [], [], [], [], [none, some 42, some 43], [], [], [some 45, some 46, some 47, none, some 48, none, none, none, some 49, some 50, some 51, some 52, some 53, none, none, none, none, none, none, none, some 54, some 55, some 56, none, none, none, some 57, some 58, some 59, some 60, none], [], [], [], [], [], [], [], [], [], [], [], [], [], [], [], []]
def q_F (own : String) (idx ci j : Nat) : Prop := ∃ C T N, CL[ci]? = some (C, T, N) ∧ j < N ∧ Cond.fieldLink own idx (T j).1 (T j).2.1 (T j).2.2.1 ∈ TB
def q_D (y : MethodName) (n : Nat) : Prop := y.cls ≠ "java/lang/invoke/MethodHandle" ∧ y.cls ≠ "java/lang/invoke/VarHandle" ∧ (parseMethodDescriptor y.desc).map (fun d => d.parameters.length) = some n
def q_C (md : MD) : Prop := Cond.initialized md.1.cls ∈ TB ∧ Cond.code md.1 md.2.1 md.2.2.1 md.2.2.2.1 ∈ TB
def q_V (own : String) (idx : Nat) (md : MD) (n : Nat) : Prop := Cond.methodLink own idx md.1 ∈ TB ∧ (Cond.instanceMethod md.1 ∈ TB ∧ Cond.selects md.1.cls md.1 md.1 ∈ TB) ∧ q_C md ∧ q_D md.1 n
def q_S (own : String) (idx : Nat) (md : MD) (n : Nat) : Prop := Cond.methodLink own idx md.1 ∈ TB ∧ Cond.static md.1 ∈ TB ∧ q_C md ∧ q_D md.1 n
def q_SN (own : String) (idx : Nat) (md : MD) (n : Nat) : Prop := (∃ host, Cond.methodLinkNest own idx md.1 host ∈ lw_tbl) ∧ Cond.static md.1 ∈ TB ∧ q_C md ∧ q_D md.1 n
def q_I (own : String) (idx : Nat) (md : MD) (n : Nat) : Prop := Cond.methodLink own idx md.1 ∈ TB ∧ (Cond.instanceMethod md.1 ∈ TB ∧ md.1.name = "<init>") ∧ q_C md ∧ q_D md.1 n
def q_IN (own : String) (idx : Nat) (md : MD) (n : Nat) : Prop := (∃ host, Cond.methodLinkNest own idx md.1 host ∈ lw_tbl) ∧ (Cond.instanceMethod md.1 ∈ TB ∧ md.1.name = "<init>") ∧ q_C md ∧ q_D md.1 n
set_option maxRecDepth 20000 in
theorem lc_mX7_init : q_C mX7_init := ⟨TB_at 49 (by decide +kernel) (by decide), TB_at 70 (by rfl) (by decide)⟩
set_option maxRecDepth 20000 in
theorem lc_mX6_init : q_C mX6_init := ⟨TB_at 50 (by decide +kernel) (by decide), TB_at 78 (by rfl) (by decide)⟩
set_option maxRecDepth 20000 in
theorem lc_mX5_init : q_C mX5_init := ⟨TB_at 51 (by decide +kernel) (by decide), TB_at 134 (by rfl) (by decide)⟩
set_option maxRecDepth 20000 in
theorem lc_mX3_init : q_C mX3_init := ⟨TB_at 52 (by decide +kernel) (by decide), TB_at 170 (by rfl) (by decide)⟩
set_option maxRecDepth 20000 in
theorem lc_mX2_init : q_C mX2_init := ⟨TB_at 53 (by decide +kernel) (by decide), TB_at 200 (by rfl) (by decide)⟩
set_option maxRecDepth 20000 in
theorem lc_mX1_init : q_C mX1_init := ⟨TB_at 54 (by decide +kernel) (by decide), TB_at 234 (by rfl) (by decide)⟩
set_option maxRecDepth 20000 in
theorem lc_mX0_init : q_C mX0_init := ⟨TB_at 55 (by decide +kernel) (by decide), TB_at 266 (by rfl) (by decide)⟩
set_option maxRecDepth 20000 in
theorem lc_mJ7_fill_53178 : q_C mJ7_fill_53178 := ⟨TB_at 56 (by decide +kernel) (by decide), TB_at 270 (by rfl) (by decide)⟩
set_option maxRecDepth 20000 in
theorem lc_mX4_init : q_C mX4_init := ⟨TB_at 57 (by decide +kernel) (by decide), TB_at 307 (by rfl) (by decide)⟩
set_option maxRecDepth 20000 in
theorem lc_mX7_write : q_C mX7_write := ⟨TB_at 49 (by decide +kernel) (by decide), TB_at 351 (by rfl) (by decide)⟩
set_option maxRecDepth 20000 in
theorem lc_mX5_append : q_C mX5_append := ⟨TB_at 51 (by decide +kernel) (by decide), TB_at 356 (by rfl) (by decide)⟩
set_option maxRecDepth 20000 in
theorem lc_mX7_erase : q_C mX7_erase := ⟨TB_at 49 (by decide +kernel) (by decide), TB_at 360 (by rfl) (by decide)⟩
set_option maxRecDepth 20000 in
theorem lc_mX7_fault : q_C mX7_fault := ⟨TB_at 49 (by decide +kernel) (by decide), TB_at 364 (by rfl) (by decide)⟩
set_option maxRecDepth 20000 in
theorem lc_mX5_read : q_C mX5_read := ⟨TB_at 51 (by decide +kernel) (by decide), TB_at 368 (by rfl) (by decide)⟩
set_option maxRecDepth 20000 in
theorem lc_mX6_copyFrom : q_C mX6_copyFrom := ⟨TB_at 50 (by decide +kernel) (by decide), TB_at 372 (by rfl) (by decide)⟩
set_option maxRecDepth 20000 in
theorem lc_mX5_doLine : q_C mX5_doLine := ⟨TB_at 51 (by decide +kernel) (by decide), TB_at 379 (by rfl) (by decide)⟩
set_option maxRecDepth 20000 in
theorem lc_mX5_nextToken : q_C mX5_nextToken := ⟨TB_at 51 (by decide +kernel) (by decide), TB_at 383 (by rfl) (by decide)⟩
set_option maxRecDepth 20000 in
theorem lc_mX5_isLetter : q_C mX5_isLetter := ⟨TB_at 51 (by decide +kernel) (by decide), TB_at 386 (by rfl) (by decide)⟩
set_option maxRecDepth 20000 in
theorem lc_mX5_isDigit : q_C mX5_isDigit := ⟨TB_at 51 (by decide +kernel) (by decide), TB_at 389 (by rfl) (by decide)⟩
set_option maxRecDepth 20000 in
theorem lc_mX5_isWord : q_C mX5_isWord := ⟨TB_at 51 (by decide +kernel) (by decide), TB_at 394 (by rfl) (by decide)⟩
set_option maxRecDepth 20000 in
theorem lc_mJ0_length_8abf5 : q_C mJ0_length_8abf5 := ⟨TB_at 60 (by decide +kernel) (by decide), TB_at 398 (by rfl) (by decide)⟩
set_option maxRecDepth 20000 in
theorem lc_mJ0_coder_7d493 : q_C mJ0_coder_7d493 := ⟨TB_at 60 (by decide +kernel) (by decide), TB_at 402 (by rfl) (by decide)⟩
set_option maxRecDepth 20000 in
theorem lc_mJ0_charAt_5068e : q_C mJ0_charAt_5068e := ⟨TB_at 60 (by decide +kernel) (by decide), TB_at 408 (by rfl) (by decide)⟩
set_option maxRecDepth 20000 in
theorem lc_mJ0_isLatin1_aae02 : q_C mJ0_isLatin1_aae02 := ⟨TB_at 60 (by decide +kernel) (by decide), TB_at 412 (by rfl) (by decide)⟩
set_option maxRecDepth 20000 in
theorem lc_mJ1_charAt_3b067 : q_C mJ1_charAt_3b067 := ⟨TB_at 61 (by decide +kernel) (by decide), TB_at 415 (by rfl) (by decide)⟩
set_option maxRecDepth 20000 in
theorem lc_mX5_doInn : q_C mX5_doInn := ⟨TB_at 51 (by decide +kernel) (by decide), TB_at 446 (by rfl) (by decide)⟩
set_option maxRecDepth 20000 in
theorem lc_mX5_readNumber : q_C mX5_readNumber := ⟨TB_at 51 (by decide +kernel) (by decide), TB_at 450 (by rfl) (by decide)⟩
set_option maxRecDepth 20000 in
theorem lc_mX6_beginInn : q_C mX6_beginInn := ⟨TB_at 50 (by decide +kernel) (by decide), TB_at 454 (by rfl) (by decide)⟩
set_option maxRecDepth 20000 in
theorem lc_mX5_doChair : q_C mX5_doChair := ⟨TB_at 51 (by decide +kernel) (by decide), TB_at 459 (by rfl) (by decide)⟩
set_option maxRecDepth 20000 in
theorem lc_mX6_hasChair : q_C mX6_hasChair := ⟨TB_at 50 (by decide +kernel) (by decide), TB_at 463 (by rfl) (by decide)⟩
set_option maxRecDepth 20000 in
theorem lc_mX6_hasPlace : q_C mX6_hasPlace := ⟨TB_at 50 (by decide +kernel) (by decide), TB_at 467 (by rfl) (by decide)⟩
set_option maxRecDepth 20000 in
theorem lc_mX7_holds : q_C mX7_holds := ⟨TB_at 49 (by decide +kernel) (by decide), TB_at 470 (by rfl) (by decide)⟩
set_option maxRecDepth 20000 in
theorem lc_mX5_kindOfWord : q_C mX5_kindOfWord := ⟨TB_at 51 (by decide +kernel) (by decide), TB_at 476 (by rfl) (by decide)⟩
set_option maxRecDepth 20000 in
theorem lc_mX5_doGuest : q_C mX5_doGuest := ⟨TB_at 51 (by decide +kernel) (by decide), TB_at 484 (by rfl) (by decide)⟩
set_option maxRecDepth 20000 in
theorem lc_mX5_mostOf : q_C mX5_mostOf := ⟨TB_at 51 (by decide +kernel) (by decide), TB_at 488 (by rfl) (by decide)⟩
set_option maxRecDepth 20000 in
theorem lc_mX6_addGuest : q_C mX6_addGuest := ⟨TB_at 50 (by decide +kernel) (by decide), TB_at 492 (by rfl) (by decide)⟩
set_option maxRecDepth 20000 in
theorem lc_mX7_inn : q_C mX7_inn := ⟨TB_at 49 (by decide +kernel) (by decide), TB_at 497 (by rfl) (by decide)⟩
set_option maxRecDepth 20000 in
theorem lc_mX0_begin : q_C mX0_begin := ⟨TB_at 55 (by decide +kernel) (by decide), TB_at 502 (by rfl) (by decide)⟩
set_option maxRecDepth 20000 in
theorem lc_mX0_getUp : q_C mX0_getUp := ⟨TB_at 55 (by decide +kernel) (by decide), TB_at 507 (by rfl) (by decide)⟩
set_option maxRecDepth 20000 in
theorem lc_mX7_place : q_C mX7_place := ⟨TB_at 49 (by decide +kernel) (by decide), TB_at 511 (by rfl) (by decide)⟩
set_option maxRecDepth 20000 in
theorem lc_mX0_whoIsAt : q_C mX0_whoIsAt := ⟨TB_at 55 (by decide +kernel) (by decide), TB_at 517 (by rfl) (by decide)⟩
set_option maxRecDepth 20000 in
theorem lc_mX7_guest : q_C mX7_guest := ⟨TB_at 49 (by decide +kernel) (by decide), TB_at 521 (by rfl) (by decide)⟩
set_option maxRecDepth 20000 in
theorem lc_mX6_hasGuest : q_C mX6_hasGuest := ⟨TB_at 50 (by decide +kernel) (by decide), TB_at 525 (by rfl) (by decide)⟩
set_option maxRecDepth 20000 in
theorem lc_mX7_as : q_C mX7_as := ⟨TB_at 49 (by decide +kernel) (by decide), TB_at 529 (by rfl) (by decide)⟩
set_option maxRecDepth 20000 in
theorem lc_mX6_isA : q_C mX6_isA := ⟨TB_at 50 (by decide +kernel) (by decide), TB_at 533 (by rfl) (by decide)⟩
set_option maxRecDepth 20000 in
theorem lc_mX6_nearestChair : q_C mX6_nearestChair := ⟨TB_at 50 (by decide +kernel) (by decide), TB_at 537 (by rfl) (by decide)⟩
set_option maxRecDepth 20000 in
theorem lc_mX6_farthest : q_C mX6_farthest := ⟨TB_at 50 (by decide +kernel) (by decide), TB_at 541 (by rfl) (by decide)⟩
set_option maxRecDepth 20000 in
theorem lc_mX6_leastAt : q_C mX6_leastAt := ⟨TB_at 50 (by decide +kernel) (by decide), TB_at 545 (by rfl) (by decide)⟩
set_option maxRecDepth 20000 in
theorem lc_mX6_ease : q_C mX6_ease := ⟨TB_at 50 (by decide +kernel) (by decide), TB_at 549 (by rfl) (by decide)⟩
set_option maxRecDepth 20000 in
theorem lc_mX7_walk : q_C mX7_walk := ⟨TB_at 49 (by decide +kernel) (by decide), TB_at 553 (by rfl) (by decide)⟩
set_option maxRecDepth 20000 in
theorem lc_mX0_goOn : q_C mX0_goOn := ⟨TB_at 55 (by decide +kernel) (by decide), TB_at 557 (by rfl) (by decide)⟩
set_option maxRecDepth 20000 in
theorem lc_mX6_placeAfter : q_C mX6_placeAfter := ⟨TB_at 50 (by decide +kernel) (by decide), TB_at 561 (by rfl) (by decide)⟩
set_option maxRecDepth 20000 in
theorem lc_mJ9_floorMod_7cf53 : q_C mJ9_floorMod_7cf53 := ⟨TB_at 64 (by decide +kernel) (by decide), TB_at 564 (by rfl) (by decide)⟩
set_option maxRecDepth 20000 in
theorem lc_mX7_stop : q_C mX7_stop := ⟨TB_at 49 (by decide +kernel) (by decide), TB_at 568 (by rfl) (by decide)⟩
set_option maxRecDepth 20000 in
theorem lc_mX6_everyone : q_C mX6_everyone := ⟨TB_at 50 (by decide +kernel) (by decide), TB_at 573 (by rfl) (by decide)⟩
set_option maxRecDepth 20000 in
theorem lc_mX3_settle : q_C mX3_settle := ⟨TB_at 52 (by decide +kernel) (by decide), TB_at 577 (by rfl) (by decide)⟩
set_option maxRecDepth 20000 in
theorem lc_mX6_allOfKind : q_C mX6_allOfKind := ⟨TB_at 50 (by decide +kernel) (by decide), TB_at 582 (by rfl) (by decide)⟩
set_option maxRecDepth 20000 in
theorem lc_mX3_seatAll : q_C mX3_seatAll := ⟨TB_at 52 (by decide +kernel) (by decide), TB_at 586 (by rfl) (by decide)⟩
set_option maxRecDepth 20000 in
theorem lc_mX3_seatOne : q_C mX3_seatOne := ⟨TB_at 52 (by decide +kernel) (by decide), TB_at 594 (by rfl) (by decide)⟩
set_option maxRecDepth 20000 in
theorem lc_mX3_take : q_C mX3_take := ⟨TB_at 52 (by decide +kernel) (by decide), TB_at 598 (by rfl) (by decide)⟩
set_option maxRecDepth 20000 in
theorem lc_mX3_settleFaint : q_C mX3_settleFaint := ⟨TB_at 52 (by decide +kernel) (by decide), TB_at 602 (by rfl) (by decide)⟩
set_option maxRecDepth 20000 in
theorem lc_mX0_end : q_C mX0_end := ⟨TB_at 55 (by decide +kernel) (by decide), TB_at 606 (by rfl) (by decide)⟩
set_option maxRecDepth 20000 in
theorem lc_mJ6_bitCount_0f7a4 : q_C mJ6_bitCount_0f7a4 := ⟨TB_at 65 (by decide +kernel) (by decide), TB_at 609 (by rfl) (by decide)⟩
set_option maxRecDepth 20000 in
theorem lc_mX6_allWorth : q_C mX6_allWorth := ⟨TB_at 50 (by decide +kernel) (by decide), TB_at 616 (by rfl) (by decide)⟩
set_option maxRecDepth 20000 in
theorem lc_mX7_play : q_C mX7_play := ⟨TB_at 49 (by decide +kernel) (by decide), TB_at 621 (by rfl) (by decide)⟩
set_option maxRecDepth 20000 in
theorem lc_mX7_keep : q_C mX7_keep := ⟨TB_at 49 (by decide +kernel) (by decide), TB_at 626 (by rfl) (by decide)⟩
set_option maxRecDepth 20000 in
theorem lc_mX7_isEither : q_C mX7_isEither := ⟨TB_at 49 (by decide +kernel) (by decide), TB_at 629 (by rfl) (by decide)⟩
set_option maxRecDepth 20000 in
theorem lc_mX0_copyFrom : q_C mX0_copyFrom := ⟨TB_at 55 (by decide +kernel) (by decide), TB_at 633 (by rfl) (by decide)⟩
set_option maxRecDepth 20000 in
theorem lc_mX7_back : q_C mX7_back := ⟨TB_at 49 (by decide +kernel) (by decide), TB_at 637 (by rfl) (by decide)⟩
set_option maxRecDepth 20000 in
theorem lc_mX7_standing : q_C mX7_standing := ⟨TB_at 49 (by decide +kernel) (by decide), TB_at 641 (by rfl) (by decide)⟩
set_option maxRecDepth 20000 in
theorem lc_mX7_isMinute : q_C mX7_isMinute := ⟨TB_at 49 (by decide +kernel) (by decide), TB_at 644 (by rfl) (by decide)⟩
set_option maxRecDepth 20000 in
theorem lc_mX2_asTold : q_C mX2_asTold := ⟨TB_at 53 (by decide +kernel) (by decide), TB_at 648 (by rfl) (by decide)⟩
set_option maxRecDepth 20000 in
theorem lc_mX2_stoodAt : q_C mX2_stoodAt := ⟨TB_at 53 (by decide +kernel) (by decide), TB_at 654 (by rfl) (by decide)⟩
set_option maxRecDepth 20000 in
theorem lc_mX2_goTo : q_C mX2_goTo := ⟨TB_at 53 (by decide +kernel) (by decide), TB_at 658 (by rfl) (by decide)⟩
set_option maxRecDepth 20000 in
theorem lc_mX7_odds : q_C mX7_odds := ⟨TB_at 49 (by decide +kernel) (by decide), TB_at 664 (by rfl) (by decide)⟩
set_option maxRecDepth 20000 in
theorem lc_mX7_areMinutes : q_C mX7_areMinutes := ⟨TB_at 49 (by decide +kernel) (by decide), TB_at 667 (by rfl) (by decide)⟩
set_option maxRecDepth 20000 in
theorem lc_mX2_tally : q_C mX2_tally := ⟨TB_at 53 (by decide +kernel) (by decide), TB_at 671 (by rfl) (by decide)⟩
set_option maxRecDepth 20000 in
theorem lc_mX2_minutesLike : q_C mX2_minutesLike := ⟨TB_at 53 (by decide +kernel) (by decide), TB_at 676 (by rfl) (by decide)⟩
set_option maxRecDepth 20000 in
theorem lc_mX2_minutesLikeTo : q_C mX2_minutesLikeTo := ⟨TB_at 53 (by decide +kernel) (by decide), TB_at 680 (by rfl) (by decide)⟩
set_option maxRecDepth 20000 in
theorem lc_mX2_addTimes : q_C mX2_addTimes := ⟨TB_at 53 (by decide +kernel) (by decide), TB_at 684 (by rfl) (by decide)⟩
set_option maxRecDepth 20000 in
theorem lc_mX7_commonDivisor : q_C mX7_commonDivisor := ⟨TB_at 49 (by decide +kernel) (by decide), TB_at 688 (by rfl) (by decide)⟩
set_option maxRecDepth 20000 in
theorem lc_mX7_surest : q_C mX7_surest := ⟨TB_at 49 (by decide +kernel) (by decide), TB_at 692 (by rfl) (by decide)⟩
set_option maxRecDepth 20000 in
theorem lc_mX1_findSurest : q_C mX1_findSurest := ⟨TB_at 54 (by decide +kernel) (by decide), TB_at 696 (by rfl) (by decide)⟩
set_option maxRecDepth 20000 in
theorem lc_mX7_still : q_C mX7_still := ⟨TB_at 49 (by decide +kernel) (by decide), TB_at 702 (by rfl) (by decide)⟩
set_option maxRecDepth 20000 in
theorem lc_mX1_findStill : q_C mX1_findStill := ⟨TB_at 54 (by decide +kernel) (by decide), TB_at 706 (by rfl) (by decide)⟩
set_option maxRecDepth 20000 in
theorem lc_mX1_nobodyWouldChange : q_C mX1_nobodyWouldChange := ⟨TB_at 54 (by decide +kernel) (by decide), TB_at 712 (by rfl) (by decide)⟩
set_option maxRecDepth 20000 in
theorem lc_mX7_plot : q_C mX7_plot := ⟨TB_at 49 (by decide +kernel) (by decide), TB_at 716 (by rfl) (by decide)⟩
set_option maxRecDepth 20000 in
theorem lc_mX6_hasAll : q_C mX6_hasAll := ⟨TB_at 50 (by decide +kernel) (by decide), TB_at 720 (by rfl) (by decide)⟩
set_option maxRecDepth 20000 in
theorem lc_mX1_findPlot : q_C mX1_findPlot := ⟨TB_at 54 (by decide +kernel) (by decide), TB_at 726 (by rfl) (by decide)⟩
set_option maxRecDepth 20000 in
theorem lc_mX1_keepStill : q_C mX1_keepStill := ⟨TB_at 54 (by decide +kernel) (by decide), TB_at 731 (by rfl) (by decide)⟩
set_option maxRecDepth 20000 in
theorem lc_mX7_price : q_C mX7_price := ⟨TB_at 49 (by decide +kernel) (by decide), TB_at 737 (by rfl) (by decide)⟩
set_option maxRecDepth 20000 in
theorem lc_mX6_greatestWorth : q_C mX6_greatestWorth := ⟨TB_at 50 (by decide +kernel) (by decide), TB_at 741 (by rfl) (by decide)⟩
set_option maxRecDepth 20000 in
theorem lc_mJ9_max_7cf53 : q_C mJ9_max_7cf53 := ⟨TB_at 64 (by decide +kernel) (by decide), TB_at 744 (by rfl) (by decide)⟩
set_option maxRecDepth 20000 in
theorem lc_mX7_laid : q_C mX7_laid := ⟨TB_at 49 (by decide +kernel) (by decide), TB_at 748 (by rfl) (by decide)⟩
set_option maxRecDepth 20000 in
theorem lc_mX1_findLaid : q_C mX1_findLaid := ⟨TB_at 54 (by decide +kernel) (by decide), TB_at 752 (by rfl) (by decide)⟩
set_option maxRecDepth 20000 in
theorem lc_mX2_spread : q_C mX2_spread := ⟨TB_at 53 (by decide +kernel) (by decide), TB_at 756 (by rfl) (by decide)⟩
set_option maxRecDepth 20000 in
theorem lc_mJ9_min_7cf53 : q_C mJ9_min_7cf53 := ⟨TB_at 64 (by decide +kernel) (by decide), TB_at 760 (by rfl) (by decide)⟩
set_option maxRecDepth 20000 in
theorem lc_mX7_left : q_C mX7_left := ⟨TB_at 49 (by decide +kernel) (by decide), TB_at 764 (by rfl) (by decide)⟩
set_option maxRecDepth 20000 in
theorem lc_mX2_playRounds : q_C mX2_playRounds := ⟨TB_at 53 (by decide +kernel) (by decide), TB_at 768 (by rfl) (by decide)⟩
set_option maxRecDepth 20000 in
theorem lc_mX7_seen : q_C mX7_seen := ⟨TB_at 49 (by decide +kernel) (by decide), TB_at 775 (by rfl) (by decide)⟩
set_option maxRecDepth 20000 in
theorem lc_mX4_add : q_C mX4_add := ⟨TB_at 57 (by decide +kernel) (by decide), TB_at 779 (by rfl) (by decide)⟩
set_option maxRecDepth 20000 in
theorem lc_mX7_forget : q_C mX7_forget := ⟨TB_at 49 (by decide +kernel) (by decide), TB_at 783 (by rfl) (by decide)⟩
set_option maxRecDepth 20000 in
theorem lc_mX7_fits : q_C mX7_fits := ⟨TB_at 49 (by decide +kernel) (by decide), TB_at 787 (by rfl) (by decide)⟩
set_option maxRecDepth 20000 in
theorem lc_mX1_findFits : q_C mX1_findFits := ⟨TB_at 54 (by decide +kernel) (by decide), TB_at 791 (by rfl) (by decide)⟩
set_option maxRecDepth 20000 in
theorem lc_mX4_fit : q_C mX4_fit := ⟨TB_at 57 (by decide +kernel) (by decide), TB_at 795 (by rfl) (by decide)⟩
set_option maxRecDepth 20000 in
theorem lc_mX7_count : q_C mX7_count := ⟨TB_at 49 (by decide +kernel) (by decide), TB_at 800 (by rfl) (by decide)⟩
set_option maxRecDepth 20000 in
theorem lc_mX8_init : q_C mX8_init := ⟨TB_at 58 (by decide +kernel) (by decide), TB_at 805 (by rfl) (by decide)⟩
set_option maxRecDepth 20000 in
theorem lc_mX8_begin : q_C mX8_begin := ⟨TB_at 58 (by decide +kernel) (by decide), TB_at 810 (by rfl) (by decide)⟩
set_option maxRecDepth 20000 in
theorem lc_mX8_in : q_C mX8_in := ⟨TB_at 58 (by decide +kernel) (by decide), TB_at 815 (by rfl) (by decide)⟩
set_option maxRecDepth 20000 in
theorem lc_mX8_write : q_C mX8_write := ⟨TB_at 58 (by decide +kernel) (by decide), TB_at 914 (by rfl) (by decide)⟩
set_option maxRecDepth 20000 in
theorem lc_mX8_erase : q_C mX8_erase := ⟨TB_at 58 (by decide +kernel) (by decide), TB_at 920 (by rfl) (by decide)⟩
set_option maxRecDepth 20000 in
theorem lc_mX8_fault : q_C mX8_fault := ⟨TB_at 58 (by decide +kernel) (by decide), TB_at 924 (by rfl) (by decide)⟩
set_option maxRecDepth 20000 in
theorem lc_mX8_token : q_C mX8_token := ⟨TB_at 58 (by decide +kernel) (by decide), TB_at 928 (by rfl) (by decide)⟩
set_option maxRecDepth 20000 in
theorem lc_mX8_sort : q_C mX8_sort := ⟨TB_at 58 (by decide +kernel) (by decide), TB_at 931 (by rfl) (by decide)⟩
set_option maxRecDepth 20000 in
theorem lc_mX8_readsLine : q_C mX8_readsLine := ⟨TB_at 58 (by decide +kernel) (by decide), TB_at 935 (by rfl) (by decide)⟩
set_option maxRecDepth 20000 in
theorem lc_mX8_wordOf : q_C mX8_wordOf := ⟨TB_at 58 (by decide +kernel) (by decide), TB_at 939 (by rfl) (by decide)⟩
set_option maxRecDepth 20000 in
theorem lc_mX8_guestWord : q_C mX8_guestWord := ⟨TB_at 58 (by decide +kernel) (by decide), TB_at 943 (by rfl) (by decide)⟩
set_option maxRecDepth 20000 in
theorem lc_mX8_isWord : q_C mX8_isWord := ⟨TB_at 58 (by decide +kernel) (by decide), TB_at 948 (by rfl) (by decide)⟩
set_option maxRecDepth 20000 in
theorem lc_mX8_isGuestWord : q_C mX8_isGuestWord := ⟨TB_at 58 (by decide +kernel) (by decide), TB_at 956 (by rfl) (by decide)⟩
set_option maxRecDepth 20000 in
theorem lc_mX8_readsRest : q_C mX8_readsRest := ⟨TB_at 58 (by decide +kernel) (by decide), TB_at 962 (by rfl) (by decide)⟩
set_option maxRecDepth 20000 in
theorem lc_mX8_numberHere : q_C mX8_numberHere := ⟨TB_at 58 (by decide +kernel) (by decide), TB_at 966 (by rfl) (by decide)⟩
set_option maxRecDepth 20000 in
theorem lc_mX8_reads : q_C mX8_reads := ⟨TB_at 58 (by decide +kernel) (by decide), TB_at 970 (by rfl) (by decide)⟩
set_option maxRecDepth 20000 in
theorem lc_mX8_has : q_C mX8_has := ⟨TB_at 58 (by decide +kernel) (by decide), TB_at 973 (by rfl) (by decide)⟩
set_option maxRecDepth 20000 in
theorem lc_mX8_readsGuest : q_C mX8_readsGuest := ⟨TB_at 58 (by decide +kernel) (by decide), TB_at 977 (by rfl) (by decide)⟩
set_option maxRecDepth 20000 in
theorem lc_mX8_inn : q_C mX8_inn := ⟨TB_at 58 (by decide +kernel) (by decide), TB_at 981 (by rfl) (by decide)⟩
set_option maxRecDepth 20000 in
theorem lc_mX8_tell : q_C mX8_tell := ⟨TB_at 58 (by decide +kernel) (by decide), TB_at 986 (by rfl) (by decide)⟩
set_option maxRecDepth 20000 in
theorem lc_mX8_place : q_C mX8_place := ⟨TB_at 58 (by decide +kernel) (by decide), TB_at 990 (by rfl) (by decide)⟩
set_option maxRecDepth 20000 in
theorem lc_mX8_isPlace : q_C mX8_isPlace := ⟨TB_at 58 (by decide +kernel) (by decide), TB_at 994 (by rfl) (by decide)⟩
set_option maxRecDepth 20000 in
theorem lc_mX8_guest : q_C mX8_guest := ⟨TB_at 58 (by decide +kernel) (by decide), TB_at 998 (by rfl) (by decide)⟩
set_option maxRecDepth 20000 in
theorem lc_mX8_isGuest : q_C mX8_isGuest := ⟨TB_at 58 (by decide +kernel) (by decide), TB_at 1002 (by rfl) (by decide)⟩
set_option maxRecDepth 20000 in
theorem lc_mX8_as : q_C mX8_as := ⟨TB_at 58 (by decide +kernel) (by decide), TB_at 1006 (by rfl) (by decide)⟩
set_option maxRecDepth 20000 in
theorem lc_mX8_effort : q_C mX8_effort := ⟨TB_at 58 (by decide +kernel) (by decide), TB_at 1011 (by rfl) (by decide)⟩
set_option maxRecDepth 20000 in
theorem lc_mX8_far : q_C mX8_far := ⟨TB_at 58 (by decide +kernel) (by decide), TB_at 1015 (by rfl) (by decide)⟩
set_option maxRecDepth 20000 in
theorem lc_mX8_walk : q_C mX8_walk := ⟨TB_at 58 (by decide +kernel) (by decide), TB_at 1019 (by rfl) (by decide)⟩
set_option maxRecDepth 20000 in
theorem lc_mX8_walked : q_C mX8_walked := ⟨TB_at 58 (by decide +kernel) (by decide), TB_at 1024 (by rfl) (by decide)⟩
set_option maxRecDepth 20000 in
theorem lc_mX8_stop : q_C mX8_stop := ⟨TB_at 58 (by decide +kernel) (by decide), TB_at 1028 (by rfl) (by decide)⟩
set_option maxRecDepth 20000 in
theorem lc_mX8_everybody : q_C mX8_everybody := ⟨TB_at 58 (by decide +kernel) (by decide), TB_at 1032 (by rfl) (by decide)⟩
set_option maxRecDepth 20000 in
theorem lc_mX8_stops : q_C mX8_stops := ⟨TB_at 58 (by decide +kernel) (by decide), TB_at 1036 (by rfl) (by decide)⟩
set_option maxRecDepth 20000 in
theorem lc_mX8_faint : q_C mX8_faint := ⟨TB_at 58 (by decide +kernel) (by decide), TB_at 1040 (by rfl) (by decide)⟩
set_option maxRecDepth 20000 in
theorem lc_mX8_seat : q_C mX8_seat := ⟨TB_at 58 (by decide +kernel) (by decide), TB_at 1044 (by rfl) (by decide)⟩
set_option maxRecDepth 20000 in
theorem lc_mX8_findsTwo : q_C mX8_findsTwo := ⟨TB_at 58 (by decide +kernel) (by decide), TB_at 1048 (by rfl) (by decide)⟩
set_option maxRecDepth 20000 in
theorem lc_mX8_takeSecond : q_C mX8_takeSecond := ⟨TB_at 58 (by decide +kernel) (by decide), TB_at 1052 (by rfl) (by decide)⟩
set_option maxRecDepth 20000 in
theorem lc_mX8_bits : q_C mX8_bits := ⟨TB_at 58 (by decide +kernel) (by decide), TB_at 1055 (by rfl) (by decide)⟩
set_option maxRecDepth 20000 in
theorem lc_mX8_play : q_C mX8_play := ⟨TB_at 58 (by decide +kernel) (by decide), TB_at 1059 (by rfl) (by decide)⟩
set_option maxRecDepth 20000 in
theorem lc_mX8_keep : q_C mX8_keep := ⟨TB_at 58 (by decide +kernel) (by decide), TB_at 1063 (by rfl) (by decide)⟩
set_option maxRecDepth 20000 in
theorem lc_mX8_copy : q_C mX8_copy := ⟨TB_at 58 (by decide +kernel) (by decide), TB_at 1067 (by rfl) (by decide)⟩
set_option maxRecDepth 20000 in
theorem lc_mX8_back : q_C mX8_back := ⟨TB_at 58 (by decide +kernel) (by decide), TB_at 1071 (by rfl) (by decide)⟩
set_option maxRecDepth 20000 in
theorem lc_mX8_standing : q_C mX8_standing := ⟨TB_at 58 (by decide +kernel) (by decide), TB_at 1075 (by rfl) (by decide)⟩
set_option maxRecDepth 20000 in
theorem lc_mX8_isTime : q_C mX8_isTime := ⟨TB_at 58 (by decide +kernel) (by decide), TB_at 1078 (by rfl) (by decide)⟩
set_option maxRecDepth 20000 in
theorem lc_mX8_standingAt : q_C mX8_standingAt := ⟨TB_at 58 (by decide +kernel) (by decide), TB_at 1082 (by rfl) (by decide)⟩
set_option maxRecDepth 20000 in
theorem lc_mX8_layAts : q_C mX8_layAts := ⟨TB_at 58 (by decide +kernel) (by decide), TB_at 1086 (by rfl) (by decide)⟩
set_option maxRecDepth 20000 in
theorem lc_mX8_odds : q_C mX8_odds := ⟨TB_at 58 (by decide +kernel) (by decide), TB_at 1090 (by rfl) (by decide)⟩
set_option maxRecDepth 20000 in
theorem lc_mX8_isSpan : q_C mX8_isSpan := ⟨TB_at 58 (by decide +kernel) (by decide), TB_at 1093 (by rfl) (by decide)⟩
set_option maxRecDepth 20000 in
theorem lc_mX8_minutesOf : q_C mX8_minutesOf := ⟨TB_at 58 (by decide +kernel) (by decide), TB_at 1097 (by rfl) (by decide)⟩
set_option maxRecDepth 20000 in
theorem lc_mX8_surest : q_C mX8_surest := ⟨TB_at 58 (by decide +kernel) (by decide), TB_at 1101 (by rfl) (by decide)⟩
set_option maxRecDepth 20000 in
theorem lc_mX8_still : q_C mX8_still := ⟨TB_at 58 (by decide +kernel) (by decide), TB_at 1106 (by rfl) (by decide)⟩
set_option maxRecDepth 20000 in
theorem lc_mX8_savePaces : q_C mX8_savePaces := ⟨TB_at 58 (by decide +kernel) (by decide), TB_at 1110 (by rfl) (by decide)⟩
set_option maxRecDepth 20000 in
theorem lc_mX8_layStands : q_C mX8_layStands := ⟨TB_at 58 (by decide +kernel) (by decide), TB_at 1114 (by rfl) (by decide)⟩
set_option maxRecDepth 20000 in
theorem lc_mX8_restorePaces : q_C mX8_restorePaces := ⟨TB_at 58 (by decide +kernel) (by decide), TB_at 1118 (by rfl) (by decide)⟩
set_option maxRecDepth 20000 in
theorem lc_mX8_isStill : q_C mX8_isStill := ⟨TB_at 58 (by decide +kernel) (by decide), TB_at 1122 (by rfl) (by decide)⟩
set_option maxRecDepth 20000 in
theorem lc_mX8_plot : q_C mX8_plot := ⟨TB_at 58 (by decide +kernel) (by decide), TB_at 1126 (by rfl) (by decide)⟩
set_option maxRecDepth 20000 in
theorem lc_mX8_price : q_C mX8_price := ⟨TB_at 58 (by decide +kernel) (by decide), TB_at 1130 (by rfl) (by decide)⟩
set_option maxRecDepth 20000 in
theorem lc_mX8_laid : q_C mX8_laid := ⟨TB_at 58 (by decide +kernel) (by decide), TB_at 1134 (by rfl) (by decide)⟩
set_option maxRecDepth 20000 in
theorem lc_mX8_apart : q_C mX8_apart := ⟨TB_at 58 (by decide +kernel) (by decide), TB_at 1138 (by rfl) (by decide)⟩
set_option maxRecDepth 20000 in
theorem lc_mX8_left : q_C mX8_left := ⟨TB_at 58 (by decide +kernel) (by decide), TB_at 1142 (by rfl) (by decide)⟩
set_option maxRecDepth 20000 in
theorem lc_mX8_leastOf : q_C mX8_leastOf := ⟨TB_at 58 (by decide +kernel) (by decide), TB_at 1145 (by rfl) (by decide)⟩
set_option maxRecDepth 20000 in
theorem lc_mX8_seen : q_C mX8_seen := ⟨TB_at 58 (by decide +kernel) (by decide), TB_at 1149 (by rfl) (by decide)⟩
set_option maxRecDepth 20000 in
theorem lc_mX8_forget : q_C mX8_forget := ⟨TB_at 58 (by decide +kernel) (by decide), TB_at 1153 (by rfl) (by decide)⟩
set_option maxRecDepth 20000 in
theorem lc_mX8_fits : q_C mX8_fits := ⟨TB_at 58 (by decide +kernel) (by decide), TB_at 1157 (by rfl) (by decide)⟩
set_option maxRecDepth 20000 in
theorem lc_mX8_count : q_C mX8_count := ⟨TB_at 58 (by decide +kernel) (by decide), TB_at 1161 (by rfl) (by decide)⟩
theorem lqL_7 : Cond.classLink RL 7 RX7 ∈ TB := TB_at 66 (by decide +kernel) (by decide)
set_option maxRecDepth 20000 in
theorem lmL_9 : q_I RL 9 mX7_init 0 := ⟨TB_at 68 (by decide +kernel) (by decide), ⟨TB_at 69 (by decide +kernel) (by decide), rfl⟩, lc_mX7_init, ⟨by decide +kernel, by decide +kernel, by decide +kernel⟩⟩
theorem lqX7_7 : Cond.classLink RX7 7 RX6 ∈ TB := TB_at 74 (by decide +kernel) (by decide)
set_option maxRecDepth 20000 in
theorem lmX7_9 : q_IN RX7 9 mX6_init 0 := ⟨⟨_, List.mem_of_getElem? (i := 76) (by rfl)⟩, ⟨TB_at 77 (by decide +kernel) (by decide), rfl⟩, lc_mX6_init, ⟨by decide +kernel, by decide +kernel, by decide +kernel⟩⟩
theorem lfX6_9 : q_F RX6 9 6 0 := ⟨RX6, TX6, 8, rfl, by decide, TB_at 80 (by decide +kernel) (by decide)⟩
theorem lfX2_80 : q_F RX2 80 6 0 := ⟨RX6, TX6, 8, rfl, by decide, TB_at 81 (by decide +kernel) (by decide)⟩
theorem lfX1_90 : q_F RX1 90 6 0 := ⟨RX6, TX6, 8, rfl, by decide, TB_at 82 (by decide +kernel) (by decide)⟩
theorem lfX5_112 : q_F RX5 112 6 0 := ⟨RX6, TX6, 8, rfl, by decide, TB_at 83 (by decide +kernel) (by decide)⟩
theorem lfX7_255 : q_F RX7 255 6 0 := ⟨RX6, TX6, 8, rfl, by decide, TB_at 84 (by decide +kernel) (by decide)⟩
theorem lfX6_31 : q_F RX6 31 6 1 := ⟨RX6, TX6, 8, rfl, by decide, TB_at 85 (by decide +kernel) (by decide)⟩
theorem lfX2_47 : q_F RX2 47 6 1 := ⟨RX6, TX6, 8, rfl, by decide, TB_at 86 (by decide +kernel) (by decide)⟩
theorem lfX7_177 : q_F RX7 177 6 1 := ⟨RX6, TX6, 8, rfl, by decide, TB_at 87 (by decide +kernel) (by decide)⟩
theorem lfX5_118 : q_F RX5 118 6 1 := ⟨RX6, TX6, 8, rfl, by decide, TB_at 88 (by decide +kernel) (by decide)⟩
theorem lfX6_34 : q_F RX6 34 6 2 := ⟨RX6, TX6, 8, rfl, by decide, TB_at 89 (by decide +kernel) (by decide)⟩
theorem lfX1_57 : q_F RX1 57 6 2 := ⟨RX6, TX6, 8, rfl, by decide, TB_at 90 (by decide +kernel) (by decide)⟩
theorem lfX2_61 : q_F RX2 61 6 2 := ⟨RX6, TX6, 8, rfl, by decide, TB_at 91 (by decide +kernel) (by decide)⟩
theorem lfX3_52 : q_F RX3 52 6 2 := ⟨RX6, TX6, 8, rfl, by decide, TB_at 92 (by decide +kernel) (by decide)⟩
theorem lfX0_55 : q_F RX0 55 6 2 := ⟨RX6, TX6, 8, rfl, by decide, TB_at 93 (by decide +kernel) (by decide)⟩
theorem lfX7_114 : q_F RX7 114 6 2 := ⟨RX6, TX6, 8, rfl, by decide, TB_at 94 (by decide +kernel) (by decide)⟩
theorem lfX5_84 : q_F RX5 84 6 2 := ⟨RX6, TX6, 8, rfl, by decide, TB_at 95 (by decide +kernel) (by decide)⟩
theorem lfX6_15 : q_F RX6 15 6 3 := ⟨RX6, TX6, 8, rfl, by decide, TB_at 96 (by decide +kernel) (by decide)⟩
theorem lfX3_73 : q_F RX3 73 6 3 := ⟨RX6, TX6, 8, rfl, by decide, TB_at 97 (by decide +kernel) (by decide)⟩
theorem lfX7_124 : q_F RX7 124 6 3 := ⟨RX6, TX6, 8, rfl, by decide, TB_at 98 (by decide +kernel) (by decide)⟩
theorem lfX6_19 : q_F RX6 19 6 4 := ⟨RX6, TX6, 8, rfl, by decide, TB_at 99 (by decide +kernel) (by decide)⟩
theorem lfX0_38 : q_F RX0 38 6 4 := ⟨RX6, TX6, 8, rfl, by decide, TB_at 100 (by decide +kernel) (by decide)⟩
theorem lfX2_67 : q_F RX2 67 6 4 := ⟨RX6, TX6, 8, rfl, by decide, TB_at 101 (by decide +kernel) (by decide)⟩
theorem lfX6_22 : q_F RX6 22 6 5 := ⟨RX6, TX6, 8, rfl, by decide, TB_at 102 (by decide +kernel) (by decide)⟩
theorem lfX2_29 : q_F RX2 29 6 5 := ⟨RX6, TX6, 8, rfl, by decide, TB_at 103 (by decide +kernel) (by decide)⟩
theorem lfX0_58 : q_F RX0 58 6 5 := ⟨RX6, TX6, 8, rfl, by decide, TB_at 104 (by decide +kernel) (by decide)⟩
theorem lfX7_130 : q_F RX7 130 6 5 := ⟨RX6, TX6, 8, rfl, by decide, TB_at 105 (by decide +kernel) (by decide)⟩
theorem lfX6_25 : q_F RX6 25 6 6 := ⟨RX6, TX6, 8, rfl, by decide, TB_at 106 (by decide +kernel) (by decide)⟩
theorem lfX2_38 : q_F RX2 38 6 6 := ⟨RX6, TX6, 8, rfl, by decide, TB_at 107 (by decide +kernel) (by decide)⟩
theorem lfX0_61 : q_F RX0 61 6 6 := ⟨RX6, TX6, 8, rfl, by decide, TB_at 108 (by decide +kernel) (by decide)⟩
theorem lfX7_133 : q_F RX7 133 6 6 := ⟨RX6, TX6, 8, rfl, by decide, TB_at 109 (by decide +kernel) (by decide)⟩
theorem lfX6_28 : q_F RX6 28 6 7 := ⟨RX6, TX6, 8, rfl, by decide, TB_at 110 (by decide +kernel) (by decide)⟩
theorem lfX7_136 : q_F RX7 136 6 7 := ⟨RX6, TX6, 8, rfl, by decide, TB_at 111 (by decide +kernel) (by decide)⟩
theorem lqX7_16 : Cond.classLink RX7 16 RX5 ∈ TB := TB_at 130 (by decide +kernel) (by decide)
set_option maxRecDepth 20000 in
theorem lmX7_18 : q_IN RX7 18 mX5_init 0 := ⟨⟨_, List.mem_of_getElem? (i := 132) (by rfl)⟩, ⟨TB_at 133 (by decide +kernel) (by decide), rfl⟩, lc_mX5_init, ⟨by decide +kernel, by decide +kernel, by decide +kernel⟩⟩
theorem lqX5_15 : Cond.classLink RX5 15 RX6 ∈ TB := TB_at 136 (by decide +kernel) (by decide)
set_option maxRecDepth 20000 in
theorem lmX5_17 : q_IN RX5 17 mX6_init 0 := ⟨⟨_, List.mem_of_getElem? (i := 137) (by rfl)⟩, ⟨TB_at 77 (by decide +kernel) (by decide), rfl⟩, lc_mX6_init, ⟨by decide +kernel, by decide +kernel, by decide +kernel⟩⟩
theorem lfX5_9 : q_F RX5 9 5 0 := ⟨RX5, TX5, 8, rfl, by decide, TB_at 138 (by decide +kernel) (by decide)⟩
theorem lfX5_25 : q_F RX5 25 5 1 := ⟨RX5, TX5, 8, rfl, by decide, TB_at 139 (by decide +kernel) (by decide)⟩
theorem lfX7_70 : q_F RX7 70 5 1 := ⟨RX5, TX5, 8, rfl, by decide, TB_at 140 (by decide +kernel) (by decide)⟩
theorem lfX5_18 : q_F RX5 18 5 2 := ⟨RX5, TX5, 8, rfl, by decide, TB_at 141 (by decide +kernel) (by decide)⟩
theorem lfX7_84 : q_F RX7 84 5 2 := ⟨RX5, TX5, 8, rfl, by decide, TB_at 142 (by decide +kernel) (by decide)⟩
theorem lfX5_36 : q_F RX5 36 5 3 := ⟨RX5, TX5, 8, rfl, by decide, TB_at 143 (by decide +kernel) (by decide)⟩
theorem lfX7_100 : q_F RX7 100 5 3 := ⟨RX5, TX5, 8, rfl, by decide, TB_at 144 (by decide +kernel) (by decide)⟩
theorem lfX5_43 : q_F RX5 43 5 4 := ⟨RX5, TX5, 8, rfl, by decide, TB_at 145 (by decide +kernel) (by decide)⟩
theorem lfX5_33 : q_F RX5 33 5 5 := ⟨RX5, TX5, 8, rfl, by decide, TB_at 146 (by decide +kernel) (by decide)⟩
theorem lfX5_105 : q_F RX5 105 5 6 := ⟨RX5, TX5, 8, rfl, by decide, TB_at 147 (by decide +kernel) (by decide)⟩
theorem lfX5_22 : q_F RX5 22 5 7 := ⟨RX5, TX5, 8, rfl, by decide, TB_at 148 (by decide +kernel) (by decide)⟩
theorem lqX7_23 : Cond.classLink RX7 23 RX3 ∈ TB := TB_at 166 (by decide +kernel) (by decide)
set_option maxRecDepth 20000 in
theorem lmX7_25 : q_I RX7 25 mX3_init 1 := ⟨TB_at 168 (by decide +kernel) (by decide), ⟨TB_at 169 (by decide +kernel) (by decide), rfl⟩, lc_mX3_init, ⟨by decide +kernel, by decide +kernel, by decide +kernel⟩⟩
theorem lfX3_21 : q_F RX3 21 3 0 := ⟨RX3, TX3, 6, rfl, by decide, TB_at 172 (by decide +kernel) (by decide)⟩
theorem lfX3_9 : q_F RX3 9 3 1 := ⟨RX3, TX3, 6, rfl, by decide, TB_at 173 (by decide +kernel) (by decide)⟩
theorem lfX2_64 : q_F RX2 64 3 1 := ⟨RX3, TX3, 6, rfl, by decide, TB_at 174 (by decide +kernel) (by decide)⟩
theorem lfX7_166 : q_F RX7 166 3 1 := ⟨RX3, TX3, 6, rfl, by decide, TB_at 175 (by decide +kernel) (by decide)⟩
theorem lfX3_15 : q_F RX3 15 3 2 := ⟨RX3, TX3, 6, rfl, by decide, TB_at 176 (by decide +kernel) (by decide)⟩
theorem lfX0_68 : q_F RX0 68 3 2 := ⟨RX3, TX3, 6, rfl, by decide, TB_at 177 (by decide +kernel) (by decide)⟩
theorem lfX3_18 : q_F RX3 18 3 3 := ⟨RX3, TX3, 6, rfl, by decide, TB_at 178 (by decide +kernel) (by decide)⟩
theorem lfX0_71 : q_F RX0 71 3 3 := ⟨RX3, TX3, 6, rfl, by decide, TB_at 179 (by decide +kernel) (by decide)⟩
theorem lfX3_31 : q_F RX3 31 3 4 := ⟨RX3, TX3, 6, rfl, by decide, TB_at 180 (by decide +kernel) (by decide)⟩
theorem lfX7_249 : q_F RX7 249 3 4 := ⟨RX3, TX3, 6, rfl, by decide, TB_at 181 (by decide +kernel) (by decide)⟩
theorem lfX3_35 : q_F RX3 35 3 5 := ⟨RX3, TX3, 6, rfl, by decide, TB_at 182 (by decide +kernel) (by decide)⟩
theorem lqX7_32 : Cond.classLink RX7 32 RX2 ∈ TB := TB_at 196 (by decide +kernel) (by decide)
set_option maxRecDepth 20000 in
theorem lmX7_34 : q_I RX7 34 mX2_init 2 := ⟨TB_at 198 (by decide +kernel) (by decide), ⟨TB_at 199 (by decide +kernel) (by decide), rfl⟩, lc_mX2_init, ⟨by decide +kernel, by decide +kernel, by decide +kernel⟩⟩
theorem lfX2_21 : q_F RX2 21 2 0 := ⟨RX2, TX2, 7, rfl, by decide, TB_at 202 (by decide +kernel) (by decide)⟩
theorem lfX2_25 : q_F RX2 25 2 1 := ⟨RX2, TX2, 7, rfl, by decide, TB_at 203 (by decide +kernel) (by decide)⟩
theorem lfX2_9 : q_F RX2 9 2 2 := ⟨RX2, TX2, 7, rfl, by decide, TB_at 204 (by decide +kernel) (by decide)⟩
theorem lfX1_32 : q_F RX1 32 2 2 := ⟨RX2, TX2, 7, rfl, by decide, TB_at 205 (by decide +kernel) (by decide)⟩
theorem lfX2_15 : q_F RX2 15 2 3 := ⟨RX2, TX2, 7, rfl, by decide, TB_at 206 (by decide +kernel) (by decide)⟩
theorem lfX1_35 : q_F RX1 35 2 3 := ⟨RX2, TX2, 7, rfl, by decide, TB_at 207 (by decide +kernel) (by decide)⟩
theorem lfX2_18 : q_F RX2 18 2 4 := ⟨RX2, TX2, 7, rfl, by decide, TB_at 208 (by decide +kernel) (by decide)⟩
theorem lfX1_42 : q_F RX1 42 2 4 := ⟨RX2, TX2, 7, rfl, by decide, TB_at 209 (by decide +kernel) (by decide)⟩
theorem lfX7_215 : q_F RX7 215 2 4 := ⟨RX2, TX2, 7, rfl, by decide, TB_at 210 (by decide +kernel) (by decide)⟩
theorem lfX2_43 : q_F RX2 43 2 5 := ⟨RX2, TX2, 7, rfl, by decide, TB_at 211 (by decide +kernel) (by decide)⟩
theorem lfX7_264 : q_F RX7 264 2 5 := ⟨RX2, TX2, 7, rfl, by decide, TB_at 212 (by decide +kernel) (by decide)⟩
theorem lfX2_50 : q_F RX2 50 2 6 := ⟨RX2, TX2, 7, rfl, by decide, TB_at 213 (by decide +kernel) (by decide)⟩
theorem lfX1_93 : q_F RX1 93 2 6 := ⟨RX2, TX2, 7, rfl, by decide, TB_at 214 (by decide +kernel) (by decide)⟩
theorem lqX7_41 : Cond.classLink RX7 41 RX1 ∈ TB := TB_at 230 (by decide +kernel) (by decide)
set_option maxRecDepth 20000 in
theorem lmX7_43 : q_I RX7 43 mX1_init 2 := ⟨TB_at 232 (by decide +kernel) (by decide), ⟨TB_at 233 (by decide +kernel) (by decide), rfl⟩, lc_mX1_init, ⟨by decide +kernel, by decide +kernel, by decide +kernel⟩⟩
theorem lfX1_15 : q_F RX1 15 1 0 := ⟨RX1, TX1, 7, rfl, by decide, TB_at 236 (by decide +kernel) (by decide)⟩
theorem lfX1_19 : q_F RX1 19 1 1 := ⟨RX1, TX1, 7, rfl, by decide, TB_at 237 (by decide +kernel) (by decide)⟩
theorem lfX1_9 : q_F RX1 9 1 2 := ⟨RX1, TX1, 7, rfl, by decide, TB_at 238 (by decide +kernel) (by decide)⟩
theorem lfX1_28 : q_F RX1 28 1 3 := ⟨RX1, TX1, 7, rfl, by decide, TB_at 239 (by decide +kernel) (by decide)⟩
theorem lfX7_231 : q_F RX7 231 1 3 := ⟨RX1, TX1, 7, rfl, by decide, TB_at 240 (by decide +kernel) (by decide)⟩
theorem lfX1_66 : q_F RX1 66 1 4 := ⟨RX1, TX1, 7, rfl, by decide, TB_at 241 (by decide +kernel) (by decide)⟩
theorem lfX7_237 : q_F RX7 237 1 4 := ⟨RX1, TX1, 7, rfl, by decide, TB_at 242 (by decide +kernel) (by decide)⟩
theorem lfX1_45 : q_F RX1 45 1 5 := ⟨RX1, TX1, 7, rfl, by decide, TB_at 243 (by decide +kernel) (by decide)⟩
theorem lfX7_225 : q_F RX7 225 1 5 := ⟨RX1, TX1, 7, rfl, by decide, TB_at 244 (by decide +kernel) (by decide)⟩
theorem lfX1_48 : q_F RX1 48 1 6 := ⟨RX1, TX1, 7, rfl, by decide, TB_at 245 (by decide +kernel) (by decide)⟩
theorem lfX7_228 : q_F RX7 228 1 6 := ⟨RX1, TX1, 7, rfl, by decide, TB_at 246 (by decide +kernel) (by decide)⟩
theorem lqX7_50 : Cond.classLink RX7 50 RX0 ∈ TB := TB_at 262 (by decide +kernel) (by decide)
set_option maxRecDepth 20000 in
theorem lmX7_52 : q_I RX7 52 mX0_init 0 := ⟨TB_at 264 (by decide +kernel) (by decide), ⟨TB_at 265 (by decide +kernel) (by decide), rfl⟩, lc_mX0_init, ⟨by decide +kernel, by decide +kernel, by decide +kernel⟩⟩
set_option maxRecDepth 20000 in
theorem lmX0_28 : q_S RX0 28 mJ7_fill_53178 2 := ⟨TB_at 268 (by decide +kernel) (by decide), TB_at 269 (by decide +kernel) (by decide), lc_mJ7_fill_53178, ⟨by decide +kernel, by decide +kernel, by decide +kernel⟩⟩
theorem lfX0_34 : q_F RX0 34 0 0 := ⟨RX0, TX0, 8, rfl, by decide, TB_at 271 (by decide +kernel) (by decide)⟩
theorem lfX7_159 : q_F RX7 159 0 0 := ⟨RX0, TX0, 8, rfl, by decide, TB_at 272 (by decide +kernel) (by decide)⟩
theorem lfX0_9 : q_F RX0 9 0 1 := ⟨RX0, TX0, 8, rfl, by decide, TB_at 273 (by decide +kernel) (by decide)⟩
theorem lfX7_156 : q_F RX7 156 0 1 := ⟨RX0, TX0, 8, rfl, by decide, TB_at 274 (by decide +kernel) (by decide)⟩
theorem lfX7_93 : q_F RX7 93 0 2 := ⟨RX0, TX0, 8, rfl, by decide, TB_at 275 (by decide +kernel) (by decide)⟩
theorem lfX0_52 : q_F RX0 52 0 3 := ⟨RX0, TX0, 8, rfl, by decide, TB_at 276 (by decide +kernel) (by decide)⟩
theorem lfX7_274 : q_F RX7 274 0 3 := ⟨RX0, TX0, 8, rfl, by decide, TB_at 277 (by decide +kernel) (by decide)⟩
theorem lfX0_15 : q_F RX0 15 0 4 := ⟨RX0, TX0, 8, rfl, by decide, TB_at 278 (by decide +kernel) (by decide)⟩
theorem lfX7_127 : q_F RX7 127 0 4 := ⟨RX0, TX0, 8, rfl, by decide, TB_at 279 (by decide +kernel) (by decide)⟩
theorem lfX0_19 : q_F RX0 19 0 5 := ⟨RX0, TX0, 8, rfl, by decide, TB_at 280 (by decide +kernel) (by decide)⟩
theorem lfX7_139 : q_F RX7 139 0 5 := ⟨RX0, TX0, 8, rfl, by decide, TB_at 281 (by decide +kernel) (by decide)⟩
theorem lfX0_22 : q_F RX0 22 0 6 := ⟨RX0, TX0, 8, rfl, by decide, TB_at 282 (by decide +kernel) (by decide)⟩
theorem lfX7_110 : q_F RX7 110 0 6 := ⟨RX0, TX0, 8, rfl, by decide, TB_at 283 (by decide +kernel) (by decide)⟩
theorem lfX0_25 : q_F RX0 25 0 7 := ⟨RX0, TX0, 8, rfl, by decide, TB_at 284 (by decide +kernel) (by decide)⟩
theorem lfX7_142 : q_F RX7 142 0 7 := ⟨RX0, TX0, 8, rfl, by decide, TB_at 285 (by decide +kernel) (by decide)⟩
theorem lqX7_63 : Cond.classLink RX7 63 RX4 ∈ TB := TB_at 303 (by decide +kernel) (by decide)
set_option maxRecDepth 20000 in
theorem lmX7_65 : q_IN RX7 65 mX4_init 0 := ⟨⟨_, List.mem_of_getElem? (i := 305) (by rfl)⟩, ⟨TB_at 306 (by decide +kernel) (by decide), rfl⟩, lc_mX4_init, ⟨by decide +kernel, by decide +kernel, by decide +kernel⟩⟩
theorem lfX4_18 : q_F RX4 18 4 0 := ⟨RX4, TX4, 3, rfl, by decide, TB_at 309 (by decide +kernel) (by decide)⟩
theorem lfX7_97 : q_F RX7 97 4 0 := ⟨RX4, TX4, 3, rfl, by decide, TB_at 310 (by decide +kernel) (by decide)⟩
theorem lfX4_9 : q_F RX4 9 4 1 := ⟨RX4, TX4, 3, rfl, by decide, TB_at 311 (by decide +kernel) (by decide)⟩
theorem lfX4_15 : q_F RX4 15 4 2 := ⟨RX4, TX4, 3, rfl, by decide, TB_at 312 (by decide +kernel) (by decide)⟩
theorem lfX7_10 : q_F RX7 10 7 0 := ⟨RX7, TX7, 9, rfl, by decide, TB_at 320 (by decide +kernel) (by decide)⟩
theorem lfX7_19 : q_F RX7 19 7 1 := ⟨RX7, TX7, 9, rfl, by decide, TB_at 321 (by decide +kernel) (by decide)⟩
theorem lfX7_28 : q_F RX7 28 7 2 := ⟨RX7, TX7, 9, rfl, by decide, TB_at 322 (by decide +kernel) (by decide)⟩
theorem lfX7_37 : q_F RX7 37 7 3 := ⟨RX7, TX7, 9, rfl, by decide, TB_at 323 (by decide +kernel) (by decide)⟩
theorem lfX7_46 : q_F RX7 46 7 4 := ⟨RX7, TX7, 9, rfl, by decide, TB_at 324 (by decide +kernel) (by decide)⟩
theorem lfX7_53 : q_F RX7 53 7 5 := ⟨RX7, TX7, 9, rfl, by decide, TB_at 325 (by decide +kernel) (by decide)⟩
theorem lfX7_57 : q_F RX7 57 7 6 := ⟨RX7, TX7, 9, rfl, by decide, TB_at 326 (by decide +kernel) (by decide)⟩
theorem lfX7_60 : q_F RX7 60 7 7 := ⟨RX7, TX7, 9, rfl, by decide, TB_at 327 (by decide +kernel) (by decide)⟩
theorem lfX7_66 : q_F RX7 66 7 8 := ⟨RX7, TX7, 9, rfl, by decide, TB_at 328 (by decide +kernel) (by decide)⟩
set_option maxRecDepth 20000 in
theorem lmL_15 : q_V RL 15 mX7_write 2 := ⟨TB_at 348 (by decide +kernel) (by decide), ⟨TB_at 349 (by decide +kernel) (by decide), TB_at 350 (by decide +kernel) (by decide)⟩, lc_mX7_write, ⟨by decide +kernel, by decide +kernel, by decide +kernel⟩⟩
theorem lkX7_74 : Cond.constantLong RX7 74 (255 : Int64) ∈ TB := TB_at 352 (by decide +kernel) (by decide)
set_option maxRecDepth 20000 in
theorem lmX7_76 : q_V RX7 76 mX5_append 1 := ⟨TB_at 353 (by decide +kernel) (by decide), ⟨TB_at 354 (by decide +kernel) (by decide), TB_at 355 (by decide +kernel) (by decide)⟩, lc_mX5_append, ⟨by decide +kernel, by decide +kernel, by decide +kernel⟩⟩
set_option maxRecDepth 20000 in
theorem lmL_20 : q_V RL 20 mX7_erase 0 := ⟨TB_at 357 (by decide +kernel) (by decide), ⟨TB_at 358 (by decide +kernel) (by decide), TB_at 359 (by decide +kernel) (by decide)⟩, lc_mX7_erase, ⟨by decide +kernel, by decide +kernel, by decide +kernel⟩⟩
set_option maxRecDepth 20000 in
theorem lmL_25 : q_V RL 25 mX7_fault 0 := ⟨TB_at 361 (by decide +kernel) (by decide), ⟨TB_at 362 (by decide +kernel) (by decide), TB_at 363 (by decide +kernel) (by decide)⟩, lc_mX7_fault, ⟨by decide +kernel, by decide +kernel, by decide +kernel⟩⟩
set_option maxRecDepth 20000 in
theorem lmX7_80 : q_V RX7 80 mX5_read 1 := ⟨TB_at 365 (by decide +kernel) (by decide), ⟨TB_at 366 (by decide +kernel) (by decide), TB_at 367 (by decide +kernel) (by decide)⟩, lc_mX5_read, ⟨by decide +kernel, by decide +kernel, by decide +kernel⟩⟩
set_option maxRecDepth 20000 in
theorem lmX5_29 : q_V RX5 29 mX6_copyFrom 1 := ⟨TB_at 369 (by decide +kernel) (by decide), ⟨TB_at 370 (by decide +kernel) (by decide), TB_at 371 (by decide +kernel) (by decide)⟩, lc_mX6_copyFrom, ⟨by decide +kernel, by decide +kernel, by decide +kernel⟩⟩
set_option maxRecDepth 20000 in
theorem lmX5_39 : q_V RX5 39 mX5_doLine 0 := ⟨TB_at 376 (by decide +kernel) (by decide), ⟨TB_at 378 (by decide +kernel) (by decide), TB_at 0 (by decide +kernel) (by decide)⟩, lc_mX5_doLine, ⟨by decide +kernel, by decide +kernel, by decide +kernel⟩⟩
set_option maxRecDepth 20000 in
theorem lmX5_46 : q_V RX5 46 mX5_nextToken 0 := ⟨TB_at 380 (by decide +kernel) (by decide), ⟨TB_at 382 (by decide +kernel) (by decide), TB_at 1 (by decide +kernel) (by decide)⟩, lc_mX5_nextToken, ⟨by decide +kernel, by decide +kernel, by decide +kernel⟩⟩
set_option maxRecDepth 20000 in
theorem lmX5_49 : q_S RX5 49 mX5_isLetter 1 := ⟨TB_at 384 (by decide +kernel) (by decide), TB_at 385 (by decide +kernel) (by decide), lc_mX5_isLetter, ⟨by decide +kernel, by decide +kernel, by decide +kernel⟩⟩
set_option maxRecDepth 20000 in
theorem lmX5_53 : q_S RX5 53 mX5_isDigit 1 := ⟨TB_at 387 (by decide +kernel) (by decide), TB_at 388 (by decide +kernel) (by decide), lc_mX5_isDigit, ⟨by decide +kernel, by decide +kernel, by decide +kernel⟩⟩
set_option maxRecDepth 20000 in
theorem lmX5_67 : q_V RX5 67 mX5_isWord 1 := ⟨TB_at 391 (by decide +kernel) (by decide), ⟨TB_at 393 (by decide +kernel) (by decide), TB_at 2 (by decide +kernel) (by decide)⟩, lc_mX5_isWord, ⟨by decide +kernel, by decide +kernel, by decide +kernel⟩⟩
set_option maxRecDepth 20000 in
theorem lmX5_56 : q_V RX5 56 mJ0_length_8abf5 0 := ⟨TB_at 395 (by decide +kernel) (by decide), ⟨TB_at 396 (by decide +kernel) (by decide), TB_at 397 (by decide +kernel) (by decide)⟩, lc_mJ0_length_8abf5, ⟨by decide +kernel, by decide +kernel, by decide +kernel⟩⟩
set_option maxRecDepth 20000 in
theorem lmJ0_335 : q_V RJ0 335 mJ0_coder_7d493 0 := ⟨TB_at 399 (by decide +kernel) (by decide), ⟨TB_at 400 (by decide +kernel) (by decide), TB_at 401 (by decide +kernel) (by decide)⟩, lc_mJ0_coder_7d493, ⟨by decide +kernel, by decide +kernel, by decide +kernel⟩⟩
set_option maxRecDepth 20000 in
theorem lmX5_61 : q_V RX5 61 mJ0_charAt_5068e 1 := ⟨TB_at 405 (by decide +kernel) (by decide), ⟨TB_at 406 (by decide +kernel) (by decide), TB_at 407 (by decide +kernel) (by decide)⟩, lc_mJ0_charAt_5068e, ⟨by decide +kernel, by decide +kernel, by decide +kernel⟩⟩
set_option maxRecDepth 20000 in
theorem lmJ0_492 : q_V RJ0 492 mJ0_isLatin1_aae02 0 := ⟨TB_at 409 (by decide +kernel) (by decide), ⟨TB_at 410 (by decide +kernel) (by decide), TB_at 411 (by decide +kernel) (by decide)⟩, lc_mJ0_isLatin1_aae02, ⟨by decide +kernel, by decide +kernel, by decide +kernel⟩⟩
set_option maxRecDepth 20000 in
theorem lmJ0_495 : q_S RJ0 495 mJ1_charAt_3b067 2 := ⟨TB_at 413 (by decide +kernel) (by decide), TB_at 414 (by decide +kernel) (by decide), lc_mJ1_charAt_3b067, ⟨by decide +kernel, by decide +kernel, by decide +kernel⟩⟩
set_option maxRecDepth 20000 in
theorem lmX5_71 : q_V RX5 71 mX5_doInn 0 := ⟨TB_at 443 (by decide +kernel) (by decide), ⟨TB_at 445 (by decide +kernel) (by decide), TB_at 3 (by decide +kernel) (by decide)⟩, lc_mX5_doInn, ⟨by decide +kernel, by decide +kernel, by decide +kernel⟩⟩
set_option maxRecDepth 20000 in
theorem lmX5_101 : q_V RX5 101 mX5_readNumber 2 := ⟨TB_at 447 (by decide +kernel) (by decide), ⟨TB_at 449 (by decide +kernel) (by decide), TB_at 4 (by decide +kernel) (by decide)⟩, lc_mX5_readNumber, ⟨by decide +kernel, by decide +kernel, by decide +kernel⟩⟩
set_option maxRecDepth 20000 in
theorem lmX5_108 : q_V RX5 108 mX6_beginInn 1 := ⟨TB_at 451 (by decide +kernel) (by decide), ⟨TB_at 452 (by decide +kernel) (by decide), TB_at 453 (by decide +kernel) (by decide)⟩, lc_mX6_beginInn, ⟨by decide +kernel, by decide +kernel, by decide +kernel⟩⟩
set_option maxRecDepth 20000 in
theorem lmX5_76 : q_V RX5 76 mX5_doChair 1 := ⟨TB_at 456 (by decide +kernel) (by decide), ⟨TB_at 458 (by decide +kernel) (by decide), TB_at 5 (by decide +kernel) (by decide)⟩, lc_mX5_doChair, ⟨by decide +kernel, by decide +kernel, by decide +kernel⟩⟩
set_option maxRecDepth 20000 in
theorem lmX5_115 : q_V RX5 115 mX6_hasChair 1 := ⟨TB_at 460 (by decide +kernel) (by decide), ⟨TB_at 461 (by decide +kernel) (by decide), TB_at 462 (by decide +kernel) (by decide)⟩, lc_mX6_hasChair, ⟨by decide +kernel, by decide +kernel, by decide +kernel⟩⟩
set_option maxRecDepth 20000 in
theorem lmX6_43 : q_V RX6 43 mX6_hasPlace 1 := ⟨TB_at 464 (by decide +kernel) (by decide), ⟨TB_at 465 (by decide +kernel) (by decide), TB_at 466 (by decide +kernel) (by decide)⟩, lc_mX6_hasPlace, ⟨by decide +kernel, by decide +kernel, by decide +kernel⟩⟩
set_option maxRecDepth 20000 in
theorem lmX6_47 : q_SN RX6 47 mX7_holds 2 := ⟨⟨_, List.mem_of_getElem? (i := 468) (by rfl)⟩, TB_at 469 (by decide +kernel) (by decide), lc_mX7_holds, ⟨by decide +kernel, by decide +kernel, by decide +kernel⟩⟩
set_option maxRecDepth 20000 in
theorem lmX5_87 : q_V RX5 87 mX5_kindOfWord 0 := ⟨TB_at 473 (by decide +kernel) (by decide), ⟨TB_at 475 (by decide +kernel) (by decide), TB_at 6 (by decide +kernel) (by decide)⟩, lc_mX5_kindOfWord, ⟨by decide +kernel, by decide +kernel, by decide +kernel⟩⟩
set_option maxRecDepth 20000 in
theorem lmX5_90 : q_V RX5 90 mX5_doGuest 1 := ⟨TB_at 481 (by decide +kernel) (by decide), ⟨TB_at 483 (by decide +kernel) (by decide), TB_at 7 (by decide +kernel) (by decide)⟩, lc_mX5_doGuest, ⟨by decide +kernel, by decide +kernel, by decide +kernel⟩⟩
set_option maxRecDepth 20000 in
theorem lmX5_121 : q_V RX5 121 mX5_mostOf 1 := ⟨TB_at 485 (by decide +kernel) (by decide), ⟨TB_at 487 (by decide +kernel) (by decide), TB_at 8 (by decide +kernel) (by decide)⟩, lc_mX5_mostOf, ⟨by decide +kernel, by decide +kernel, by decide +kernel⟩⟩
set_option maxRecDepth 20000 in
theorem lmX5_125 : q_V RX5 125 mX6_addGuest 2 := ⟨TB_at 489 (by decide +kernel) (by decide), ⟨TB_at 490 (by decide +kernel) (by decide), TB_at 491 (by decide +kernel) (by decide)⟩, lc_mX6_addGuest, ⟨by decide +kernel, by decide +kernel, by decide +kernel⟩⟩
set_option maxRecDepth 20000 in
theorem lmL_29 : q_V RL 29 mX7_inn 0 := ⟨TB_at 494 (by decide +kernel) (by decide), ⟨TB_at 495 (by decide +kernel) (by decide), TB_at 496 (by decide +kernel) (by decide)⟩, lc_mX7_inn, ⟨by decide +kernel, by decide +kernel, by decide +kernel⟩⟩
set_option maxRecDepth 20000 in
theorem lmX7_87 : q_V RX7 87 mX6_copyFrom 1 := ⟨TB_at 498 (by decide +kernel) (by decide), ⟨TB_at 370 (by decide +kernel) (by decide), TB_at 371 (by decide +kernel) (by decide)⟩, lc_mX6_copyFrom, ⟨by decide +kernel, by decide +kernel, by decide +kernel⟩⟩
set_option maxRecDepth 20000 in
theorem lmX7_90 : q_V RX7 90 mX0_begin 1 := ⟨TB_at 499 (by decide +kernel) (by decide), ⟨TB_at 500 (by decide +kernel) (by decide), TB_at 501 (by decide +kernel) (by decide)⟩, lc_mX0_begin, ⟨by decide +kernel, by decide +kernel, by decide +kernel⟩⟩
set_option maxRecDepth 20000 in
theorem lmX0_49 : q_V RX0 49 mX0_getUp 0 := ⟨TB_at 504 (by decide +kernel) (by decide), ⟨TB_at 505 (by decide +kernel) (by decide), TB_at 506 (by decide +kernel) (by decide)⟩, lc_mX0_getUp, ⟨by decide +kernel, by decide +kernel, by decide +kernel⟩⟩
set_option maxRecDepth 20000 in
theorem lmL_33 : q_V RL 33 mX7_place 2 := ⟨TB_at 508 (by decide +kernel) (by decide), ⟨TB_at 509 (by decide +kernel) (by decide), TB_at 510 (by decide +kernel) (by decide)⟩, lc_mX7_place, ⟨by decide +kernel, by decide +kernel, by decide +kernel⟩⟩
set_option maxRecDepth 20000 in
theorem lmX7_103 : q_V RX7 103 mX6_hasPlace 1 := ⟨TB_at 512 (by decide +kernel) (by decide), ⟨TB_at 465 (by decide +kernel) (by decide), TB_at 466 (by decide +kernel) (by decide)⟩, lc_mX6_hasPlace, ⟨by decide +kernel, by decide +kernel, by decide +kernel⟩⟩
set_option maxRecDepth 20000 in
theorem lmX7_107 : q_V RX7 107 mX6_hasChair 1 := ⟨TB_at 513 (by decide +kernel) (by decide), ⟨TB_at 461 (by decide +kernel) (by decide), TB_at 462 (by decide +kernel) (by decide)⟩, lc_mX6_hasChair, ⟨by decide +kernel, by decide +kernel, by decide +kernel⟩⟩
set_option maxRecDepth 20000 in
theorem lmX7_117 : q_V RX7 117 mX0_whoIsAt 2 := ⟨TB_at 514 (by decide +kernel) (by decide), ⟨TB_at 515 (by decide +kernel) (by decide), TB_at 516 (by decide +kernel) (by decide)⟩, lc_mX0_whoIsAt, ⟨by decide +kernel, by decide +kernel, by decide +kernel⟩⟩
set_option maxRecDepth 20000 in
theorem lmL_38 : q_V RL 38 mX7_guest 2 := ⟨TB_at 518 (by decide +kernel) (by decide), ⟨TB_at 519 (by decide +kernel) (by decide), TB_at 520 (by decide +kernel) (by decide)⟩, lc_mX7_guest, ⟨by decide +kernel, by decide +kernel, by decide +kernel⟩⟩
set_option maxRecDepth 20000 in
theorem lmX7_121 : q_V RX7 121 mX6_hasGuest 1 := ⟨TB_at 522 (by decide +kernel) (by decide), ⟨TB_at 523 (by decide +kernel) (by decide), TB_at 524 (by decide +kernel) (by decide)⟩, lc_mX6_hasGuest, ⟨by decide +kernel, by decide +kernel, by decide +kernel⟩⟩
set_option maxRecDepth 20000 in
theorem lmL_42 : q_V RL 42 mX7_as 2 := ⟨TB_at 526 (by decide +kernel) (by decide), ⟨TB_at 527 (by decide +kernel) (by decide), TB_at 528 (by decide +kernel) (by decide)⟩, lc_mX7_as, ⟨by decide +kernel, by decide +kernel, by decide +kernel⟩⟩
set_option maxRecDepth 20000 in
theorem lmX7_145 : q_V RX7 145 mX6_isA 2 := ⟨TB_at 530 (by decide +kernel) (by decide), ⟨TB_at 531 (by decide +kernel) (by decide), TB_at 532 (by decide +kernel) (by decide)⟩, lc_mX6_isA, ⟨by decide +kernel, by decide +kernel, by decide +kernel⟩⟩
set_option maxRecDepth 20000 in
theorem lmX7_149 : q_V RX7 149 mX6_nearestChair 1 := ⟨TB_at 534 (by decide +kernel) (by decide), ⟨TB_at 535 (by decide +kernel) (by decide), TB_at 536 (by decide +kernel) (by decide)⟩, lc_mX6_nearestChair, ⟨by decide +kernel, by decide +kernel, by decide +kernel⟩⟩
set_option maxRecDepth 20000 in
theorem lmX6_61 : q_V RX6 61 mX6_farthest 0 := ⟨TB_at 538 (by decide +kernel) (by decide), ⟨TB_at 539 (by decide +kernel) (by decide), TB_at 540 (by decide +kernel) (by decide)⟩, lc_mX6_farthest, ⟨by decide +kernel, by decide +kernel, by decide +kernel⟩⟩
set_option maxRecDepth 20000 in
theorem lmX6_64 : q_V RX6 64 mX6_leastAt 3 := ⟨TB_at 542 (by decide +kernel) (by decide), ⟨TB_at 543 (by decide +kernel) (by decide), TB_at 544 (by decide +kernel) (by decide)⟩, lc_mX6_leastAt, ⟨by decide +kernel, by decide +kernel, by decide +kernel⟩⟩
set_option maxRecDepth 20000 in
theorem lmX7_153 : q_V RX7 153 mX6_ease 1 := ⟨TB_at 546 (by decide +kernel) (by decide), ⟨TB_at 547 (by decide +kernel) (by decide), TB_at 548 (by decide +kernel) (by decide)⟩, lc_mX6_ease, ⟨by decide +kernel, by decide +kernel, by decide +kernel⟩⟩
set_option maxRecDepth 20000 in
theorem lmL_46 : q_V RL 46 mX7_walk 1 := ⟨TB_at 550 (by decide +kernel) (by decide), ⟨TB_at 551 (by decide +kernel) (by decide), TB_at 552 (by decide +kernel) (by decide)⟩, lc_mX7_walk, ⟨by decide +kernel, by decide +kernel, by decide +kernel⟩⟩
set_option maxRecDepth 20000 in
theorem lmX7_162 : q_V RX7 162 mX0_goOn 2 := ⟨TB_at 554 (by decide +kernel) (by decide), ⟨TB_at 555 (by decide +kernel) (by decide), TB_at 556 (by decide +kernel) (by decide)⟩, lc_mX0_goOn, ⟨by decide +kernel, by decide +kernel, by decide +kernel⟩⟩
set_option maxRecDepth 20000 in
theorem lmX0_64 : q_V RX0 64 mX6_placeAfter 3 := ⟨TB_at 558 (by decide +kernel) (by decide), ⟨TB_at 559 (by decide +kernel) (by decide), TB_at 560 (by decide +kernel) (by decide)⟩, lc_mX6_placeAfter, ⟨by decide +kernel, by decide +kernel, by decide +kernel⟩⟩
set_option maxRecDepth 20000 in
theorem lmX6_55 : q_S RX6 55 mJ9_floorMod_7cf53 2 := ⟨TB_at 562 (by decide +kernel) (by decide), TB_at 563 (by decide +kernel) (by decide), lc_mJ9_floorMod_7cf53, ⟨by decide +kernel, by decide +kernel, by decide +kernel⟩⟩
set_option maxRecDepth 20000 in
theorem lmL_51 : q_V RL 51 mX7_stop 0 := ⟨TB_at 565 (by decide +kernel) (by decide), ⟨TB_at 566 (by decide +kernel) (by decide), TB_at 567 (by decide +kernel) (by decide)⟩, lc_mX7_stop, ⟨by decide +kernel, by decide +kernel, by decide +kernel⟩⟩
set_option maxRecDepth 20000 in
theorem lmX7_173 : q_V RX7 173 mX6_everyone 0 := ⟨TB_at 570 (by decide +kernel) (by decide), ⟨TB_at 571 (by decide +kernel) (by decide), TB_at 572 (by decide +kernel) (by decide)⟩, lc_mX6_everyone, ⟨by decide +kernel, by decide +kernel, by decide +kernel⟩⟩
set_option maxRecDepth 20000 in
theorem lmX7_180 : q_V RX7 180 mX3_settle 2 := ⟨TB_at 574 (by decide +kernel) (by decide), ⟨TB_at 575 (by decide +kernel) (by decide), TB_at 576 (by decide +kernel) (by decide)⟩, lc_mX3_settle, ⟨by decide +kernel, by decide +kernel, by decide +kernel⟩⟩
set_option maxRecDepth 20000 in
theorem lmX3_25 : q_S RX3 25 mJ7_fill_53178 2 := ⟨TB_at 578 (by decide +kernel) (by decide), TB_at 269 (by decide +kernel) (by decide), lc_mJ7_fill_53178, ⟨by decide +kernel, by decide +kernel, by decide +kernel⟩⟩
set_option maxRecDepth 20000 in
theorem lmX3_39 : q_V RX3 39 mX6_allOfKind 1 := ⟨TB_at 579 (by decide +kernel) (by decide), ⟨TB_at 580 (by decide +kernel) (by decide), TB_at 581 (by decide +kernel) (by decide)⟩, lc_mX6_allOfKind, ⟨by decide +kernel, by decide +kernel, by decide +kernel⟩⟩
set_option maxRecDepth 20000 in
theorem lmX3_45 : q_V RX3 45 mX3_seatAll 1 := ⟨TB_at 583 (by decide +kernel) (by decide), ⟨TB_at 585 (by decide +kernel) (by decide), TB_at 9 (by decide +kernel) (by decide)⟩, lc_mX3_seatAll, ⟨by decide +kernel, by decide +kernel, by decide +kernel⟩⟩
set_option maxRecDepth 20000 in
theorem lmX3_48 : q_V RX3 48 mX6_farthest 0 := ⟨TB_at 587 (by decide +kernel) (by decide), ⟨TB_at 539 (by decide +kernel) (by decide), TB_at 540 (by decide +kernel) (by decide)⟩, lc_mX6_farthest, ⟨by decide +kernel, by decide +kernel, by decide +kernel⟩⟩
set_option maxRecDepth 20000 in
theorem lmX3_55 : q_SN RX3 55 mX7_holds 2 := ⟨⟨_, List.mem_of_getElem? (i := 588) (by rfl)⟩, TB_at 469 (by decide +kernel) (by decide), lc_mX7_holds, ⟨by decide +kernel, by decide +kernel, by decide +kernel⟩⟩
set_option maxRecDepth 20000 in
theorem lmX3_59 : q_V RX3 59 mX6_ease 1 := ⟨TB_at 589 (by decide +kernel) (by decide), ⟨TB_at 547 (by decide +kernel) (by decide), TB_at 548 (by decide +kernel) (by decide)⟩, lc_mX6_ease, ⟨by decide +kernel, by decide +kernel, by decide +kernel⟩⟩
set_option maxRecDepth 20000 in
theorem lmX3_62 : q_V RX3 62 mX6_leastAt 3 := ⟨TB_at 590 (by decide +kernel) (by decide), ⟨TB_at 543 (by decide +kernel) (by decide), TB_at 544 (by decide +kernel) (by decide)⟩, lc_mX6_leastAt, ⟨by decide +kernel, by decide +kernel, by decide +kernel⟩⟩
set_option maxRecDepth 20000 in
theorem lmX3_66 : q_V RX3 66 mX3_seatOne 2 := ⟨TB_at 591 (by decide +kernel) (by decide), ⟨TB_at 593 (by decide +kernel) (by decide), TB_at 10 (by decide +kernel) (by decide)⟩, lc_mX3_seatOne, ⟨by decide +kernel, by decide +kernel, by decide +kernel⟩⟩
set_option maxRecDepth 20000 in
theorem lmX3_70 : q_V RX3 70 mX3_take 2 := ⟨TB_at 595 (by decide +kernel) (by decide), ⟨TB_at 597 (by decide +kernel) (by decide), TB_at 11 (by decide +kernel) (by decide)⟩, lc_mX3_take, ⟨by decide +kernel, by decide +kernel, by decide +kernel⟩⟩
set_option maxRecDepth 20000 in
theorem lmX7_183 : q_V RX7 183 mX3_settleFaint 1 := ⟨TB_at 599 (by decide +kernel) (by decide), ⟨TB_at 600 (by decide +kernel) (by decide), TB_at 601 (by decide +kernel) (by decide)⟩, lc_mX3_settleFaint, ⟨by decide +kernel, by decide +kernel, by decide +kernel⟩⟩
set_option maxRecDepth 20000 in
theorem lmX7_186 : q_V RX7 186 mX0_end 3 := ⟨TB_at 603 (by decide +kernel) (by decide), ⟨TB_at 604 (by decide +kernel) (by decide), TB_at 605 (by decide +kernel) (by decide)⟩, lc_mX0_end, ⟨by decide +kernel, by decide +kernel, by decide +kernel⟩⟩
set_option maxRecDepth 20000 in
theorem lmX0_72 : q_S RX0 72 mJ6_bitCount_0f7a4 1 := ⟨TB_at 607 (by decide +kernel) (by decide), TB_at 608 (by decide +kernel) (by decide), lc_mJ6_bitCount_0f7a4, ⟨by decide +kernel, by decide +kernel, by decide +kernel⟩⟩
theorem lkJ6_265 : Cond.constant RJ6 265 (1431655765 : Int32) ∈ TB := TB_at 610 (by decide +kernel) (by decide)
theorem lkJ6_266 : Cond.constant RJ6 266 (858993459 : Int32) ∈ TB := TB_at 611 (by decide +kernel) (by decide)
theorem lkJ6_267 : Cond.constant RJ6 267 (252645135 : Int32) ∈ TB := TB_at 612 (by decide +kernel) (by decide)
set_option maxRecDepth 20000 in
theorem lmX0_78 : q_V RX0 78 mX6_allWorth 0 := ⟨TB_at 613 (by decide +kernel) (by decide), ⟨TB_at 614 (by decide +kernel) (by decide), TB_at 615 (by decide +kernel) (by decide)⟩, lc_mX6_allWorth, ⟨by decide +kernel, by decide +kernel, by decide +kernel⟩⟩
set_option maxRecDepth 20000 in
theorem lmX0_82 : q_SN RX0 82 mX7_holds 2 := ⟨⟨_, List.mem_of_getElem? (i := 617) (by rfl)⟩, TB_at 469 (by decide +kernel) (by decide), lc_mX7_holds, ⟨by decide +kernel, by decide +kernel, by decide +kernel⟩⟩
set_option maxRecDepth 20000 in
theorem lmL_55 : q_V RL 55 mX7_play 0 := ⟨TB_at 618 (by decide +kernel) (by decide), ⟨TB_at 619 (by decide +kernel) (by decide), TB_at 620 (by decide +kernel) (by decide)⟩, lc_mX7_play, ⟨by decide +kernel, by decide +kernel, by decide +kernel⟩⟩
set_option maxRecDepth 20000 in
theorem lmX7_190 : q_V RX7 190 mX0_getUp 0 := ⟨TB_at 622 (by decide +kernel) (by decide), ⟨TB_at 505 (by decide +kernel) (by decide), TB_at 506 (by decide +kernel) (by decide)⟩, lc_mX0_getUp, ⟨by decide +kernel, by decide +kernel, by decide +kernel⟩⟩
set_option maxRecDepth 20000 in
theorem lmL_59 : q_V RL 59 mX7_keep 1 := ⟨TB_at 623 (by decide +kernel) (by decide), ⟨TB_at 624 (by decide +kernel) (by decide), TB_at 625 (by decide +kernel) (by decide)⟩, lc_mX7_keep, ⟨by decide +kernel, by decide +kernel, by decide +kernel⟩⟩
set_option maxRecDepth 20000 in
theorem lmX7_193 : q_S RX7 193 mX7_isEither 1 := ⟨TB_at 627 (by decide +kernel) (by decide), TB_at 628 (by decide +kernel) (by decide), lc_mX7_isEither, ⟨by decide +kernel, by decide +kernel, by decide +kernel⟩⟩
set_option maxRecDepth 20000 in
theorem lmX7_196 : q_V RX7 196 mX0_copyFrom 1 := ⟨TB_at 630 (by decide +kernel) (by decide), ⟨TB_at 631 (by decide +kernel) (by decide), TB_at 632 (by decide +kernel) (by decide)⟩, lc_mX0_copyFrom, ⟨by decide +kernel, by decide +kernel, by decide +kernel⟩⟩
set_option maxRecDepth 20000 in
theorem lmL_63 : q_V RL 63 mX7_back 1 := ⟨TB_at 634 (by decide +kernel) (by decide), ⟨TB_at 635 (by decide +kernel) (by decide), TB_at 636 (by decide +kernel) (by decide)⟩, lc_mX7_back, ⟨by decide +kernel, by decide +kernel, by decide +kernel⟩⟩
set_option maxRecDepth 20000 in
theorem lmL_67 : q_V RL 67 mX7_standing 1 := ⟨TB_at 638 (by decide +kernel) (by decide), ⟨TB_at 639 (by decide +kernel) (by decide), TB_at 640 (by decide +kernel) (by decide)⟩, lc_mX7_standing, ⟨by decide +kernel, by decide +kernel, by decide +kernel⟩⟩
set_option maxRecDepth 20000 in
theorem lmX7_199 : q_S RX7 199 mX7_isMinute 1 := ⟨TB_at 642 (by decide +kernel) (by decide), TB_at 643 (by decide +kernel) (by decide), lc_mX7_isMinute, ⟨by decide +kernel, by decide +kernel, by decide +kernel⟩⟩
set_option maxRecDepth 20000 in
theorem lmX7_202 : q_V RX7 202 mX2_asTold 0 := ⟨TB_at 645 (by decide +kernel) (by decide), ⟨TB_at 646 (by decide +kernel) (by decide), TB_at 647 (by decide +kernel) (by decide)⟩, lc_mX2_asTold, ⟨by decide +kernel, by decide +kernel, by decide +kernel⟩⟩
set_option maxRecDepth 20000 in
theorem lmX2_39 : q_V RX2 39 mX6_everyone 0 := ⟨TB_at 650 (by decide +kernel) (by decide), ⟨TB_at 571 (by decide +kernel) (by decide), TB_at 572 (by decide +kernel) (by decide)⟩, lc_mX6_everyone, ⟨by decide +kernel, by decide +kernel, by decide +kernel⟩⟩
set_option maxRecDepth 20000 in
theorem lmX7_205 : q_V RX7 205 mX2_stoodAt 1 := ⟨TB_at 651 (by decide +kernel) (by decide), ⟨TB_at 652 (by decide +kernel) (by decide), TB_at 653 (by decide +kernel) (by decide)⟩, lc_mX2_stoodAt, ⟨by decide +kernel, by decide +kernel, by decide +kernel⟩⟩
set_option maxRecDepth 20000 in
theorem lmX2_51 : q_V RX2 51 mX2_goTo 1 := ⟨TB_at 655 (by decide +kernel) (by decide), ⟨TB_at 657 (by decide +kernel) (by decide), TB_at 12 (by decide +kernel) (by decide)⟩, lc_mX2_goTo, ⟨by decide +kernel, by decide +kernel, by decide +kernel⟩⟩
set_option maxRecDepth 20000 in
theorem lmX2_70 : q_V RX2 70 mX6_placeAfter 3 := ⟨TB_at 659 (by decide +kernel) (by decide), ⟨TB_at 559 (by decide +kernel) (by decide), TB_at 560 (by decide +kernel) (by decide)⟩, lc_mX6_placeAfter, ⟨by decide +kernel, by decide +kernel, by decide +kernel⟩⟩
set_option maxRecDepth 20000 in
theorem lmX2_55 : q_V RX2 55 mX3_settle 2 := ⟨TB_at 660 (by decide +kernel) (by decide), ⟨TB_at 575 (by decide +kernel) (by decide), TB_at 576 (by decide +kernel) (by decide)⟩, lc_mX3_settle, ⟨by decide +kernel, by decide +kernel, by decide +kernel⟩⟩
set_option maxRecDepth 20000 in
theorem lmL_71 : q_V RL 71 mX7_odds 4 := ⟨TB_at 661 (by decide +kernel) (by decide), ⟨TB_at 662 (by decide +kernel) (by decide), TB_at 663 (by decide +kernel) (by decide)⟩, lc_mX7_odds, ⟨by decide +kernel, by decide +kernel, by decide +kernel⟩⟩
set_option maxRecDepth 20000 in
theorem lmX7_208 : q_S RX7 208 mX7_areMinutes 2 := ⟨TB_at 665 (by decide +kernel) (by decide), TB_at 666 (by decide +kernel) (by decide), lc_mX7_areMinutes, ⟨by decide +kernel, by decide +kernel, by decide +kernel⟩⟩
set_option maxRecDepth 20000 in
theorem lmX7_211 : q_V RX7 211 mX2_tally 2 := ⟨TB_at 668 (by decide +kernel) (by decide), ⟨TB_at 669 (by decide +kernel) (by decide), TB_at 670 (by decide +kernel) (by decide)⟩, lc_mX2_tally, ⟨by decide +kernel, by decide +kernel, by decide +kernel⟩⟩
set_option maxRecDepth 20000 in
theorem lmX2_74 : q_S RX2 74 mJ7_fill_53178 2 := ⟨TB_at 672 (by decide +kernel) (by decide), TB_at 269 (by decide +kernel) (by decide), lc_mJ7_fill_53178, ⟨by decide +kernel, by decide +kernel, by decide +kernel⟩⟩
set_option maxRecDepth 20000 in
theorem lmX2_83 : q_V RX2 83 mX2_minutesLike 3 := ⟨TB_at 673 (by decide +kernel) (by decide), ⟨TB_at 674 (by decide +kernel) (by decide), TB_at 675 (by decide +kernel) (by decide)⟩, lc_mX2_minutesLike, ⟨by decide +kernel, by decide +kernel, by decide +kernel⟩⟩
set_option maxRecDepth 20000 in
theorem lmX2_94 : q_V RX2 94 mX2_minutesLikeTo 2 := ⟨TB_at 677 (by decide +kernel) (by decide), ⟨TB_at 679 (by decide +kernel) (by decide), TB_at 13 (by decide +kernel) (by decide)⟩, lc_mX2_minutesLikeTo, ⟨by decide +kernel, by decide +kernel, by decide +kernel⟩⟩
set_option maxRecDepth 20000 in
theorem lmX2_86 : q_V RX2 86 mX2_addTimes 2 := ⟨TB_at 681 (by decide +kernel) (by decide), ⟨TB_at 683 (by decide +kernel) (by decide), TB_at 14 (by decide +kernel) (by decide)⟩, lc_mX2_addTimes, ⟨by decide +kernel, by decide +kernel, by decide +kernel⟩⟩
set_option maxRecDepth 20000 in
theorem lmX2_90 : q_SN RX2 90 mX7_holds 2 := ⟨⟨_, List.mem_of_getElem? (i := 685) (by rfl)⟩, TB_at 469 (by decide +kernel) (by decide), lc_mX7_holds, ⟨by decide +kernel, by decide +kernel, by decide +kernel⟩⟩
set_option maxRecDepth 20000 in
theorem lmX7_218 : q_S RX7 218 mX7_commonDivisor 2 := ⟨TB_at 686 (by decide +kernel) (by decide), TB_at 687 (by decide +kernel) (by decide), lc_mX7_commonDivisor, ⟨by decide +kernel, by decide +kernel, by decide +kernel⟩⟩
set_option maxRecDepth 20000 in
theorem lmL_76 : q_V RL 76 mX7_surest 4 := ⟨TB_at 689 (by decide +kernel) (by decide), ⟨TB_at 690 (by decide +kernel) (by decide), TB_at 691 (by decide +kernel) (by decide)⟩, lc_mX7_surest, ⟨by decide +kernel, by decide +kernel, by decide +kernel⟩⟩
set_option maxRecDepth 20000 in
theorem lmX7_221 : q_V RX7 221 mX1_findSurest 3 := ⟨TB_at 693 (by decide +kernel) (by decide), ⟨TB_at 694 (by decide +kernel) (by decide), TB_at 695 (by decide +kernel) (by decide)⟩, lc_mX1_findSurest, ⟨by decide +kernel, by decide +kernel, by decide +kernel⟩⟩
set_option maxRecDepth 20000 in
theorem lmX1_23 : q_V RX1 23 mX2_asTold 0 := ⟨TB_at 697 (by decide +kernel) (by decide), ⟨TB_at 646 (by decide +kernel) (by decide), TB_at 647 (by decide +kernel) (by decide)⟩, lc_mX2_asTold, ⟨by decide +kernel, by decide +kernel, by decide +kernel⟩⟩
set_option maxRecDepth 20000 in
theorem lmX1_38 : q_V RX1 38 mX2_tally 2 := ⟨TB_at 698 (by decide +kernel) (by decide), ⟨TB_at 669 (by decide +kernel) (by decide), TB_at 670 (by decide +kernel) (by decide)⟩, lc_mX2_tally, ⟨by decide +kernel, by decide +kernel, by decide +kernel⟩⟩
set_option maxRecDepth 20000 in
theorem lmL_80 : q_V RL 80 mX7_still 3 := ⟨TB_at 699 (by decide +kernel) (by decide), ⟨TB_at 700 (by decide +kernel) (by decide), TB_at 701 (by decide +kernel) (by decide)⟩, lc_mX7_still, ⟨by decide +kernel, by decide +kernel, by decide +kernel⟩⟩
set_option maxRecDepth 20000 in
theorem lmX7_234 : q_V RX7 234 mX1_findStill 2 := ⟨TB_at 703 (by decide +kernel) (by decide), ⟨TB_at 704 (by decide +kernel) (by decide), TB_at 705 (by decide +kernel) (by decide)⟩, lc_mX1_findStill, ⟨by decide +kernel, by decide +kernel, by decide +kernel⟩⟩
set_option maxRecDepth 20000 in
theorem lmX1_51 : q_V RX1 51 mX6_everyone 0 := ⟨TB_at 707 (by decide +kernel) (by decide), ⟨TB_at 571 (by decide +kernel) (by decide), TB_at 572 (by decide +kernel) (by decide)⟩, lc_mX6_everyone, ⟨by decide +kernel, by decide +kernel, by decide +kernel⟩⟩
set_option maxRecDepth 20000 in
theorem lmX1_69 : q_V RX1 69 mX1_nobodyWouldChange 1 := ⟨TB_at 709 (by decide +kernel) (by decide), ⟨TB_at 711 (by decide +kernel) (by decide), TB_at 15 (by decide +kernel) (by decide)⟩, lc_mX1_nobodyWouldChange, ⟨by decide +kernel, by decide +kernel, by decide +kernel⟩⟩
set_option maxRecDepth 20000 in
theorem lmL_85 : q_V RL 85 mX7_plot 4 := ⟨TB_at 713 (by decide +kernel) (by decide), ⟨TB_at 714 (by decide +kernel) (by decide), TB_at 715 (by decide +kernel) (by decide)⟩, lc_mX7_plot, ⟨by decide +kernel, by decide +kernel, by decide +kernel⟩⟩
set_option maxRecDepth 20000 in
theorem lmX7_240 : q_V RX7 240 mX6_hasAll 1 := ⟨TB_at 717 (by decide +kernel) (by decide), ⟨TB_at 718 (by decide +kernel) (by decide), TB_at 719 (by decide +kernel) (by decide)⟩, lc_mX6_hasAll, ⟨by decide +kernel, by decide +kernel, by decide +kernel⟩⟩
set_option maxRecDepth 20000 in
theorem lmX6_51 : q_V RX6 51 mX6_everyone 0 := ⟨TB_at 721 (by decide +kernel) (by decide), ⟨TB_at 571 (by decide +kernel) (by decide), TB_at 572 (by decide +kernel) (by decide)⟩, lc_mX6_everyone, ⟨by decide +kernel, by decide +kernel, by decide +kernel⟩⟩
set_option maxRecDepth 20000 in
theorem lmX7_243 : q_S RX7 243 mX7_holds 2 := ⟨TB_at 722 (by decide +kernel) (by decide), TB_at 469 (by decide +kernel) (by decide), lc_mX7_holds, ⟨by decide +kernel, by decide +kernel, by decide +kernel⟩⟩
set_option maxRecDepth 20000 in
theorem lmX7_246 : q_V RX7 246 mX1_findPlot 3 := ⟨TB_at 723 (by decide +kernel) (by decide), ⟨TB_at 724 (by decide +kernel) (by decide), TB_at 725 (by decide +kernel) (by decide)⟩, lc_mX1_findPlot, ⟨by decide +kernel, by decide +kernel, by decide +kernel⟩⟩
set_option maxRecDepth 20000 in
theorem lmX1_73 : q_S RX1 73 mJ6_bitCount_0f7a4 1 := ⟨TB_at 727 (by decide +kernel) (by decide), TB_at 608 (by decide +kernel) (by decide), lc_mJ6_bitCount_0f7a4, ⟨by decide +kernel, by decide +kernel, by decide +kernel⟩⟩
set_option maxRecDepth 20000 in
theorem lmX1_79 : q_V RX1 79 mX1_keepStill 1 := ⟨TB_at 728 (by decide +kernel) (by decide), ⟨TB_at 730 (by decide +kernel) (by decide), TB_at 16 (by decide +kernel) (by decide)⟩, lc_mX1_keepStill, ⟨by decide +kernel, by decide +kernel, by decide +kernel⟩⟩
set_option maxRecDepth 20000 in
theorem lmX1_86 : q_SN RX1 86 mX7_holds 2 := ⟨⟨_, List.mem_of_getElem? (i := 732) (by rfl)⟩, TB_at 469 (by decide +kernel) (by decide), lc_mX7_holds, ⟨by decide +kernel, by decide +kernel, by decide +kernel⟩⟩
set_option maxRecDepth 20000 in
theorem lmX1_83 : q_V RX1 83 mX2_stoodAt 1 := ⟨TB_at 733 (by decide +kernel) (by decide), ⟨TB_at 652 (by decide +kernel) (by decide), TB_at 653 (by decide +kernel) (by decide)⟩, lc_mX2_stoodAt, ⟨by decide +kernel, by decide +kernel, by decide +kernel⟩⟩
set_option maxRecDepth 20000 in
theorem lmL_89 : q_V RL 89 mX7_price 1 := ⟨TB_at 734 (by decide +kernel) (by decide), ⟨TB_at 735 (by decide +kernel) (by decide), TB_at 736 (by decide +kernel) (by decide)⟩, lc_mX7_price, ⟨by decide +kernel, by decide +kernel, by decide +kernel⟩⟩
set_option maxRecDepth 20000 in
theorem lmX7_252 : q_V RX7 252 mX6_greatestWorth 1 := ⟨TB_at 738 (by decide +kernel) (by decide), ⟨TB_at 739 (by decide +kernel) (by decide), TB_at 740 (by decide +kernel) (by decide)⟩, lc_mX6_greatestWorth, ⟨by decide +kernel, by decide +kernel, by decide +kernel⟩⟩
set_option maxRecDepth 20000 in
theorem lmX6_68 : q_S RX6 68 mJ9_max_7cf53 2 := ⟨TB_at 742 (by decide +kernel) (by decide), TB_at 743 (by decide +kernel) (by decide), lc_mJ9_max_7cf53, ⟨by decide +kernel, by decide +kernel, by decide +kernel⟩⟩
set_option maxRecDepth 20000 in
theorem lmL_93 : q_V RL 93 mX7_laid 4 := ⟨TB_at 745 (by decide +kernel) (by decide), ⟨TB_at 746 (by decide +kernel) (by decide), TB_at 747 (by decide +kernel) (by decide)⟩, lc_mX7_laid, ⟨by decide +kernel, by decide +kernel, by decide +kernel⟩⟩
set_option maxRecDepth 20000 in
theorem lmX7_258 : q_V RX7 258 mX1_findLaid 3 := ⟨TB_at 749 (by decide +kernel) (by decide), ⟨TB_at 750 (by decide +kernel) (by decide), TB_at 751 (by decide +kernel) (by decide)⟩, lc_mX1_findLaid, ⟨by decide +kernel, by decide +kernel, by decide +kernel⟩⟩
set_option maxRecDepth 20000 in
theorem lmX1_96 : q_V RX1 96 mX2_spread 0 := ⟨TB_at 753 (by decide +kernel) (by decide), ⟨TB_at 754 (by decide +kernel) (by decide), TB_at 755 (by decide +kernel) (by decide)⟩, lc_mX2_spread, ⟨by decide +kernel, by decide +kernel, by decide +kernel⟩⟩
set_option maxRecDepth 20000 in
theorem lmX2_97 : q_S RX2 97 mJ9_max_7cf53 2 := ⟨TB_at 757 (by decide +kernel) (by decide), TB_at 743 (by decide +kernel) (by decide), lc_mJ9_max_7cf53, ⟨by decide +kernel, by decide +kernel, by decide +kernel⟩⟩
set_option maxRecDepth 20000 in
theorem lmX2_102 : q_S RX2 102 mJ9_min_7cf53 2 := ⟨TB_at 758 (by decide +kernel) (by decide), TB_at 759 (by decide +kernel) (by decide), lc_mJ9_min_7cf53, ⟨by decide +kernel, by decide +kernel, by decide +kernel⟩⟩
set_option maxRecDepth 20000 in
theorem lmL_97 : q_V RL 97 mX7_left 2 := ⟨TB_at 761 (by decide +kernel) (by decide), ⟨TB_at 762 (by decide +kernel) (by decide), TB_at 763 (by decide +kernel) (by decide)⟩, lc_mX7_left, ⟨by decide +kernel, by decide +kernel, by decide +kernel⟩⟩
set_option maxRecDepth 20000 in
theorem lmX7_261 : q_V RX7 261 mX2_playRounds 1 := ⟨TB_at 765 (by decide +kernel) (by decide), ⟨TB_at 766 (by decide +kernel) (by decide), TB_at 767 (by decide +kernel) (by decide)⟩, lc_mX2_playRounds, ⟨by decide +kernel, by decide +kernel, by decide +kernel⟩⟩
set_option maxRecDepth 20000 in
theorem lmX2_105 : q_V RX2 105 mX2_asTold 0 := ⟨TB_at 769 (by decide +kernel) (by decide), ⟨TB_at 646 (by decide +kernel) (by decide), TB_at 647 (by decide +kernel) (by decide)⟩, lc_mX2_asTold, ⟨by decide +kernel, by decide +kernel, by decide +kernel⟩⟩
set_option maxRecDepth 20000 in
theorem lmX2_108 : q_S RX2 108 mJ6_bitCount_0f7a4 1 := ⟨TB_at 770 (by decide +kernel) (by decide), TB_at 608 (by decide +kernel) (by decide), lc_mJ6_bitCount_0f7a4, ⟨by decide +kernel, by decide +kernel, by decide +kernel⟩⟩
set_option maxRecDepth 20000 in
theorem lmX2_114 : q_V RX2 114 mX2_stoodAt 1 := ⟨TB_at 771 (by decide +kernel) (by decide), ⟨TB_at 652 (by decide +kernel) (by decide), TB_at 653 (by decide +kernel) (by decide)⟩, lc_mX2_stoodAt, ⟨by decide +kernel, by decide +kernel, by decide +kernel⟩⟩
set_option maxRecDepth 20000 in
theorem lmL_101 : q_V RL 101 mX7_seen 2 := ⟨TB_at 772 (by decide +kernel) (by decide), ⟨TB_at 773 (by decide +kernel) (by decide), TB_at 774 (by decide +kernel) (by decide)⟩, lc_mX7_seen, ⟨by decide +kernel, by decide +kernel, by decide +kernel⟩⟩
set_option maxRecDepth 20000 in
theorem lmX7_267 : q_V RX7 267 mX4_add 2 := ⟨TB_at 776 (by decide +kernel) (by decide), ⟨TB_at 777 (by decide +kernel) (by decide), TB_at 778 (by decide +kernel) (by decide)⟩, lc_mX4_add, ⟨by decide +kernel, by decide +kernel, by decide +kernel⟩⟩
set_option maxRecDepth 20000 in
theorem lmL_105 : q_V RL 105 mX7_forget 0 := ⟨TB_at 780 (by decide +kernel) (by decide), ⟨TB_at 781 (by decide +kernel) (by decide), TB_at 782 (by decide +kernel) (by decide)⟩, lc_mX7_forget, ⟨by decide +kernel, by decide +kernel, by decide +kernel⟩⟩
set_option maxRecDepth 20000 in
theorem lmL_109 : q_V RL 109 mX7_fits 1 := ⟨TB_at 784 (by decide +kernel) (by decide), ⟨TB_at 785 (by decide +kernel) (by decide), TB_at 786 (by decide +kernel) (by decide)⟩, lc_mX7_fits, ⟨by decide +kernel, by decide +kernel, by decide +kernel⟩⟩
set_option maxRecDepth 20000 in
theorem lmX7_270 : q_V RX7 270 mX1_findFits 1 := ⟨TB_at 788 (by decide +kernel) (by decide), ⟨TB_at 789 (by decide +kernel) (by decide), TB_at 790 (by decide +kernel) (by decide)⟩, lc_mX1_findFits, ⟨by decide +kernel, by decide +kernel, by decide +kernel⟩⟩
set_option maxRecDepth 20000 in
theorem lmX1_99 : q_V RX1 99 mX4_fit 1 := ⟨TB_at 792 (by decide +kernel) (by decide), ⟨TB_at 793 (by decide +kernel) (by decide), TB_at 794 (by decide +kernel) (by decide)⟩, lc_mX4_fit, ⟨by decide +kernel, by decide +kernel, by decide +kernel⟩⟩
set_option maxRecDepth 20000 in
theorem lmX1_104 : q_V RX1 104 mX2_minutesLike 3 := ⟨TB_at 796 (by decide +kernel) (by decide), ⟨TB_at 674 (by decide +kernel) (by decide), TB_at 675 (by decide +kernel) (by decide)⟩, lc_mX2_minutesLike, ⟨by decide +kernel, by decide +kernel, by decide +kernel⟩⟩
set_option maxRecDepth 20000 in
theorem lmL_113 : q_V RL 113 mX7_count 1 := ⟨TB_at 797 (by decide +kernel) (by decide), ⟨TB_at 798 (by decide +kernel) (by decide), TB_at 799 (by decide +kernel) (by decide)⟩, lc_mX7_count, ⟨by decide +kernel, by decide +kernel, by decide +kernel⟩⟩
theorem lqL_10 : Cond.classLink RL 10 RX8 ∈ TB := TB_at 801 (by decide +kernel) (by decide)
set_option maxRecDepth 20000 in
theorem lmL_12 : q_I RL 12 mX8_init 0 := ⟨TB_at 803 (by decide +kernel) (by decide), ⟨TB_at 804 (by decide +kernel) (by decide), rfl⟩, lc_mX8_init, ⟨by decide +kernel, by decide +kernel, by decide +kernel⟩⟩
set_option maxRecDepth 20000 in
theorem lmX8_63 : q_V RX8 63 mX8_begin 0 := ⟨TB_at 807 (by decide +kernel) (by decide), ⟨TB_at 809 (by decide +kernel) (by decide), TB_at 17 (by decide +kernel) (by decide)⟩, lc_mX8_begin, ⟨by decide +kernel, by decide +kernel, by decide +kernel⟩⟩
theorem lkX8_66 : Cond.constantLong RX8 66 (9 : Int64) ∈ TB := TB_at 811 (by decide +kernel) (by decide)
theorem lkX8_68 : Cond.constantLong RX8 68 (20 : Int64) ∈ TB := TB_at 812 (by decide +kernel) (by decide)
set_option maxRecDepth 20000 in
theorem lmX8_70 : q_S RX8 70 mX8_in 3 := ⟨TB_at 813 (by decide +kernel) (by decide), TB_at 814 (by decide +kernel) (by decide), lc_mX8_in, ⟨by decide +kernel, by decide +kernel, by decide +kernel⟩⟩
theorem lfX8_7 : q_F RX8 7 8 0 := ⟨RX8, TX8, 31, rfl, by decide, TB_at 816 (by decide +kernel) (by decide)⟩
theorem lfX8_13 : q_F RX8 13 8 1 := ⟨RX8, TX8, 31, rfl, by decide, TB_at 817 (by decide +kernel) (by decide)⟩
theorem lfX8_17 : q_F RX8 17 8 2 := ⟨RX8, TX8, 31, rfl, by decide, TB_at 818 (by decide +kernel) (by decide)⟩
theorem lfX8_79 : q_F RX8 79 8 3 := ⟨RX8, TX8, 31, rfl, by decide, TB_at 819 (by decide +kernel) (by decide)⟩
theorem lfX8_20 : q_F RX8 20 8 4 := ⟨RX8, TX8, 31, rfl, by decide, TB_at 820 (by decide +kernel) (by decide)⟩
theorem lfX8_114 : q_F RX8 114 8 5 := ⟨RX8, TX8, 31, rfl, by decide, TB_at 821 (by decide +kernel) (by decide)⟩
theorem lfX8_23 : q_F RX8 23 8 6 := ⟨RX8, TX8, 31, rfl, by decide, TB_at 822 (by decide +kernel) (by decide)⟩
theorem lfX8_154 : q_F RX8 154 8 7 := ⟨RX8, TX8, 31, rfl, by decide, TB_at 823 (by decide +kernel) (by decide)⟩
theorem lfX8_27 : q_F RX8 27 8 8 := ⟨RX8, TX8, 31, rfl, by decide, TB_at 824 (by decide +kernel) (by decide)⟩
theorem lfX8_30 : q_F RX8 30 8 9 := ⟨RX8, TX8, 31, rfl, by decide, TB_at 825 (by decide +kernel) (by decide)⟩
theorem lfX8_33 : q_F RX8 33 8 10 := ⟨RX8, TX8, 31, rfl, by decide, TB_at 826 (by decide +kernel) (by decide)⟩
theorem lfX8_36 : q_F RX8 36 8 11 := ⟨RX8, TX8, 31, rfl, by decide, TB_at 827 (by decide +kernel) (by decide)⟩
theorem lfX8_39 : q_F RX8 39 8 12 := ⟨RX8, TX8, 31, rfl, by decide, TB_at 828 (by decide +kernel) (by decide)⟩
theorem lfX8_74 : q_F RX8 74 8 13 := ⟨RX8, TX8, 31, rfl, by decide, TB_at 829 (by decide +kernel) (by decide)⟩
theorem lfX8_84 : q_F RX8 84 8 14 := ⟨RX8, TX8, 31, rfl, by decide, TB_at 830 (by decide +kernel) (by decide)⟩
theorem lfX8_87 : q_F RX8 87 8 15 := ⟨RX8, TX8, 31, rfl, by decide, TB_at 831 (by decide +kernel) (by decide)⟩
theorem lfX8_94 : q_F RX8 94 8 16 := ⟨RX8, TX8, 31, rfl, by decide, TB_at 832 (by decide +kernel) (by decide)⟩
theorem lfX8_120 : q_F RX8 120 8 17 := ⟨RX8, TX8, 31, rfl, by decide, TB_at 833 (by decide +kernel) (by decide)⟩
theorem lfX8_127 : q_F RX8 127 8 18 := ⟨RX8, TX8, 31, rfl, by decide, TB_at 834 (by decide +kernel) (by decide)⟩
theorem lfX8_148 : q_F RX8 148 8 19 := ⟨RX8, TX8, 31, rfl, by decide, TB_at 835 (by decide +kernel) (by decide)⟩
theorem lfX8_42 : q_F RX8 42 8 20 := ⟨RX8, TX8, 31, rfl, by decide, TB_at 836 (by decide +kernel) (by decide)⟩
theorem lfX8_45 : q_F RX8 45 8 21 := ⟨RX8, TX8, 31, rfl, by decide, TB_at 837 (by decide +kernel) (by decide)⟩
theorem lfX8_48 : q_F RX8 48 8 22 := ⟨RX8, TX8, 31, rfl, by decide, TB_at 838 (by decide +kernel) (by decide)⟩
theorem lfX8_186 : q_F RX8 186 8 23 := ⟨RX8, TX8, 31, rfl, by decide, TB_at 839 (by decide +kernel) (by decide)⟩
theorem lfX8_189 : q_F RX8 189 8 24 := ⟨RX8, TX8, 31, rfl, by decide, TB_at 840 (by decide +kernel) (by decide)⟩
theorem lfX8_192 : q_F RX8 192 8 25 := ⟨RX8, TX8, 31, rfl, by decide, TB_at 841 (by decide +kernel) (by decide)⟩
theorem lfX8_51 : q_F RX8 51 8 26 := ⟨RX8, TX8, 31, rfl, by decide, TB_at 842 (by decide +kernel) (by decide)⟩
theorem lfX8_54 : q_F RX8 54 8 27 := ⟨RX8, TX8, 31, rfl, by decide, TB_at 843 (by decide +kernel) (by decide)⟩
theorem lfX8_57 : q_F RX8 57 8 28 := ⟨RX8, TX8, 31, rfl, by decide, TB_at 844 (by decide +kernel) (by decide)⟩
theorem lfX8_60 : q_F RX8 60 8 29 := ⟨RX8, TX8, 31, rfl, by decide, TB_at 845 (by decide +kernel) (by decide)⟩
theorem lfX8_167 : q_F RX8 167 8 30 := ⟨RX8, TX8, 31, rfl, by decide, TB_at 846 (by decide +kernel) (by decide)⟩
set_option maxRecDepth 20000 in
theorem lmL_19 : q_V RL 19 mX8_write 2 := ⟨TB_at 911 (by decide +kernel) (by decide), ⟨TB_at 912 (by decide +kernel) (by decide), TB_at 913 (by decide +kernel) (by decide)⟩, lc_mX8_write, ⟨by decide +kernel, by decide +kernel, by decide +kernel⟩⟩
theorem lkX8_77 : Cond.constantLong RX8 77 (8 : Int64) ∈ TB := TB_at 915 (by decide +kernel) (by decide)
theorem lkX8_82 : Cond.constantLong RX8 82 (255 : Int64) ∈ TB := TB_at 916 (by decide +kernel) (by decide)
set_option maxRecDepth 20000 in
theorem lmL_24 : q_V RL 24 mX8_erase 0 := ⟨TB_at 917 (by decide +kernel) (by decide), ⟨TB_at 918 (by decide +kernel) (by decide), TB_at 919 (by decide +kernel) (by decide)⟩, lc_mX8_erase, ⟨by decide +kernel, by decide +kernel, by decide +kernel⟩⟩
set_option maxRecDepth 20000 in
theorem lmL_28 : q_V RL 28 mX8_fault 0 := ⟨TB_at 921 (by decide +kernel) (by decide), ⟨TB_at 922 (by decide +kernel) (by decide), TB_at 923 (by decide +kernel) (by decide)⟩, lc_mX8_fault, ⟨by decide +kernel, by decide +kernel, by decide +kernel⟩⟩
set_option maxRecDepth 20000 in
theorem lmX8_117 : q_V RX8 117 mX8_token 0 := ⟨TB_at 925 (by decide +kernel) (by decide), ⟨TB_at 927 (by decide +kernel) (by decide), TB_at 18 (by decide +kernel) (by decide)⟩, lc_mX8_token, ⟨by decide +kernel, by decide +kernel, by decide +kernel⟩⟩
set_option maxRecDepth 20000 in
theorem lmX8_90 : q_S RX8 90 mX8_sort 1 := ⟨TB_at 929 (by decide +kernel) (by decide), TB_at 930 (by decide +kernel) (by decide), lc_mX8_sort, ⟨by decide +kernel, by decide +kernel, by decide +kernel⟩⟩
set_option maxRecDepth 20000 in
theorem lmX8_157 : q_V RX8 157 mX8_readsLine 0 := ⟨TB_at 932 (by decide +kernel) (by decide), ⟨TB_at 934 (by decide +kernel) (by decide), TB_at 19 (by decide +kernel) (by decide)⟩, lc_mX8_readsLine, ⟨by decide +kernel, by decide +kernel, by decide +kernel⟩⟩
set_option maxRecDepth 20000 in
theorem lmX8_141 : q_V RX8 141 mX8_wordOf 0 := ⟨TB_at 936 (by decide +kernel) (by decide), ⟨TB_at 938 (by decide +kernel) (by decide), TB_at 20 (by decide +kernel) (by decide)⟩, lc_mX8_wordOf, ⟨by decide +kernel, by decide +kernel, by decide +kernel⟩⟩
set_option maxRecDepth 20000 in
theorem lmX8_104 : q_V RX8 104 mX8_guestWord 0 := ⟨TB_at 940 (by decide +kernel) (by decide), ⟨TB_at 942 (by decide +kernel) (by decide), TB_at 21 (by decide +kernel) (by decide)⟩, lc_mX8_guestWord, ⟨by decide +kernel, by decide +kernel, by decide +kernel⟩⟩
theorem lkX8_97 : Cond.constant RX8 97 (14976400 : Int32) ∈ TB := TB_at 944 (by decide +kernel) (by decide)
set_option maxRecDepth 20000 in
theorem lmX8_98 : q_V RX8 98 mX8_isWord 2 := ⟨TB_at 945 (by decide +kernel) (by decide), ⟨TB_at 947 (by decide +kernel) (by decide), TB_at 22 (by decide +kernel) (by decide)⟩, lc_mX8_isWord, ⟨by decide +kernel, by decide +kernel, by decide +kernel⟩⟩
theorem lkX8_102 : Cond.constant RX8 102 (21439526 : Int32) ∈ TB := TB_at 949 (by decide +kernel) (by decide)
theorem lkX8_103 : Cond.constant RX8 103 (21675667 : Int32) ∈ TB := TB_at 950 (by decide +kernel) (by decide)
theorem lkX8_108 : Cond.constant RX8 108 (19170563 : Int32) ∈ TB := TB_at 951 (by decide +kernel) (by decide)
theorem lkX8_109 : Cond.constant RX8 109 (175156 : Int32) ∈ TB := TB_at 952 (by decide +kernel) (by decide)
theorem lkX8_110 : Cond.constant RX8 110 (843549166 : Int32) ∈ TB := TB_at 953 (by decide +kernel) (by decide)
set_option maxRecDepth 20000 in
theorem lmX8_144 : q_S RX8 144 mX8_isGuestWord 1 := ⟨TB_at 954 (by decide +kernel) (by decide), TB_at 955 (by decide +kernel) (by decide), lc_mX8_isGuestWord, ⟨by decide +kernel, by decide +kernel, by decide +kernel⟩⟩
theorem lkX8_137 : Cond.constantLong RX8 137 (3 : Int64) ∈ TB := TB_at 957 (by decide +kernel) (by decide)
theorem lkX8_139 : Cond.constantLong RX8 139 (6 : Int64) ∈ TB := TB_at 958 (by decide +kernel) (by decide)
set_option maxRecDepth 20000 in
theorem lmX8_151 : q_V RX8 151 mX8_readsRest 1 := ⟨TB_at 959 (by decide +kernel) (by decide), ⟨TB_at 961 (by decide +kernel) (by decide), TB_at 23 (by decide +kernel) (by decide)⟩, lc_mX8_readsRest, ⟨by decide +kernel, by decide +kernel, by decide +kernel⟩⟩
set_option maxRecDepth 20000 in
theorem lmX8_111 : q_V RX8 111 mX8_numberHere 0 := ⟨TB_at 963 (by decide +kernel) (by decide), ⟨TB_at 965 (by decide +kernel) (by decide), TB_at 24 (by decide +kernel) (by decide)⟩, lc_mX8_numberHere, ⟨by decide +kernel, by decide +kernel, by decide +kernel⟩⟩
set_option maxRecDepth 20000 in
theorem lmX8_123 : q_V RX8 123 mX8_reads 3 := ⟨TB_at 967 (by decide +kernel) (by decide), ⟨TB_at 969 (by decide +kernel) (by decide), TB_at 25 (by decide +kernel) (by decide)⟩, lc_mX8_reads, ⟨by decide +kernel, by decide +kernel, by decide +kernel⟩⟩
set_option maxRecDepth 20000 in
theorem lmX8_130 : q_S RX8 130 mX8_has 2 := ⟨TB_at 971 (by decide +kernel) (by decide), TB_at 972 (by decide +kernel) (by decide), lc_mX8_has, ⟨by decide +kernel, by decide +kernel, by decide +kernel⟩⟩
set_option maxRecDepth 20000 in
theorem lmX8_133 : q_V RX8 133 mX8_readsGuest 0 := ⟨TB_at 974 (by decide +kernel) (by decide), ⟨TB_at 976 (by decide +kernel) (by decide), TB_at 26 (by decide +kernel) (by decide)⟩, lc_mX8_readsGuest, ⟨by decide +kernel, by decide +kernel, by decide +kernel⟩⟩
set_option maxRecDepth 20000 in
theorem lmL_32 : q_V RL 32 mX8_inn 0 := ⟨TB_at 978 (by decide +kernel) (by decide), ⟨TB_at 979 (by decide +kernel) (by decide), TB_at 980 (by decide +kernel) (by decide)⟩, lc_mX8_inn, ⟨by decide +kernel, by decide +kernel, by decide +kernel⟩⟩
set_option maxRecDepth 20000 in
theorem lmX8_160 : q_V RX8 160 mX8_fault 0 := ⟨TB_at 982 (by decide +kernel) (by decide), ⟨TB_at 922 (by decide +kernel) (by decide), TB_at 923 (by decide +kernel) (by decide)⟩, lc_mX8_fault, ⟨by decide +kernel, by decide +kernel, by decide +kernel⟩⟩
set_option maxRecDepth 20000 in
theorem lmX8_163 : q_V RX8 163 mX8_tell 1 := ⟨TB_at 983 (by decide +kernel) (by decide), ⟨TB_at 985 (by decide +kernel) (by decide), TB_at 27 (by decide +kernel) (by decide)⟩, lc_mX8_tell, ⟨by decide +kernel, by decide +kernel, by decide +kernel⟩⟩
set_option maxRecDepth 20000 in
theorem lmL_37 : q_V RL 37 mX8_place 2 := ⟨TB_at 987 (by decide +kernel) (by decide), ⟨TB_at 988 (by decide +kernel) (by decide), TB_at 989 (by decide +kernel) (by decide)⟩, lc_mX8_place, ⟨by decide +kernel, by decide +kernel, by decide +kernel⟩⟩
set_option maxRecDepth 20000 in
theorem lmX8_170 : q_V RX8 170 mX8_isPlace 1 := ⟨TB_at 991 (by decide +kernel) (by decide), ⟨TB_at 993 (by decide +kernel) (by decide), TB_at 28 (by decide +kernel) (by decide)⟩, lc_mX8_isPlace, ⟨by decide +kernel, by decide +kernel, by decide +kernel⟩⟩
set_option maxRecDepth 20000 in
theorem lmL_41 : q_V RL 41 mX8_guest 2 := ⟨TB_at 995 (by decide +kernel) (by decide), ⟨TB_at 996 (by decide +kernel) (by decide), TB_at 997 (by decide +kernel) (by decide)⟩, lc_mX8_guest, ⟨by decide +kernel, by decide +kernel, by decide +kernel⟩⟩
set_option maxRecDepth 20000 in
theorem lmX8_173 : q_V RX8 173 mX8_isGuest 1 := ⟨TB_at 999 (by decide +kernel) (by decide), ⟨TB_at 1001 (by decide +kernel) (by decide), TB_at 29 (by decide +kernel) (by decide)⟩, lc_mX8_isGuest, ⟨by decide +kernel, by decide +kernel, by decide +kernel⟩⟩
set_option maxRecDepth 20000 in
theorem lmL_45 : q_V RL 45 mX8_as 2 := ⟨TB_at 1003 (by decide +kernel) (by decide), ⟨TB_at 1004 (by decide +kernel) (by decide), TB_at 1005 (by decide +kernel) (by decide)⟩, lc_mX8_as, ⟨by decide +kernel, by decide +kernel, by decide +kernel⟩⟩
theorem lkX8_180 : Cond.constantLong RX8 180 (4 : Int64) ∈ TB := TB_at 1007 (by decide +kernel) (by decide)
set_option maxRecDepth 20000 in
theorem lmX8_182 : q_V RX8 182 mX8_effort 3 := ⟨TB_at 1008 (by decide +kernel) (by decide), ⟨TB_at 1010 (by decide +kernel) (by decide), TB_at 30 (by decide +kernel) (by decide)⟩, lc_mX8_effort, ⟨by decide +kernel, by decide +kernel, by decide +kernel⟩⟩
set_option maxRecDepth 20000 in
theorem lmX8_176 : q_V RX8 176 mX8_far 2 := ⟨TB_at 1012 (by decide +kernel) (by decide), ⟨TB_at 1014 (by decide +kernel) (by decide), TB_at 31 (by decide +kernel) (by decide)⟩, lc_mX8_far, ⟨by decide +kernel, by decide +kernel, by decide +kernel⟩⟩
set_option maxRecDepth 20000 in
theorem lmL_50 : q_V RL 50 mX8_walk 1 := ⟨TB_at 1016 (by decide +kernel) (by decide), ⟨TB_at 1017 (by decide +kernel) (by decide), TB_at 1018 (by decide +kernel) (by decide)⟩, lc_mX8_walk, ⟨by decide +kernel, by decide +kernel, by decide +kernel⟩⟩
theorem lkX8_207 : Cond.constantLong RX8 207 (99 : Int64) ∈ TB := TB_at 1020 (by decide +kernel) (by decide)
set_option maxRecDepth 20000 in
theorem lmX8_209 : q_V RX8 209 mX8_walked 4 := ⟨TB_at 1021 (by decide +kernel) (by decide), ⟨TB_at 1023 (by decide +kernel) (by decide), TB_at 32 (by decide +kernel) (by decide)⟩, lc_mX8_walked, ⟨by decide +kernel, by decide +kernel, by decide +kernel⟩⟩
set_option maxRecDepth 20000 in
theorem lmL_54 : q_V RL 54 mX8_stop 0 := ⟨TB_at 1025 (by decide +kernel) (by decide), ⟨TB_at 1026 (by decide +kernel) (by decide), TB_at 1027 (by decide +kernel) (by decide)⟩, lc_mX8_stop, ⟨by decide +kernel, by decide +kernel, by decide +kernel⟩⟩
set_option maxRecDepth 20000 in
theorem lmX8_213 : q_V RX8 213 mX8_everybody 0 := ⟨TB_at 1029 (by decide +kernel) (by decide), ⟨TB_at 1031 (by decide +kernel) (by decide), TB_at 33 (by decide +kernel) (by decide)⟩, lc_mX8_everybody, ⟨by decide +kernel, by decide +kernel, by decide +kernel⟩⟩
set_option maxRecDepth 20000 in
theorem lmX8_216 : q_V RX8 216 mX8_stops 2 := ⟨TB_at 1033 (by decide +kernel) (by decide), ⟨TB_at 1035 (by decide +kernel) (by decide), TB_at 34 (by decide +kernel) (by decide)⟩, lc_mX8_stops, ⟨by decide +kernel, by decide +kernel, by decide +kernel⟩⟩
set_option maxRecDepth 20000 in
theorem lmX8_201 : q_V RX8 201 mX8_faint 0 := ⟨TB_at 1037 (by decide +kernel) (by decide), ⟨TB_at 1039 (by decide +kernel) (by decide), TB_at 35 (by decide +kernel) (by decide)⟩, lc_mX8_faint, ⟨by decide +kernel, by decide +kernel, by decide +kernel⟩⟩
set_option maxRecDepth 20000 in
theorem lmX8_204 : q_V RX8 204 mX8_seat 1 := ⟨TB_at 1041 (by decide +kernel) (by decide), ⟨TB_at 1043 (by decide +kernel) (by decide), TB_at 36 (by decide +kernel) (by decide)⟩, lc_mX8_seat, ⟨by decide +kernel, by decide +kernel, by decide +kernel⟩⟩
set_option maxRecDepth 20000 in
theorem lmX8_195 : q_V RX8 195 mX8_findsTwo 1 := ⟨TB_at 1045 (by decide +kernel) (by decide), ⟨TB_at 1047 (by decide +kernel) (by decide), TB_at 37 (by decide +kernel) (by decide)⟩, lc_mX8_findsTwo, ⟨by decide +kernel, by decide +kernel, by decide +kernel⟩⟩
set_option maxRecDepth 20000 in
theorem lmX8_198 : q_V RX8 198 mX8_takeSecond 1 := ⟨TB_at 1049 (by decide +kernel) (by decide), ⟨TB_at 1051 (by decide +kernel) (by decide), TB_at 38 (by decide +kernel) (by decide)⟩, lc_mX8_takeSecond, ⟨by decide +kernel, by decide +kernel, by decide +kernel⟩⟩
set_option maxRecDepth 20000 in
theorem lmX8_219 : q_S RX8 219 mX8_bits 1 := ⟨TB_at 1053 (by decide +kernel) (by decide), TB_at 1054 (by decide +kernel) (by decide), lc_mX8_bits, ⟨by decide +kernel, by decide +kernel, by decide +kernel⟩⟩
set_option maxRecDepth 20000 in
theorem lmL_58 : q_V RL 58 mX8_play 0 := ⟨TB_at 1056 (by decide +kernel) (by decide), ⟨TB_at 1057 (by decide +kernel) (by decide), TB_at 1058 (by decide +kernel) (by decide)⟩, lc_mX8_play, ⟨by decide +kernel, by decide +kernel, by decide +kernel⟩⟩
set_option maxRecDepth 20000 in
theorem lmL_62 : q_V RL 62 mX8_keep 1 := ⟨TB_at 1060 (by decide +kernel) (by decide), ⟨TB_at 1061 (by decide +kernel) (by decide), TB_at 1062 (by decide +kernel) (by decide)⟩, lc_mX8_keep, ⟨by decide +kernel, by decide +kernel, by decide +kernel⟩⟩
set_option maxRecDepth 20000 in
theorem lmX8_222 : q_V RX8 222 mX8_copy 2 := ⟨TB_at 1064 (by decide +kernel) (by decide), ⟨TB_at 1066 (by decide +kernel) (by decide), TB_at 39 (by decide +kernel) (by decide)⟩, lc_mX8_copy, ⟨by decide +kernel, by decide +kernel, by decide +kernel⟩⟩
set_option maxRecDepth 20000 in
theorem lmL_66 : q_V RL 66 mX8_back 1 := ⟨TB_at 1068 (by decide +kernel) (by decide), ⟨TB_at 1069 (by decide +kernel) (by decide), TB_at 1070 (by decide +kernel) (by decide)⟩, lc_mX8_back, ⟨by decide +kernel, by decide +kernel, by decide +kernel⟩⟩
set_option maxRecDepth 20000 in
theorem lmL_70 : q_V RL 70 mX8_standing 1 := ⟨TB_at 1072 (by decide +kernel) (by decide), ⟨TB_at 1073 (by decide +kernel) (by decide), TB_at 1074 (by decide +kernel) (by decide)⟩, lc_mX8_standing, ⟨by decide +kernel, by decide +kernel, by decide +kernel⟩⟩
set_option maxRecDepth 20000 in
theorem lmX8_229 : q_S RX8 229 mX8_isTime 1 := ⟨TB_at 1076 (by decide +kernel) (by decide), TB_at 1077 (by decide +kernel) (by decide), lc_mX8_isTime, ⟨by decide +kernel, by decide +kernel, by decide +kernel⟩⟩
set_option maxRecDepth 20000 in
theorem lmX8_232 : q_V RX8 232 mX8_standingAt 1 := ⟨TB_at 1079 (by decide +kernel) (by decide), ⟨TB_at 1081 (by decide +kernel) (by decide), TB_at 40 (by decide +kernel) (by decide)⟩, lc_mX8_standingAt, ⟨by decide +kernel, by decide +kernel, by decide +kernel⟩⟩
set_option maxRecDepth 20000 in
theorem lmX8_226 : q_V RX8 226 mX8_layAts 1 := ⟨TB_at 1083 (by decide +kernel) (by decide), ⟨TB_at 1085 (by decide +kernel) (by decide), TB_at 41 (by decide +kernel) (by decide)⟩, lc_mX8_layAts, ⟨by decide +kernel, by decide +kernel, by decide +kernel⟩⟩
set_option maxRecDepth 20000 in
theorem lmL_75 : q_V RL 75 mX8_odds 4 := ⟨TB_at 1087 (by decide +kernel) (by decide), ⟨TB_at 1088 (by decide +kernel) (by decide), TB_at 1089 (by decide +kernel) (by decide)⟩, lc_mX8_odds, ⟨by decide +kernel, by decide +kernel, by decide +kernel⟩⟩
set_option maxRecDepth 20000 in
theorem lmX8_235 : q_S RX8 235 mX8_isSpan 2 := ⟨TB_at 1091 (by decide +kernel) (by decide), TB_at 1092 (by decide +kernel) (by decide), lc_mX8_isSpan, ⟨by decide +kernel, by decide +kernel, by decide +kernel⟩⟩
set_option maxRecDepth 20000 in
theorem lmX8_238 : q_V RX8 238 mX8_minutesOf 3 := ⟨TB_at 1094 (by decide +kernel) (by decide), ⟨TB_at 1096 (by decide +kernel) (by decide), TB_at 42 (by decide +kernel) (by decide)⟩, lc_mX8_minutesOf, ⟨by decide +kernel, by decide +kernel, by decide +kernel⟩⟩
set_option maxRecDepth 20000 in
theorem lmL_79 : q_V RL 79 mX8_surest 4 := ⟨TB_at 1098 (by decide +kernel) (by decide), ⟨TB_at 1099 (by decide +kernel) (by decide), TB_at 1100 (by decide +kernel) (by decide)⟩, lc_mX8_surest, ⟨by decide +kernel, by decide +kernel, by decide +kernel⟩⟩
theorem lkX8_241 : Cond.constantLong RX8 241 (2 : Int64) ∈ TB := TB_at 1102 (by decide +kernel) (by decide)
set_option maxRecDepth 20000 in
theorem lmL_84 : q_V RL 84 mX8_still 3 := ⟨TB_at 1103 (by decide +kernel) (by decide), ⟨TB_at 1104 (by decide +kernel) (by decide), TB_at 1105 (by decide +kernel) (by decide)⟩, lc_mX8_still, ⟨by decide +kernel, by decide +kernel, by decide +kernel⟩⟩
set_option maxRecDepth 20000 in
theorem lmX8_243 : q_V RX8 243 mX8_savePaces 0 := ⟨TB_at 1107 (by decide +kernel) (by decide), ⟨TB_at 1109 (by decide +kernel) (by decide), TB_at 43 (by decide +kernel) (by decide)⟩, lc_mX8_savePaces, ⟨by decide +kernel, by decide +kernel, by decide +kernel⟩⟩
set_option maxRecDepth 20000 in
theorem lmX8_246 : q_V RX8 246 mX8_layStands 3 := ⟨TB_at 1111 (by decide +kernel) (by decide), ⟨TB_at 1113 (by decide +kernel) (by decide), TB_at 44 (by decide +kernel) (by decide)⟩, lc_mX8_layStands, ⟨by decide +kernel, by decide +kernel, by decide +kernel⟩⟩
set_option maxRecDepth 20000 in
theorem lmX8_250 : q_V RX8 250 mX8_restorePaces 0 := ⟨TB_at 1115 (by decide +kernel) (by decide), ⟨TB_at 1117 (by decide +kernel) (by decide), TB_at 45 (by decide +kernel) (by decide)⟩, lc_mX8_restorePaces, ⟨by decide +kernel, by decide +kernel, by decide +kernel⟩⟩
set_option maxRecDepth 20000 in
theorem lmX8_253 : q_V RX8 253 mX8_isStill 1 := ⟨TB_at 1119 (by decide +kernel) (by decide), ⟨TB_at 1121 (by decide +kernel) (by decide), TB_at 46 (by decide +kernel) (by decide)⟩, lc_mX8_isStill, ⟨by decide +kernel, by decide +kernel, by decide +kernel⟩⟩
set_option maxRecDepth 20000 in
theorem lmL_88 : q_V RL 88 mX8_plot 4 := ⟨TB_at 1123 (by decide +kernel) (by decide), ⟨TB_at 1124 (by decide +kernel) (by decide), TB_at 1125 (by decide +kernel) (by decide)⟩, lc_mX8_plot, ⟨by decide +kernel, by decide +kernel, by decide +kernel⟩⟩
set_option maxRecDepth 20000 in
theorem lmL_92 : q_V RL 92 mX8_price 1 := ⟨TB_at 1127 (by decide +kernel) (by decide), ⟨TB_at 1128 (by decide +kernel) (by decide), TB_at 1129 (by decide +kernel) (by decide)⟩, lc_mX8_price, ⟨by decide +kernel, by decide +kernel, by decide +kernel⟩⟩
set_option maxRecDepth 20000 in
theorem lmL_96 : q_V RL 96 mX8_laid 4 := ⟨TB_at 1131 (by decide +kernel) (by decide), ⟨TB_at 1132 (by decide +kernel) (by decide), TB_at 1133 (by decide +kernel) (by decide)⟩, lc_mX8_laid, ⟨by decide +kernel, by decide +kernel, by decide +kernel⟩⟩
set_option maxRecDepth 20000 in
theorem lmX8_256 : q_V RX8 256 mX8_apart 3 := ⟨TB_at 1135 (by decide +kernel) (by decide), ⟨TB_at 1137 (by decide +kernel) (by decide), TB_at 47 (by decide +kernel) (by decide)⟩, lc_mX8_apart, ⟨by decide +kernel, by decide +kernel, by decide +kernel⟩⟩
set_option maxRecDepth 20000 in
theorem lmL_100 : q_V RL 100 mX8_left 2 := ⟨TB_at 1139 (by decide +kernel) (by decide), ⟨TB_at 1140 (by decide +kernel) (by decide), TB_at 1141 (by decide +kernel) (by decide)⟩, lc_mX8_left, ⟨by decide +kernel, by decide +kernel, by decide +kernel⟩⟩
set_option maxRecDepth 20000 in
theorem lmX8_259 : q_S RX8 259 mX8_leastOf 1 := ⟨TB_at 1143 (by decide +kernel) (by decide), TB_at 1144 (by decide +kernel) (by decide), lc_mX8_leastOf, ⟨by decide +kernel, by decide +kernel, by decide +kernel⟩⟩
set_option maxRecDepth 20000 in
theorem lmL_104 : q_V RL 104 mX8_seen 2 := ⟨TB_at 1146 (by decide +kernel) (by decide), ⟨TB_at 1147 (by decide +kernel) (by decide), TB_at 1148 (by decide +kernel) (by decide)⟩, lc_mX8_seen, ⟨by decide +kernel, by decide +kernel, by decide +kernel⟩⟩
set_option maxRecDepth 20000 in
theorem lmL_108 : q_V RL 108 mX8_forget 0 := ⟨TB_at 1150 (by decide +kernel) (by decide), ⟨TB_at 1151 (by decide +kernel) (by decide), TB_at 1152 (by decide +kernel) (by decide)⟩, lc_mX8_forget, ⟨by decide +kernel, by decide +kernel, by decide +kernel⟩⟩
set_option maxRecDepth 20000 in
theorem lmL_112 : q_V RL 112 mX8_fits 1 := ⟨TB_at 1154 (by decide +kernel) (by decide), ⟨TB_at 1155 (by decide +kernel) (by decide), TB_at 1156 (by decide +kernel) (by decide)⟩, lc_mX8_fits, ⟨by decide +kernel, by decide +kernel, by decide +kernel⟩⟩
set_option maxRecDepth 20000 in
theorem lmL_116 : q_V RL 116 mX8_count 1 := ⟨TB_at 1158 (by decide +kernel) (by decide), ⟨TB_at 1159 (by decide +kernel) (by decide), TB_at 1160 (by decide +kernel) (by decide)⟩, lc_mX8_count, ⟨by decide +kernel, by decide +kernel, by decide +kernel⟩⟩
theorem lkL_13 : Cond.constantLong RL 13 (4294967295 : Int64) ∈ TB := TB_at 1162 (by decide +kernel) (by decide)
theorem ib0 : Cond.instantiable RX0 8 ∈ TB := TB_at 263 (by decide +kernel) (by decide)
theorem ii0 : Cond.initialized RX0 ∈ TB := TB_at 55 (by decide +kernel) (by decide)
theorem iw0 : ∀ w ∈ u_ws RX0 TX0 8, w ∈ TB := by
  have h : ∀ w ∈ u_ws RX0 TX0 8, w ∈ lw_tbl ∧ goodWord w = true := by decide +kernel
  exact fun w hw => List.mem_filter.mpr ⟨(h w hw).1, (h w hw).2⟩
theorem ib1 : Cond.instantiable RX1 7 ∈ TB := TB_at 231 (by decide +kernel) (by decide)
theorem ii1 : Cond.initialized RX1 ∈ TB := TB_at 54 (by decide +kernel) (by decide)
theorem iw1 : ∀ w ∈ u_ws RX1 TX1 7, w ∈ TB := by
  have h : ∀ w ∈ u_ws RX1 TX1 7, w ∈ lw_tbl ∧ goodWord w = true := by decide +kernel
  exact fun w hw => List.mem_filter.mpr ⟨(h w hw).1, (h w hw).2⟩
theorem ib2 : Cond.instantiable RX2 7 ∈ TB := TB_at 197 (by decide +kernel) (by decide)
theorem ii2 : Cond.initialized RX2 ∈ TB := TB_at 53 (by decide +kernel) (by decide)
theorem iw2 : ∀ w ∈ u_ws RX2 TX2 7, w ∈ TB := by
  have h : ∀ w ∈ u_ws RX2 TX2 7, w ∈ lw_tbl ∧ goodWord w = true := by decide +kernel
  exact fun w hw => List.mem_filter.mpr ⟨(h w hw).1, (h w hw).2⟩
theorem ib3 : Cond.instantiable RX3 6 ∈ TB := TB_at 167 (by decide +kernel) (by decide)
theorem ii3 : Cond.initialized RX3 ∈ TB := TB_at 52 (by decide +kernel) (by decide)
theorem iw3 : ∀ w ∈ u_ws RX3 TX3 6, w ∈ TB := by
  have h : ∀ w ∈ u_ws RX3 TX3 6, w ∈ lw_tbl ∧ goodWord w = true := by decide +kernel
  exact fun w hw => List.mem_filter.mpr ⟨(h w hw).1, (h w hw).2⟩
theorem ib4 : Cond.instantiable RX4 3 ∈ TB := TB_at 304 (by decide +kernel) (by decide)
theorem ii4 : Cond.initialized RX4 ∈ TB := TB_at 57 (by decide +kernel) (by decide)
theorem iw4 : ∀ w ∈ u_ws RX4 TX4 3, w ∈ TB := by
  have h : ∀ w ∈ u_ws RX4 TX4 3, w ∈ lw_tbl ∧ goodWord w = true := by decide +kernel
  exact fun w hw => List.mem_filter.mpr ⟨(h w hw).1, (h w hw).2⟩
theorem ib5 : Cond.instantiable RX5 8 ∈ TB := TB_at 131 (by decide +kernel) (by decide)
theorem ii5 : Cond.initialized RX5 ∈ TB := TB_at 51 (by decide +kernel) (by decide)
theorem iw5 : ∀ w ∈ u_ws RX5 TX5 8, w ∈ TB := by
  have h : ∀ w ∈ u_ws RX5 TX5 8, w ∈ lw_tbl ∧ goodWord w = true := by decide +kernel
  exact fun w hw => List.mem_filter.mpr ⟨(h w hw).1, (h w hw).2⟩
theorem ib6 : Cond.instantiable RX6 8 ∈ TB := TB_at 75 (by decide +kernel) (by decide)
theorem ii6 : Cond.initialized RX6 ∈ TB := TB_at 50 (by decide +kernel) (by decide)
theorem iw6 : ∀ w ∈ u_ws RX6 TX6 8, w ∈ TB := by
  have h : ∀ w ∈ u_ws RX6 TX6 8, w ∈ lw_tbl ∧ goodWord w = true := by decide +kernel
  exact fun w hw => List.mem_filter.mpr ⟨(h w hw).1, (h w hw).2⟩
theorem ib7 : Cond.instantiable RX7 9 ∈ TB := TB_at 67 (by decide +kernel) (by decide)
theorem ii7 : Cond.initialized RX7 ∈ TB := TB_at 49 (by decide +kernel) (by decide)
theorem iw7 : ∀ w ∈ u_ws RX7 TX7 9, w ∈ TB := by
  have h : ∀ w ∈ u_ws RX7 TX7 9, w ∈ lw_tbl ∧ goodWord w = true := by decide +kernel
  exact fun w hw => List.mem_filter.mpr ⟨(h w hw).1, (h w hw).2⟩
theorem ib8 : Cond.instantiable RX8 31 ∈ TB := TB_at 802 (by decide +kernel) (by decide)
theorem ii8 : Cond.initialized RX8 ∈ TB := TB_at 58 (by decide +kernel) (by decide)
theorem iw8 : ∀ w ∈ u_ws RX8 TX8 31, w ∈ TB := by
  have h : ∀ w ∈ u_ws RX8 TX8 31, w ∈ lw_tbl ∧ goodWord w = true := by decide +kernel
  exact fun w hw => List.mem_filter.mpr ⟨(h w hw).1, (h w hw).2⟩
