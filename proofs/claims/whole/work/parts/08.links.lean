abbrev mX0_init : MD := (yX0_init, cX0_init, 1, none, 1, 20)
abbrev mX0_clear : MD := (yX0_clear, cX0_clear, 2, none, 0, 0)
abbrev mX0_has : MD := (yX0_has, cX0_has, 2, some .boolean, 0, 0)
abbrev mX0_add : MD := (yX0_add, cX0_add, 2, some .boolean, 0, 0)
abbrev mX0_addFeast : MD := (yX0_addFeast, cX0_addFeast, 3, some .boolean, 2, 42)
abbrev mX0_lengthOn : MD := (yX0_lengthOn, cX0_lengthOn, 5, some .int, 2, 42)
abbrev mX0_drawn : MD := (yX0_drawn, cX0_drawn, 5, some .int, 0, 0)
abbrev mX1_init : MD := (yX1_init, cX1_init, 1, none, 1, 20)
abbrev mX1_push : MD := (yX1_push, cX1_push, 4, none, 1, 21)
abbrev mX1_dropOldest : MD := (yX1_dropOldest, cX1_dropOldest, 2, none, 0, 0)
abbrev mX1_takeBack : MD := (yX1_takeBack, cX1_takeBack, 3, none, 2, 45)
abbrev mX2_init : MD := (yX2_init, cX2_init, 1, none, 2, 40)
abbrev mX2_clear : MD := (yX2_clear, cX2_clear, 1, none, 1, 21)
abbrev mX2_canOpen : MD := (yX2_canOpen, cX2_canOpen, 1, some .boolean, 0, 0)
abbrev mX2_tell : MD := (yX2_tell, cX2_tell, 6, some .boolean, 3, 64)
abbrev mX2_enact : MD := (yX2_enact, cX2_enact, 2, some .boolean, 1, 22)
abbrev mX2_addRival : MD := (yX2_addRival, cX2_addRival, 2, some .boolean, 0, 0)
abbrev mX2_namable : MD := (yX2_namable, cX2_namable, 2, some .int, 1, 21)
abbrev mX2_leastAtRival : MD := (yX2_leastAtRival, cX2_leastAtRival, 5, some .int, 2, 46)
abbrev mX3_init : MD := (yX3_init, cX3_init, 1, none, 1, 20)
abbrev mX3_pass : MD := (yX3_pass, cX3_pass, 5, none, 4, 103)
abbrev mX3_fillBeds : MD := (yX3_fillBeds, cX3_fillBeds, 8, none, 3, 76)
abbrev mX3_callFirst : MD := (yX3_callFirst, cX3_callFirst, 5, some .int, 1, 21)
abbrev mX3_bestOf : MD := (yX3_bestOf, cX3_bestOf, 11, some .int, 2, 46)
abbrev mX3_hasLain : MD := (yX3_hasLain, cX3_hasLain, 2, some .boolean, 1, 21)
abbrev mX3_total : MD := (yX3_total, cX3_total, 2, some .int, 1, 20)
abbrev mX3_unharmed : MD := (yX3_unharmed, cX3_unharmed, 4, some .int, 2, 42)
abbrev mX3_greatest : MD := (yX3_greatest, cX3_greatest, 4, some .int, 2, 42)
abbrev mX3_allLainBy : MD := (yX3_allLainBy, cX3_allLainBy, 4, some .boolean, 2, 42)
abbrev mX4_init : MD := (yX4_init, cX4_init, 1, none, 1, 20)
abbrev mX4_search : MD := (yX4_search, cX4_search, 7, none, 5, 127)
abbrev mX4_toNextRow : MD := (yX4_toNextRow, cX4_toNextRow, 4, some .boolean, 3, 67)
abbrev mX4_letFall : MD := (yX4_letFall, cX4_letFall, 4, none, 2, 44)
abbrev mX4_turnRound : MD := (yX4_turnRound, cX4_turnRound, 4, none, 2, 44)
abbrev mX4_swap : MD := (yX4_swap, cX4_swap, 4, none, 1, 21)
abbrev mX5_init : MD := (yX5_init, cX5_init, 1, none, 1, 20)
abbrev mX5_has : MD := (yX5_has, cX5_has, 2, some .boolean, 0, 0)
abbrev mX5_everyone : MD := (yX5_everyone, cX5_everyone, 1, some .int, 0, 0)
abbrev mX5_add : MD := (yX5_add, cX5_add, 4, some .boolean, 0, 0)
abbrev mX5_befriend : MD := (yX5_befriend, cX5_befriend, 3, some .boolean, 1, 21)
abbrev mX5_hereBy : MD := (yX5_hereBy, cX5_hereBy, 4, some .int, 0, 0)
abbrev mX5_harmAt : MD := (yX5_harmAt, cX5_harmAt, 5, some .int, 1, 22)
abbrev mX5_harmBy : MD := (yX5_harmBy, cX5_harmBy, 3, some .int, 0, 0)
abbrev mX5_placeOf : MD := (yX5_placeOf, cX5_placeOf, 3, some .int, 0, 0)
abbrev mX5_shift : MD := (yX5_shift, cX5_shift, 5, none, 1, 21)
abbrev mX5_swapPlaces : MD := (yX5_swapPlaces, cX5_swapPlaces, 5, none, 1, 22)
abbrev mX6_init : MD := (yX6_init, cX6_init, 1, none, 1, 20)
abbrev mX6_has : MD := (yX6_has, cX6_has, 2, some .boolean, 0, 0)
abbrev mX6_add : MD := (yX6_add, cX6_add, 4, some .boolean, 0, 0)
abbrev mX6_sleepersOf : MD := (yX6_sleepersOf, cX6_sleepersOf, 7, some .int, 3, 66)
abbrev mX6_ways : MD := (yX6_ways, cX6_ways, 6, some .int, 4, 92)
abbrev mX6_addOne : MD := (yX6_addOne, cX6_addOne, 5, none, 1, 21)
abbrev mX6_onlySleeperOf : MD := (yX6_onlySleeperOf, cX6_onlySleeperOf, 5, some .int, 5, 117)
abbrev mX7_init : MD := (yX7_init, cX7_init, 1, none, 1, 20)
abbrev mX7_put : MD := (yX7_put, cX7_put, 2, some .boolean, 0, 0)
abbrev mX7_readInto : MD := (yX7_readInto, cX7_readInto, 5, some .int, 4, 89)
abbrev mX7_readNumbers : MD := (yX7_readNumbers, cX7_readNumbers, 4, some .int, 2, 43)
abbrev mX7_isFigure : MD := (yX7_isFigure, cX7_isFigure, 2, some .boolean, 1, 22)
abbrev mX7_letterAt : MD := (yX7_letterAt, cX7_letterAt, 2, some .int, 0, 0)
abbrev mX8_init : MD := (yX8_init, cX8_init, 1, none, 1, 20)
abbrev mX8_put : MD := (yX8_put, cX8_put, 2, some .boolean, 1, 64)
abbrev mX8_takeInto : MD := (yX8_takeInto, cX8_takeInto, 2, none, 1, 64)
abbrev mX9_init : MD := (yX9_init, cX9_init, 2, none, 5, 113)
abbrev mX9_write : MD := (yX9_write, cX9_write, 2, some .int, 1, 22)
abbrev mX9_wipe : MD := (yX9_wipe, cX9_wipe, 2, some .int, 0, 0)
abbrev mX9_fault : MD := (yX9_fault, cX9_fault, 1, some .int, 5, 113)
abbrev mX9_lay : MD := (yX9_lay, cX9_lay, 2, some .int, 5, 113)
abbrev mX9_bed : MD := (yX9_bed, cX9_bed, 3, some .int, 3, 66)
abbrev mX9_guest : MD := (yX9_guest, cX9_guest, 4, some .int, 1, 22)
abbrev mX9_harm : MD := (yX9_harm, cX9_harm, 4, some .int, 3, 66)
abbrev mX9_lies : MD := (yX9_lies, cX9_lies, 3, some .int, 5, 127)
abbrev mX9_who : MD := (yX9_who, cX9_who, 4, some .int, 5, 127)
abbrev mX9_all : MD := (yX9_all, cX9_all, 2, some .int, 5, 127)
abbrev mX9_move : MD := (yX9_move, cX9_move, 4, some .int, 3, 67)
abbrev mX9_wear : MD := (yX9_wear, cX9_wear, 4, some .int, 3, 67)
abbrev mX9_come : MD := (yX9_come, cX9_come, 4, some .int, 3, 67)
abbrev mX9_undo : MD := (yX9_undo, cX9_undo, 1, some .int, 3, 67)
abbrev mX9_order : MD := (yX9_order, cX9_order, 2, some .int, 6, 153)
abbrev mX9_cushion : MD := (yX9_cushion, cX9_cushion, 9, some .int, 6, 148)
abbrev mX9_length : MD := (yX9_length, cX9_length, 8, some .int, 6, 148)
abbrev mX9_law : MD := (yX9_law, cX9_law, 6, some .int, 6, 148)
abbrev mX9_pairs : MD := (yX9_pairs, cX9_pairs, 7, some .int, 6, 149)
abbrev mX9_later : MD := (yX9_later, cX9_later, 7, some .int, 5, 127)
abbrev mX9_rival : MD := (yX9_rival, cX9_rival, 4, some .int, 5, 127)
abbrev mX9_fewest : MD := (yX9_fewest, cX9_fewest, 4, some .int, 5, 127)
abbrev mX9_turned : MD := (yX9_turned, cX9_turned, 2, some .int, 6, 148)
abbrev mX9_left : MD := (yX9_left, cX9_left, 4, some .int, 2, 42)
abbrev mX9_sweep : MD := (yX9_sweep, cX9_sweep, 2, some .int, 0, 0)
abbrev mX9_slept : MD := (yX9_slept, cX9_slept, 2, some .int, 4, 92)
abbrev mX9_sure : MD := (yX9_sure, cX9_sure, 2, some .int, 6, 141)
abbrev mX9_found : MD := (yX9_found, cX9_found, 7, some .int, 5, 127)
abbrev mX9_year : MD := (yX9_year, cX9_year, 3, some .int, 5, 127)
abbrev mX9_keep : MD := (yX9_keep, cX9_keep, 1, some .int, 2, 85)
abbrev mX9_back : MD := (yX9_back, cX9_back, 1, some .int, 2, 85)
abbrev mX9_count : MD := (yX9_count, cX9_count, 2, some .int, 0, 0)
abbrev mX9_isWithin : MD := (yX9_isWithin, cX9_isWithin, 3, some .boolean, 0, 0)
abbrev mX9_isNight : MD := (yX9_isNight, cX9_isNight, 1, some .boolean, 1, 22)
abbrev mX9_isLength : MD := (yX9_isLength, cX9_isLength, 1, some .boolean, 1, 22)
abbrev mX9_isIn : MD := (yX9_isIn, cX9_isIn, 2, some .boolean, 0, 0)
abbrev mX9_noteChange : MD := (yX9_noteChange, cX9_noteChange, 4, none, 2, 44)
abbrev mX9_sumBelow : MD := (yX9_sumBelow, cX9_sumBelow, 2, some .int, 5, 127)
abbrev mX9_noteHarmsNow : MD := (yX9_noteHarmsNow, cX9_noteHarmsNow, 1, some .int, 5, 127)
abbrev mX9_wouldSwap : MD := (yX9_wouldSwap, cX9_wouldSwap, 3, some .boolean, 5, 127)
abbrev mX10_init : MD := (yX10_init, cX10_init, 2, none, 1, 20)
abbrev mX10_in : MD := (yX10_in, cX10_in, 6, some .boolean, 0, 0)
abbrev mX10_has : MD := (yX10_has, cX10_has, 2, some .boolean, 0, 0)
abbrev mX10_isBed : MD := (yX10_isBed, cX10_isBed, 2, some .boolean, 1, 25)
abbrev mX10_isGuest : MD := (yX10_isGuest, cX10_isGuest, 2, some .boolean, 1, 25)
abbrev mX10_isNight : MD := (yX10_isNight, cX10_isNight, 1, some .boolean, 1, 25)
abbrev mX10_write : MD := (yX10_write, cX10_write, 2, some .int, 1, 25)
abbrev mX10_wipe : MD := (yX10_wipe, cX10_wipe, 2, some .int, 0, 0)
abbrev mX10_readNumber : MD := (yX10_readNumber, cX10_readNumber, 4, some .boolean, 1, 25)
abbrev mX10_readNumbers : MD := (yX10_readNumbers, cX10_readNumbers, 4, some .boolean, 2, 48)
abbrev mX10_readItem : MD := (yX10_readItem, cX10_readItem, 6, some .boolean, 3, 71)
abbrev mX10_fault : MD := (yX10_fault, cX10_fault, 2, some .int, 4, 96)
abbrev mX10_lay : MD := (yX10_lay, cX10_lay, 2, some .int, 5, 117)
abbrev mX10_lengthOn : MD := (yX10_lengthOn, cX10_lengthOn, 7, some .int, 0, 0)
abbrev mX10_bed : MD := (yX10_bed, cX10_bed, 3, some .int, 2, 46)
abbrev mX10_inchesOn : MD := (yX10_inchesOn, cX10_inchesOn, 4, some .int, 0, 0)
abbrev mX10_harmBy : MD := (yX10_harmBy, cX10_harmBy, 5, some .int, 0, 0)
abbrev mX10_harmOf : MD := (yX10_harmOf, cX10_harmOf, 4, some .int, 1, 26)
abbrev mX10_harm : MD := (yX10_harm, cX10_harm, 4, some .int, 2, 49)
abbrev mX10_placeOf : MD := (yX10_placeOf, cX10_placeOf, 3, some .int, 0, 0)
abbrev mX10_guest : MD := (yX10_guest, cX10_guest, 3, some .int, 2, 46)
abbrev mX10_isWaiting : MD := (yX10_isWaiting, cX10_isWaiting, 3, some .boolean, 0, 0)
abbrev mX10_lieDown : MD := (yX10_lieDown, cX10_lieDown, 5, none, 2, 49)
abbrev mX10_give : MD := (yX10_give, cX10_give, 7, none, 3, 73)
abbrev mX10_stay : MD := (yX10_stay, cX10_stay, 4, some .int, 4, 99)
abbrev mX10_lies : MD := (yX10_lies, cX10_lies, 3, some .int, 5, 122)
abbrev mX10_who : MD := (yX10_who, cX10_who, 5, some .int, 5, 122)
abbrev mX10_unharmed : MD := (yX10_unharmed, cX10_unharmed, 3, some .int, 0, 0)
abbrev mX10_all : MD := (yX10_all, cX10_all, 6, some .int, 5, 122)
abbrev mX10_note : MD := (yX10_note, cX10_note, 2, none, 0, 0)
abbrev mX10_move : MD := (yX10_move, cX10_move, 5, some .int, 2, 46)
abbrev mX10_wear : MD := (yX10_wear, cX10_wear, 4, some .int, 2, 46)
abbrev mX10_come : MD := (yX10_come, cX10_come, 4, some .int, 2, 46)
abbrev mX10_undo : MD := (yX10_undo, cX10_undo, 2, some .int, 0, 0)
abbrev mX10_nextRow : MD := (yX10_nextRow, cX10_nextRow, 5, some .boolean, 1, 23)
abbrev mX10_exchange : MD := (yX10_exchange, cX10_exchange, 4, none, 0, 0)
abbrev mX10_order : MD := (yX10_order, cX10_order, 7, some .int, 5, 122)
abbrev mX10_cushion : MD := (yX10_cushion, cX10_cushion, 7, some .int, 5, 122)
abbrev mX10_length : MD := (yX10_length, cX10_length, 8, some .int, 5, 122)
abbrev mX10_law : MD := (yX10_law, cX10_law, 6, some .int, 5, 122)
abbrev mX10_pairs : MD := (yX10_pairs, cX10_pairs, 9, some .int, 5, 122)
abbrev mX10_later : MD := (yX10_later, cX10_later, 7, some .int, 5, 122)
abbrev mX10_rival : MD := (yX10_rival, cX10_rival, 5, some .int, 5, 122)
abbrev mX10_fewest : MD := (yX10_fewest, cX10_fewest, 5, some .int, 5, 122)
abbrev mX10_turned : MD := (yX10_turned, cX10_turned, 2, some .int, 5, 122)
abbrev mX10_left : MD := (yX10_left, cX10_left, 4, some .int, 2, 46)
abbrev mX10_sweep : MD := (yX10_sweep, cX10_sweep, 2, some .int, 0, 0)
abbrev mX10_sleptBy : MD := (yX10_sleptBy, cX10_sleptBy, 5, some .int, 2, 49)
abbrev mX10_slept : MD := (yX10_slept, cX10_slept, 2, some .int, 3, 73)
abbrev mX10_waysWith : MD := (yX10_waysWith, cX10_waysWith, 7, some .int, 3, 73)
abbrev mX10_sure : MD := (yX10_sure, cX10_sure, 5, some .int, 4, 99)
abbrev mX10_found : MD := (yX10_found, cX10_found, 8, some .int, 5, 122)
abbrev mX10_year : MD := (yX10_year, cX10_year, 4, some .int, 5, 122)
abbrev mX10_keep : MD := (yX10_keep, cX10_keep, 2, some .int, 0, 0)
abbrev mX10_back : MD := (yX10_back, cX10_back, 2, some .int, 0, 0)
abbrev mX10_count : MD := (yX10_count, cX10_count, 2, some .int, 0, 0)
abbrev mJ6_bitCount_0f7a4 : MD := (yJ6_bitCount_0f7a4, cJ6_bitCount_0f7a4, 1, some .int, 0, 0)
abbrev mJ9_abs_0f7a4 : MD := (yJ9_abs_0f7a4, cJ9_abs_0f7a4, 1, some .int, 0, 0)
abbrev mJ9_max_7cf53 : MD := (yJ9_max_7cf53, cJ9_max_7cf53, 2, some .int, 0, 0)
abbrev mJ9_min_7cf53 : MD := (yJ9_min_7cf53, cJ9_min_7cf53, 2, some .int, 0, 0)
abbrev mJ0_length_8abf5 : MD := (yJ0_length_8abf5, cJ0_length_8abf5, 1, some .int, 1, 20)
abbrev mJ0_charAt_5068e : MD := (yJ0_charAt_5068e, cJ0_charAt_5068e, 2, some .char, 4, 85)
abbrev mJ0_coder_7d493 : MD := (yJ0_coder_7d493, cJ0_coder_7d493, 1, some .byte, 0, 0)
abbrev mJ0_isLatin1_aae02 : MD := (yJ0_isLatin1_aae02, cJ0_isLatin1_aae02, 1, some .boolean, 0, 0)
abbrev mJ0_checkIndex_df160 : MD := (yJ0_checkIndex_df160, cJ0_checkIndex_df160, 2, none, 1, 22)
abbrev mJ1_charAt_3b067 : MD := (yJ1_charAt_3b067, cJ1_charAt_3b067, 2, some .char, 2, 43)
abbrev mJ2_getChar_3b067 : MD := (yJ2_getChar_3b067, cJ2_getChar_3b067, 2, some .char, 1, 20)
abbrev mJ2_length_9d52b : MD := (yJ2_length_9d52b, cJ2_length_9d52b, 1, some .int, 0, 0)
abbrev mJ2_charAt_3b067 : MD := (yJ2_charAt_3b067, cJ2_charAt_3b067, 2, some .char, 3, 64)
abbrev mJ2_checkIndex_2214a : MD := (yJ2_checkIndex_2214a, cJ2_checkIndex_2214a, 2, none, 2, 43)
abbrev mJ3_checkIndex_8e157 : MD := (yJ3_checkIndex_8e157, cJ3_checkIndex_8e157, 3, some .int, 0, 0)
abbrev mL_law : MD := (yL_law, cL_law, 4, some .boolean, 9, 352)
theorem fX0_init : MFI mX0_init 0 := ⟨⟨wqG11 (i := 4) rfl rfl, wqG2 (i := 9) rfl rfl, ⟨by decide, by decide⟩, by decide +kernel⟩, wqG11 (i := 3) rfl rfl, rfl, rfl⟩
theorem fX0_clear : MFV mX0_clear 0 := ⟨⟨wqG19 (i := 12) rfl rfl, wqG2 (i := 9) rfl rfl, ⟨by decide, by decide⟩, by decide +kernel⟩, wqG19 (i := 10) rfl rfl, wqG19 (i := 11) rfl rfl⟩
theorem fX0_has : MFV mX0_has 1 := ⟨⟨wqG25 (i := 5) rfl rfl, wqG2 (i := 9) rfl rfl, ⟨by decide, by decide⟩, by decide +kernel⟩, wqG25 (i := 3) rfl rfl, wqG25 (i := 4) rfl rfl⟩
theorem fX0_add : MFV mX0_add 1 := ⟨⟨wqG20 (i := 19) rfl rfl, wqG2 (i := 9) rfl rfl, ⟨by decide, by decide⟩, by decide +kernel⟩, wqG20 (i := 17) rfl rfl, wqG20 (i := 18) rfl rfl⟩
theorem fX0_addFeast : MFV mX0_addFeast 2 := ⟨⟨wqG21 (i := 7) rfl rfl, wqG2 (i := 9) rfl rfl, ⟨by decide, by decide⟩, by decide +kernel⟩, wqG21 (i := 5) rfl rfl, wqG21 (i := 6) rfl rfl⟩
theorem fX0_lengthOn : MFV mX0_lengthOn 2 := ⟨⟨wqG25 (i := 10) rfl rfl, wqG2 (i := 9) rfl rfl, ⟨by decide, by decide⟩, by decide +kernel⟩, wqG25 (i := 8) rfl rfl, wqG25 (i := 9) rfl rfl⟩
theorem fX0_drawn : MFV mX0_drawn 2 := ⟨⟨wqG25 (i := 15) rfl rfl, wqG2 (i := 9) rfl rfl, ⟨by decide, by decide⟩, by decide +kernel⟩, wqG25 (i := 14) rfl rfl, wqG0 (i := 5) rfl rfl⟩
theorem fX1_init : MFI mX1_init 0 := ⟨⟨wqG6 (i := 11) rfl rfl, wqG2 (i := 4) rfl rfl, ⟨by decide, by decide⟩, by decide +kernel⟩, wqG6 (i := 10) rfl rfl, rfl, rfl⟩
theorem fX1_push : MFV mX1_push 3 := ⟨⟨wqG31 (i := 12) rfl rfl, wqG2 (i := 4) rfl rfl, ⟨by decide, by decide⟩, by decide +kernel⟩, wqG31 (i := 10) rfl rfl, wqG31 (i := 11) rfl rfl⟩
theorem fX1_dropOldest : MFV mX1_dropOldest 0 := ⟨⟨wqG31 (i := 16) rfl rfl, wqG2 (i := 4) rfl rfl, ⟨by decide, by decide⟩, by decide +kernel⟩, wqG31 (i := 15) rfl rfl, wqG0 (i := 10) rfl rfl⟩
theorem fX1_takeBack : MFV mX1_takeBack 1 := ⟨⟨wqG32 (i := 12) rfl rfl, wqG2 (i := 4) rfl rfl, ⟨by decide, by decide⟩, by decide +kernel⟩, wqG32 (i := 10) rfl rfl, wqG32 (i := 11) rfl rfl⟩
theorem fX2_init : MFI mX2_init 0 := ⟨⟨wqG10 (i := 18) rfl rfl, wqG2 (i := 8) rfl rfl, ⟨by decide, by decide⟩, by decide +kernel⟩, wqG10 (i := 17) rfl rfl, rfl, rfl⟩
theorem fX2_clear : MFV mX2_clear 0 := ⟨⟨wqG19 (i := 8) rfl rfl, wqG2 (i := 8) rfl rfl, ⟨by decide, by decide⟩, by decide +kernel⟩, wqG19 (i := 6) rfl rfl, wqG19 (i := 7) rfl rfl⟩
theorem fX2_canOpen : MFV mX2_canOpen 0 := ⟨⟨wqG24 (i := 17) rfl rfl, wqG2 (i := 8) rfl rfl, ⟨by decide, by decide⟩, by decide +kernel⟩, wqG24 (i := 15) rfl rfl, wqG24 (i := 16) rfl rfl⟩
theorem fX2_tell : MFV mX2_tell 5 := ⟨⟨wqG20 (i := 11) rfl rfl, wqG2 (i := 8) rfl rfl, ⟨by decide, by decide⟩, by decide +kernel⟩, wqG20 (i := 9) rfl rfl, wqG20 (i := 10) rfl rfl⟩
theorem fX2_enact : MFV mX2_enact 1 := ⟨⟨wqG22 (i := 4) rfl rfl, wqG2 (i := 8) rfl rfl, ⟨by decide, by decide⟩, by decide +kernel⟩, wqG22 (i := 3) rfl rfl, wqG0 (i := 3) rfl rfl⟩
theorem fX2_addRival : MFV mX2_addRival 1 := ⟨⟨wqG22 (i := 8) rfl rfl, wqG2 (i := 8) rfl rfl, ⟨by decide, by decide⟩, by decide +kernel⟩, wqG22 (i := 7) rfl rfl, wqG0 (i := 4) rfl rfl⟩
theorem fX2_namable : MFV mX2_namable 1 := ⟨⟨wqG29 (i := 2) rfl rfl, wqG2 (i := 8) rfl rfl, ⟨by decide, by decide⟩, by decide +kernel⟩, wqG29 (i := 0) rfl rfl, wqG29 (i := 1) rfl rfl⟩
theorem fX2_leastAtRival : MFV mX2_leastAtRival 1 := ⟨⟨wqG36 (i := 10) rfl rfl, wqG2 (i := 8) rfl rfl, ⟨by decide, by decide⟩, by decide +kernel⟩, wqG36 (i := 8) rfl rfl, wqG36 (i := 9) rfl rfl⟩
theorem fX3_init : MFI mX3_init 0 := ⟨⟨wqG4 (i := 13) rfl rfl, wqG2 (i := 3) rfl rfl, ⟨by decide, by decide⟩, by decide +kernel⟩, wqG4 (i := 12) rfl rfl, rfl, rfl⟩
theorem fX3_pass : MFV mX3_pass 2 := ⟨⟨wqG27 (i := 12) rfl rfl, wqG2 (i := 3) rfl rfl, ⟨by decide, by decide⟩, by decide +kernel⟩, wqG27 (i := 10) rfl rfl, wqG27 (i := 11) rfl rfl⟩
theorem fX3_fillBeds : MFV mX3_fillBeds 2 := ⟨⟨wqG28 (i := 0) rfl rfl, wqG2 (i := 3) rfl rfl, ⟨by decide, by decide⟩, by decide +kernel⟩, wqG27 (i := 19) rfl rfl, wqG0 (i := 6) rfl rfl⟩
theorem fX3_callFirst : MFV mX3_callFirst 2 := ⟨⟨wqG28 (i := 8) rfl rfl, wqG2 (i := 3) rfl rfl, ⟨by decide, by decide⟩, by decide +kernel⟩, wqG28 (i := 7) rfl rfl, wqG0 (i := 7) rfl rfl⟩
theorem fX3_bestOf : MFV mX3_bestOf 5 := ⟨⟨wqG28 (i := 18) rfl rfl, wqG2 (i := 3) rfl rfl, ⟨by decide, by decide⟩, by decide +kernel⟩, wqG28 (i := 17) rfl rfl, wqG0 (i := 8) rfl rfl⟩
theorem fX3_hasLain : MFV mX3_hasLain 1 := ⟨⟨wqG29 (i := 8) rfl rfl, wqG2 (i := 3) rfl rfl, ⟨by decide, by decide⟩, by decide +kernel⟩, wqG29 (i := 6) rfl rfl, wqG29 (i := 7) rfl rfl⟩
theorem fX3_total : MFV mX3_total 1 := ⟨⟨wqG30 (i := 0) rfl rfl, wqG2 (i := 3) rfl rfl, ⟨by decide, by decide⟩, by decide +kernel⟩, wqG29 (i := 18) rfl rfl, wqG29 (i := 19) rfl rfl⟩
theorem fX3_unharmed : MFV mX3_unharmed 1 := ⟨⟨wqG30 (i := 11) rfl rfl, wqG2 (i := 3) rfl rfl, ⟨by decide, by decide⟩, by decide +kernel⟩, wqG30 (i := 9) rfl rfl, wqG30 (i := 10) rfl rfl⟩
theorem fX3_greatest : MFV mX3_greatest 1 := ⟨⟨wqG30 (i := 16) rfl rfl, wqG2 (i := 3) rfl rfl, ⟨by decide, by decide⟩, by decide +kernel⟩, wqG30 (i := 14) rfl rfl, wqG30 (i := 15) rfl rfl⟩
theorem fX3_allLainBy : MFV mX3_allLainBy 2 := ⟨⟨wqG37 (i := 3) rfl rfl, wqG2 (i := 3) rfl rfl, ⟨by decide, by decide⟩, by decide +kernel⟩, wqG37 (i := 1) rfl rfl, wqG37 (i := 2) rfl rfl⟩
theorem fX4_init : MFI mX4_init 0 := ⟨⟨wqG9 (i := 16) rfl rfl, wqG2 (i := 7) rfl rfl, ⟨by decide, by decide⟩, by decide +kernel⟩, wqG9 (i := 15) rfl rfl, rfl, rfl⟩
theorem fX4_search : MFV mX4_search 2 := ⟨⟨wqG33 (i := 3) rfl rfl, wqG2 (i := 7) rfl rfl, ⟨by decide, by decide⟩, by decide +kernel⟩, wqG33 (i := 1) rfl rfl, wqG33 (i := 2) rfl rfl⟩
theorem fX4_toNextRow : MFS mX4_toNextRow 2 := ⟨⟨wqG33 (i := 12) rfl rfl, wqG2 (i := 7) rfl rfl, ⟨by decide, by decide⟩, by decide +kernel⟩, wqG33 (i := 11) rfl rfl⟩
theorem fX4_letFall : MFS mX4_letFall 2 := ⟨⟨wqG33 (i := 15) rfl rfl, wqG2 (i := 7) rfl rfl, ⟨by decide, by decide⟩, by decide +kernel⟩, wqG33 (i := 14) rfl rfl⟩
theorem fX4_turnRound : MFS mX4_turnRound 2 := ⟨⟨wqG34 (i := 3) rfl rfl, wqG2 (i := 7) rfl rfl, ⟨by decide, by decide⟩, by decide +kernel⟩, wqG34 (i := 2) rfl rfl⟩
theorem fX4_swap : MFS mX4_swap 3 := ⟨⟨wqG33 (i := 19) rfl rfl, wqG2 (i := 7) rfl rfl, ⟨by decide, by decide⟩, by decide +kernel⟩, wqG33 (i := 18) rfl rfl⟩
theorem fX5_init : MFI mX5_init 0 := ⟨⟨wqG13 (i := 0) rfl rfl, wqG2 (i := 10) rfl rfl, ⟨by decide, by decide⟩, by decide +kernel⟩, wqG12 (i := 19) rfl rfl, rfl, rfl⟩
theorem fX5_has : MFV mX5_has 1 := ⟨⟨wqG22 (i := 0) rfl rfl, wqG2 (i := 10) rfl rfl, ⟨by decide, by decide⟩, by decide +kernel⟩, wqG21 (i := 18) rfl rfl, wqG21 (i := 19) rfl rfl⟩
theorem fX5_everyone : MFV mX5_everyone 0 := ⟨⟨wqG27 (i := 16) rfl rfl, wqG2 (i := 10) rfl rfl, ⟨by decide, by decide⟩, by decide +kernel⟩, wqG27 (i := 14) rfl rfl, wqG27 (i := 15) rfl rfl⟩
theorem fX5_add : MFV mX5_add 3 := ⟨⟨wqG21 (i := 12) rfl rfl, wqG2 (i := 10) rfl rfl, ⟨by decide, by decide⟩, by decide +kernel⟩, wqG21 (i := 10) rfl rfl, wqG21 (i := 11) rfl rfl⟩
theorem fX5_befriend : MFV mX5_befriend 2 := ⟨⟨wqG21 (i := 16) rfl rfl, wqG2 (i := 10) rfl rfl, ⟨by decide, by decide⟩, by decide +kernel⟩, wqG21 (i := 14) rfl rfl, wqG21 (i := 15) rfl rfl⟩
theorem fX5_hereBy : MFV mX5_hereBy 1 := ⟨⟨wqG28 (i := 4) rfl rfl, wqG2 (i := 10) rfl rfl, ⟨by decide, by decide⟩, by decide +kernel⟩, wqG28 (i := 2) rfl rfl, wqG28 (i := 3) rfl rfl⟩
theorem fX5_harmAt : MFV mX5_harmAt 3 := ⟨⟨wqG26 (i := 17) rfl rfl, wqG2 (i := 10) rfl rfl, ⟨by decide, by decide⟩, by decide +kernel⟩, wqG26 (i := 15) rfl rfl, wqG26 (i := 16) rfl rfl⟩
theorem fX5_harmBy : MFS mX5_harmBy 2 := ⟨⟨wqG27 (i := 3) rfl rfl, wqG2 (i := 10) rfl rfl, ⟨by decide, by decide⟩, by decide +kernel⟩, wqG27 (i := 2) rfl rfl⟩
theorem fX5_placeOf : MFV mX5_placeOf 1 := ⟨⟨wqG26 (i := 9) rfl rfl, wqG2 (i := 10) rfl rfl, ⟨by decide, by decide⟩, by decide +kernel⟩, wqG26 (i := 7) rfl rfl, wqG26 (i := 8) rfl rfl⟩
theorem fX5_shift : MFV mX5_shift 2 := ⟨⟨wqG31 (i := 4) rfl rfl, wqG2 (i := 10) rfl rfl, ⟨by decide, by decide⟩, by decide +kernel⟩, wqG31 (i := 2) rfl rfl, wqG31 (i := 3) rfl rfl⟩
theorem fX5_swapPlaces : MFV mX5_swapPlaces 2 := ⟨⟨wqG35 (i := 17) rfl rfl, wqG2 (i := 10) rfl rfl, ⟨by decide, by decide⟩, by decide +kernel⟩, wqG35 (i := 15) rfl rfl, wqG35 (i := 16) rfl rfl⟩
theorem fX6_init : MFI mX6_init 0 := ⟨⟨wqG8 (i := 13) rfl rfl, wqG2 (i := 6) rfl rfl, ⟨by decide, by decide⟩, by decide +kernel⟩, wqG8 (i := 12) rfl rfl, rfl, rfl⟩
theorem fX6_has : MFV mX6_has 1 := ⟨⟨wqG38 (i := 7) rfl rfl, wqG2 (i := 6) rfl rfl, ⟨by decide, by decide⟩, by decide +kernel⟩, wqG38 (i := 5) rfl rfl, wqG38 (i := 6) rfl rfl⟩
theorem fX6_add : MFV mX6_add 3 := ⟨⟨wqG37 (i := 15) rfl rfl, wqG2 (i := 6) rfl rfl, ⟨by decide, by decide⟩, by decide +kernel⟩, wqG37 (i := 13) rfl rfl, wqG37 (i := 14) rfl rfl⟩
theorem fX6_sleepersOf : MFV mX6_sleepersOf 2 := ⟨⟨wqG38 (i := 11) rfl rfl, wqG2 (i := 6) rfl rfl, ⟨by decide, by decide⟩, by decide +kernel⟩, wqG38 (i := 9) rfl rfl, wqG38 (i := 10) rfl rfl⟩
theorem fX6_ways : MFV mX6_ways 3 := ⟨⟨wqG39 (i := 3) rfl rfl, wqG2 (i := 6) rfl rfl, ⟨by decide, by decide⟩, by decide +kernel⟩, wqG39 (i := 1) rfl rfl, wqG39 (i := 2) rfl rfl⟩
theorem fX6_addOne : MFV mX6_addOne 2 := ⟨⟨wqG39 (i := 8) rfl rfl, wqG2 (i := 6) rfl rfl, ⟨by decide, by decide⟩, by decide +kernel⟩, wqG39 (i := 7) rfl rfl, wqG0 (i := 14) rfl rfl⟩
theorem fX6_onlySleeperOf : MFV mX6_onlySleeperOf 2 := ⟨⟨wqG39 (i := 13) rfl rfl, wqG2 (i := 6) rfl rfl, ⟨by decide, by decide⟩, by decide +kernel⟩, wqG39 (i := 11) rfl rfl, wqG39 (i := 12) rfl rfl⟩
theorem fX7_init : MFI mX7_init 0 := ⟨⟨wqG3 (i := 11) rfl rfl, wqG2 (i := 2) rfl rfl, ⟨by decide, by decide⟩, by decide +kernel⟩, wqG3 (i := 10) rfl rfl, rfl, rfl⟩
theorem fX7_put : MFV mX7_put 1 := ⟨⟨wqG19 (i := 0) rfl rfl, wqG2 (i := 2) rfl rfl, ⟨by decide, by decide⟩, by decide +kernel⟩, wqG18 (i := 18) rfl rfl, wqG18 (i := 19) rfl rfl⟩
theorem fX7_readInto : MFV mX7_readInto 1 := ⟨⟨wqG19 (i := 4) rfl rfl, wqG2 (i := 2) rfl rfl, ⟨by decide, by decide⟩, by decide +kernel⟩, wqG19 (i := 2) rfl rfl, wqG19 (i := 3) rfl rfl⟩
theorem fX7_readNumbers : MFV mX7_readNumbers 1 := ⟨⟨wqG19 (i := 16) rfl rfl, wqG2 (i := 2) rfl rfl, ⟨by decide, by decide⟩, by decide +kernel⟩, wqG19 (i := 15) rfl rfl, wqG0 (i := 0) rfl rfl⟩
theorem fX7_isFigure : MFV mX7_isFigure 1 := ⟨⟨wqG20 (i := 0) rfl rfl, wqG2 (i := 2) rfl rfl, ⟨by decide, by decide⟩, by decide +kernel⟩, wqG19 (i := 19) rfl rfl, wqG0 (i := 1) rfl rfl⟩
theorem fX7_letterAt : MFV mX7_letterAt 1 := ⟨⟨wqG20 (i := 4) rfl rfl, wqG2 (i := 2) rfl rfl, ⟨by decide, by decide⟩, by decide +kernel⟩, wqG20 (i := 3) rfl rfl, wqG0 (i := 2) rfl rfl⟩
theorem fX8_init : MFI mX8_init 0 := ⟨⟨wqG7 (i := 11) rfl rfl, wqG2 (i := 5) rfl rfl, ⟨by decide, by decide⟩, by decide +kernel⟩, wqG7 (i := 10) rfl rfl, rfl, rfl⟩
theorem fX8_put : MFV mX8_put 1 := ⟨⟨wqG40 (i := 14) rfl rfl, wqG2 (i := 5) rfl rfl, ⟨by decide, by decide⟩, by decide +kernel⟩, wqG40 (i := 12) rfl rfl, wqG40 (i := 13) rfl rfl⟩
theorem fX8_takeInto : MFV mX8_takeInto 1 := ⟨⟨wqG41 (i := 3) rfl rfl, wqG2 (i := 5) rfl rfl, ⟨by decide, by decide⟩, by decide +kernel⟩, wqG41 (i := 1) rfl rfl, wqG41 (i := 2) rfl rfl⟩
theorem fX9_init : MFI mX9_init 0 := ⟨⟨wqG3 (i := 3) rfl rfl, wqG2 (i := 1) rfl rfl, ⟨by decide, by decide⟩, by decide +kernel⟩, wqG3 (i := 2) rfl rfl, rfl, rfl⟩
theorem fX9_write : MFV mX9_write 1 := ⟨⟨wqG24 (i := 1) rfl rfl, wqG2 (i := 1) rfl rfl, ⟨by decide, by decide⟩, by decide +kernel⟩, wqG23 (i := 19) rfl rfl, wqG24 (i := 0) rfl rfl⟩
theorem fX9_wipe : MFV mX9_wipe 0 := ⟨⟨wqG24 (i := 5) rfl rfl, wqG2 (i := 1) rfl rfl, ⟨by decide, by decide⟩, by decide +kernel⟩, wqG24 (i := 3) rfl rfl, wqG24 (i := 4) rfl rfl⟩
theorem fX9_fault : MFV mX9_fault 0 := ⟨⟨wqG24 (i := 9) rfl rfl, wqG2 (i := 1) rfl rfl, ⟨by decide, by decide⟩, by decide +kernel⟩, wqG24 (i := 7) rfl rfl, wqG24 (i := 8) rfl rfl⟩
theorem fX9_lay : MFV mX9_lay 0 := ⟨⟨wqG24 (i := 13) rfl rfl, wqG2 (i := 1) rfl rfl, ⟨by decide, by decide⟩, by decide +kernel⟩, wqG24 (i := 11) rfl rfl, wqG24 (i := 12) rfl rfl⟩
theorem fX9_bed : MFV mX9_bed 2 := ⟨⟨wqG25 (i := 1) rfl rfl, wqG2 (i := 1) rfl rfl, ⟨by decide, by decide⟩, by decide +kernel⟩, wqG24 (i := 19) rfl rfl, wqG25 (i := 0) rfl rfl⟩
theorem fX9_guest : MFV mX9_guest 2 := ⟨⟨wqG26 (i := 4) rfl rfl, wqG2 (i := 1) rfl rfl, ⟨by decide, by decide⟩, by decide +kernel⟩, wqG26 (i := 2) rfl rfl, wqG26 (i := 3) rfl rfl⟩
theorem fX9_harm : MFV mX9_harm 3 := ⟨⟨wqG26 (i := 13) rfl rfl, wqG2 (i := 1) rfl rfl, ⟨by decide, by decide⟩, by decide +kernel⟩, wqG26 (i := 11) rfl rfl, wqG26 (i := 12) rfl rfl⟩
theorem fX9_lies : MFV mX9_lies 2 := ⟨⟨wqG27 (i := 7) rfl rfl, wqG2 (i := 1) rfl rfl, ⟨by decide, by decide⟩, by decide +kernel⟩, wqG27 (i := 5) rfl rfl, wqG27 (i := 6) rfl rfl⟩
theorem fX9_who : MFV mX9_who 2 := ⟨⟨wqG29 (i := 12) rfl rfl, wqG2 (i := 1) rfl rfl, ⟨by decide, by decide⟩, by decide +kernel⟩, wqG29 (i := 10) rfl rfl, wqG29 (i := 11) rfl rfl⟩
theorem fX9_all : MFV mX9_all 1 := ⟨⟨wqG29 (i := 16) rfl rfl, wqG2 (i := 1) rfl rfl, ⟨by decide, by decide⟩, by decide +kernel⟩, wqG29 (i := 14) rfl rfl, wqG29 (i := 15) rfl rfl⟩
theorem fX9_move : MFV mX9_move 2 := ⟨⟨wqG31 (i := 0) rfl rfl, wqG2 (i := 1) rfl rfl, ⟨by decide, by decide⟩, by decide +kernel⟩, wqG30 (i := 18) rfl rfl, wqG30 (i := 19) rfl rfl⟩
theorem fX9_wear : MFV mX9_wear 2 := ⟨⟨wqG32 (i := 0) rfl rfl, wqG2 (i := 1) rfl rfl, ⟨by decide, by decide⟩, by decide +kernel⟩, wqG31 (i := 18) rfl rfl, wqG31 (i := 19) rfl rfl⟩
theorem fX9_come : MFV mX9_come 2 := ⟨⟨wqG32 (i := 4) rfl rfl, wqG2 (i := 1) rfl rfl, ⟨by decide, by decide⟩, by decide +kernel⟩, wqG32 (i := 2) rfl rfl, wqG32 (i := 3) rfl rfl⟩
theorem fX9_undo : MFV mX9_undo 0 := ⟨⟨wqG32 (i := 8) rfl rfl, wqG2 (i := 1) rfl rfl, ⟨by decide, by decide⟩, by decide +kernel⟩, wqG32 (i := 6) rfl rfl, wqG32 (i := 7) rfl rfl⟩
theorem fX9_order : MFV mX9_order 1 := ⟨⟨wqG32 (i := 19) rfl rfl, wqG2 (i := 1) rfl rfl, ⟨by decide, by decide⟩, by decide +kernel⟩, wqG32 (i := 17) rfl rfl, wqG32 (i := 18) rfl rfl⟩
theorem fX9_cushion : MFV mX9_cushion 1 := ⟨⟨wqG34 (i := 7) rfl rfl, wqG2 (i := 1) rfl rfl, ⟨by decide, by decide⟩, by decide +kernel⟩, wqG34 (i := 5) rfl rfl, wqG34 (i := 6) rfl rfl⟩
theorem fX9_length : MFV mX9_length 2 := ⟨⟨wqG34 (i := 15) rfl rfl, wqG2 (i := 1) rfl rfl, ⟨by decide, by decide⟩, by decide +kernel⟩, wqG34 (i := 13) rfl rfl, wqG34 (i := 14) rfl rfl⟩
theorem fX9_law : MFV mX9_law 0 := ⟨⟨wqG34 (i := 19) rfl rfl, wqG2 (i := 1) rfl rfl, ⟨by decide, by decide⟩, by decide +kernel⟩, wqG34 (i := 17) rfl rfl, wqG34 (i := 18) rfl rfl⟩
theorem fX9_pairs : MFV mX9_pairs 1 := ⟨⟨wqG35 (i := 3) rfl rfl, wqG2 (i := 1) rfl rfl, ⟨by decide, by decide⟩, by decide +kernel⟩, wqG35 (i := 1) rfl rfl, wqG35 (i := 2) rfl rfl⟩
theorem fX9_later : MFV mX9_later 2 := ⟨⟨wqG36 (i := 2) rfl rfl, wqG2 (i := 1) rfl rfl, ⟨by decide, by decide⟩, by decide +kernel⟩, wqG36 (i := 0) rfl rfl, wqG36 (i := 1) rfl rfl⟩
theorem fX9_rival : MFV mX9_rival 0 := ⟨⟨wqG36 (i := 6) rfl rfl, wqG2 (i := 1) rfl rfl, ⟨by decide, by decide⟩, by decide +kernel⟩, wqG36 (i := 4) rfl rfl, wqG36 (i := 5) rfl rfl⟩
theorem fX9_fewest : MFV mX9_fewest 1 := ⟨⟨wqG36 (i := 19) rfl rfl, wqG2 (i := 1) rfl rfl, ⟨by decide, by decide⟩, by decide +kernel⟩, wqG36 (i := 17) rfl rfl, wqG36 (i := 18) rfl rfl⟩
theorem fX9_turned : MFV mX9_turned 0 := ⟨⟨wqG37 (i := 7) rfl rfl, wqG2 (i := 1) rfl rfl, ⟨by decide, by decide⟩, by decide +kernel⟩, wqG37 (i := 5) rfl rfl, wqG37 (i := 6) rfl rfl⟩
theorem fX9_left : MFV mX9_left 3 := ⟨⟨wqG37 (i := 11) rfl rfl, wqG2 (i := 1) rfl rfl, ⟨by decide, by decide⟩, by decide +kernel⟩, wqG37 (i := 9) rfl rfl, wqG37 (i := 10) rfl rfl⟩
theorem fX9_sweep : MFV mX9_sweep 0 := ⟨⟨wqG37 (i := 19) rfl rfl, wqG2 (i := 1) rfl rfl, ⟨by decide, by decide⟩, by decide +kernel⟩, wqG37 (i := 17) rfl rfl, wqG37 (i := 18) rfl rfl⟩
theorem fX9_slept : MFV mX9_slept 1 := ⟨⟨wqG38 (i := 3) rfl rfl, wqG2 (i := 1) rfl rfl, ⟨by decide, by decide⟩, by decide +kernel⟩, wqG38 (i := 1) rfl rfl, wqG38 (i := 2) rfl rfl⟩
theorem fX9_sure : MFV mX9_sure 1 := ⟨⟨wqG38 (i := 19) rfl rfl, wqG2 (i := 1) rfl rfl, ⟨by decide, by decide⟩, by decide +kernel⟩, wqG38 (i := 17) rfl rfl, wqG38 (i := 18) rfl rfl⟩
theorem fX9_found : MFV mX9_found 2 := ⟨⟨wqG39 (i := 18) rfl rfl, wqG2 (i := 1) rfl rfl, ⟨by decide, by decide⟩, by decide +kernel⟩, wqG39 (i := 16) rfl rfl, wqG39 (i := 17) rfl rfl⟩
theorem fX9_year : MFV mX9_year 2 := ⟨⟨wqG40 (i := 6) rfl rfl, wqG2 (i := 1) rfl rfl, ⟨by decide, by decide⟩, by decide +kernel⟩, wqG40 (i := 4) rfl rfl, wqG40 (i := 5) rfl rfl⟩
theorem fX9_keep : MFV mX9_keep 0 := ⟨⟨wqG40 (i := 10) rfl rfl, wqG2 (i := 1) rfl rfl, ⟨by decide, by decide⟩, by decide +kernel⟩, wqG40 (i := 8) rfl rfl, wqG40 (i := 9) rfl rfl⟩
theorem fX9_back : MFV mX9_back 0 := ⟨⟨wqG40 (i := 19) rfl rfl, wqG2 (i := 1) rfl rfl, ⟨by decide, by decide⟩, by decide +kernel⟩, wqG40 (i := 17) rfl rfl, wqG40 (i := 18) rfl rfl⟩
theorem fX9_count : MFV mX9_count 1 := ⟨⟨wqG41 (i := 7) rfl rfl, wqG2 (i := 1) rfl rfl, ⟨by decide, by decide⟩, by decide +kernel⟩, wqG41 (i := 5) rfl rfl, wqG41 (i := 6) rfl rfl⟩
theorem fX9_isWithin : MFS mX9_isWithin 3 := ⟨⟨wqG20 (i := 7) rfl rfl, wqG2 (i := 1) rfl rfl, ⟨by decide, by decide⟩, by decide +kernel⟩, wqG20 (i := 6) rfl rfl⟩
theorem fX9_isNight : MFS mX9_isNight 1 := ⟨⟨wqG21 (i := 2) rfl rfl, wqG2 (i := 1) rfl rfl, ⟨by decide, by decide⟩, by decide +kernel⟩, wqG21 (i := 1) rfl rfl⟩
theorem fX9_isLength : MFS mX9_isLength 1 := ⟨⟨wqG20 (i := 14) rfl rfl, wqG2 (i := 1) rfl rfl, ⟨by decide, by decide⟩, by decide +kernel⟩, wqG20 (i := 13) rfl rfl⟩
theorem fX9_isIn : MFS mX9_isIn 2 := ⟨⟨wqG28 (i := 12) rfl rfl, wqG2 (i := 1) rfl rfl, ⟨by decide, by decide⟩, by decide +kernel⟩, wqG28 (i := 11) rfl rfl⟩
theorem fX9_noteChange : MFV mX9_noteChange 3 := ⟨⟨wqG31 (i := 8) rfl rfl, wqG2 (i := 1) rfl rfl, ⟨by decide, by decide⟩, by decide +kernel⟩, wqG31 (i := 7) rfl rfl, wqG0 (i := 9) rfl rfl⟩
theorem fX9_sumBelow : MFV mX9_sumBelow 1 := ⟨⟨wqG34 (i := 11) rfl rfl, wqG2 (i := 1) rfl rfl, ⟨by decide, by decide⟩, by decide +kernel⟩, wqG34 (i := 10) rfl rfl, wqG0 (i := 11) rfl rfl⟩
theorem fX9_noteHarmsNow : MFV mX9_noteHarmsNow 0 := ⟨⟨wqG35 (i := 7) rfl rfl, wqG2 (i := 1) rfl rfl, ⟨by decide, by decide⟩, by decide +kernel⟩, wqG35 (i := 6) rfl rfl, wqG0 (i := 12) rfl rfl⟩
theorem fX9_wouldSwap : MFV mX9_wouldSwap 2 := ⟨⟨wqG35 (i := 13) rfl rfl, wqG2 (i := 1) rfl rfl, ⟨by decide, by decide⟩, by decide +kernel⟩, wqG35 (i := 12) rfl rfl, wqG0 (i := 13) rfl rfl⟩
theorem fX10_init : MFI mX10_init 0 := ⟨⟨wqG41 (i := 12) rfl rfl, wqG2 (i := 15) rfl rfl, ⟨by decide, by decide⟩, by decide +kernel⟩, wqG41 (i := 11) rfl rfl, rfl, rfl⟩
theorem fX10_in : MFS mX10_in 3 := ⟨⟨wqG48 (i := 15) rfl rfl, wqG2 (i := 15) rfl rfl, ⟨by decide, by decide⟩, by decide +kernel⟩, wqG48 (i := 14) rfl rfl⟩
theorem fX10_has : MFS mX10_has 2 := ⟨⟨wqG53 (i := 15) rfl rfl, wqG2 (i := 15) rfl rfl, ⟨by decide, by decide⟩, by decide +kernel⟩, wqG53 (i := 14) rfl rfl⟩
theorem fX10_isBed : MFV mX10_isBed 1 := ⟨⟨wqG50 (i := 16) rfl rfl, wqG2 (i := 15) rfl rfl, ⟨by decide, by decide⟩, by decide +kernel⟩, wqG50 (i := 15) rfl rfl, wqG0 (i := 18) rfl rfl⟩
theorem fX10_isGuest : MFV mX10_isGuest 1 := ⟨⟨wqG51 (i := 16) rfl rfl, wqG2 (i := 15) rfl rfl, ⟨by decide, by decide⟩, by decide +kernel⟩, wqG51 (i := 15) rfl rfl, wqG1 (i := 0) rfl rfl⟩
theorem fX10_isNight : MFS mX10_isNight 1 := ⟨⟨wqG50 (i := 19) rfl rfl, wqG2 (i := 15) rfl rfl, ⟨by decide, by decide⟩, by decide +kernel⟩, wqG50 (i := 18) rfl rfl⟩
theorem fX10_write : MFV mX10_write 1 := ⟨⟨wqG48 (i := 10) rfl rfl, wqG2 (i := 15) rfl rfl, ⟨by decide, by decide⟩, by decide +kernel⟩, wqG48 (i := 8) rfl rfl, wqG48 (i := 9) rfl rfl⟩
theorem fX10_wipe : MFV mX10_wipe 0 := ⟨⟨wqG48 (i := 19) rfl rfl, wqG2 (i := 15) rfl rfl, ⟨by decide, by decide⟩, by decide +kernel⟩, wqG48 (i := 17) rfl rfl, wqG48 (i := 18) rfl rfl⟩
theorem fX10_readNumber : MFV mX10_readNumber 1 := ⟨⟨wqG49 (i := 15) rfl rfl, wqG2 (i := 15) rfl rfl, ⟨by decide, by decide⟩, by decide +kernel⟩, wqG49 (i := 14) rfl rfl, wqG0 (i := 17) rfl rfl⟩
theorem fX10_readNumbers : MFV mX10_readNumbers 1 := ⟨⟨wqG49 (i := 11) rfl rfl, wqG2 (i := 15) rfl rfl, ⟨by decide, by decide⟩, by decide +kernel⟩, wqG49 (i := 10) rfl rfl, wqG0 (i := 16) rfl rfl⟩
theorem fX10_readItem : MFV mX10_readItem 0 := ⟨⟨wqG49 (i := 7) rfl rfl, wqG2 (i := 15) rfl rfl, ⟨by decide, by decide⟩, by decide +kernel⟩, wqG49 (i := 6) rfl rfl, wqG0 (i := 15) rfl rfl⟩
theorem fX10_fault : MFV mX10_fault 0 := ⟨⟨wqG49 (i := 3) rfl rfl, wqG2 (i := 15) rfl rfl, ⟨by decide, by decide⟩, by decide +kernel⟩, wqG49 (i := 1) rfl rfl, wqG49 (i := 2) rfl rfl⟩
theorem fX10_lay : MFV mX10_lay 0 := ⟨⟨wqG50 (i := 7) rfl rfl, wqG2 (i := 15) rfl rfl, ⟨by decide, by decide⟩, by decide +kernel⟩, wqG50 (i := 5) rfl rfl, wqG50 (i := 6) rfl rfl⟩
theorem fX10_lengthOn : MFV mX10_lengthOn 2 := ⟨⟨wqG51 (i := 3) rfl rfl, wqG2 (i := 15) rfl rfl, ⟨by decide, by decide⟩, by decide +kernel⟩, wqG51 (i := 2) rfl rfl, wqG0 (i := 19) rfl rfl⟩
theorem fX10_bed : MFV mX10_bed 2 := ⟨⟨wqG50 (i := 12) rfl rfl, wqG2 (i := 15) rfl rfl, ⟨by decide, by decide⟩, by decide +kernel⟩, wqG50 (i := 10) rfl rfl, wqG50 (i := 11) rfl rfl⟩
theorem fX10_inchesOn : MFV mX10_inchesOn 2 := ⟨⟨wqG52 (i := 4) rfl rfl, wqG2 (i := 15) rfl rfl, ⟨by decide, by decide⟩, by decide +kernel⟩, wqG52 (i := 3) rfl rfl, wqG1 (i := 2) rfl rfl⟩
theorem fX10_harmBy : MFV mX10_harmBy 2 := ⟨⟨wqG52 (i := 8) rfl rfl, wqG2 (i := 15) rfl rfl, ⟨by decide, by decide⟩, by decide +kernel⟩, wqG52 (i := 7) rfl rfl, wqG1 (i := 3) rfl rfl⟩
theorem fX10_harmOf : MFV mX10_harmOf 3 := ⟨⟨wqG52 (i := 0) rfl rfl, wqG2 (i := 15) rfl rfl, ⟨by decide, by decide⟩, by decide +kernel⟩, wqG51 (i := 19) rfl rfl, wqG1 (i := 1) rfl rfl⟩
theorem fX10_harm : MFV mX10_harm 3 := ⟨⟨wqG51 (i := 12) rfl rfl, wqG2 (i := 15) rfl rfl, ⟨by decide, by decide⟩, by decide +kernel⟩, wqG51 (i := 10) rfl rfl, wqG51 (i := 11) rfl rfl⟩
theorem fX10_placeOf : MFV mX10_placeOf 1 := ⟨⟨wqG52 (i := 16) rfl rfl, wqG2 (i := 15) rfl rfl, ⟨by decide, by decide⟩, by decide +kernel⟩, wqG52 (i := 15) rfl rfl, wqG1 (i := 4) rfl rfl⟩
theorem fX10_guest : MFV mX10_guest 2 := ⟨⟨wqG52 (i := 12) rfl rfl, wqG2 (i := 15) rfl rfl, ⟨by decide, by decide⟩, by decide +kernel⟩, wqG52 (i := 10) rfl rfl, wqG52 (i := 11) rfl rfl⟩
theorem fX10_isWaiting : MFV mX10_isWaiting 2 := ⟨⟨wqG53 (i := 12) rfl rfl, wqG2 (i := 15) rfl rfl, ⟨by decide, by decide⟩, by decide +kernel⟩, wqG53 (i := 11) rfl rfl, wqG1 (i := 7) rfl rfl⟩
theorem fX10_lieDown : MFV mX10_lieDown 4 := ⟨⟨wqG53 (i := 19) rfl rfl, wqG2 (i := 15) rfl rfl, ⟨by decide, by decide⟩, by decide +kernel⟩, wqG53 (i := 18) rfl rfl, wqG1 (i := 8) rfl rfl⟩
theorem fX10_give : MFV mX10_give 2 := ⟨⟨wqG53 (i := 8) rfl rfl, wqG2 (i := 15) rfl rfl, ⟨by decide, by decide⟩, by decide +kernel⟩, wqG53 (i := 7) rfl rfl, wqG1 (i := 6) rfl rfl⟩
theorem fX10_stay : MFV mX10_stay 1 := ⟨⟨wqG53 (i := 4) rfl rfl, wqG2 (i := 15) rfl rfl, ⟨by decide, by decide⟩, by decide +kernel⟩, wqG53 (i := 3) rfl rfl, wqG1 (i := 5) rfl rfl⟩
theorem fX10_lies : MFV mX10_lies 2 := ⟨⟨wqG53 (i := 0) rfl rfl, wqG2 (i := 15) rfl rfl, ⟨by decide, by decide⟩, by decide +kernel⟩, wqG52 (i := 18) rfl rfl, wqG52 (i := 19) rfl rfl⟩
theorem fX10_who : MFV mX10_who 2 := ⟨⟨wqG54 (i := 3) rfl rfl, wqG2 (i := 15) rfl rfl, ⟨by decide, by decide⟩, by decide +kernel⟩, wqG54 (i := 1) rfl rfl, wqG54 (i := 2) rfl rfl⟩
theorem fX10_unharmed : MFV mX10_unharmed 0 := ⟨⟨wqG54 (i := 12) rfl rfl, wqG2 (i := 15) rfl rfl, ⟨by decide, by decide⟩, by decide +kernel⟩, wqG54 (i := 11) rfl rfl, wqG1 (i := 9) rfl rfl⟩
theorem fX10_all : MFV mX10_all 1 := ⟨⟨wqG54 (i := 7) rfl rfl, wqG2 (i := 15) rfl rfl, ⟨by decide, by decide⟩, by decide +kernel⟩, wqG54 (i := 5) rfl rfl, wqG54 (i := 6) rfl rfl⟩
theorem fX10_note : MFV mX10_note 0 := ⟨⟨wqG55 (i := 0) rfl rfl, wqG2 (i := 15) rfl rfl, ⟨by decide, by decide⟩, by decide +kernel⟩, wqG54 (i := 19) rfl rfl, wqG1 (i := 10) rfl rfl⟩
theorem fX10_move : MFV mX10_move 2 := ⟨⟨wqG54 (i := 16) rfl rfl, wqG2 (i := 15) rfl rfl, ⟨by decide, by decide⟩, by decide +kernel⟩, wqG54 (i := 14) rfl rfl, wqG54 (i := 15) rfl rfl⟩
theorem fX10_wear : MFV mX10_wear 2 := ⟨⟨wqG55 (i := 4) rfl rfl, wqG2 (i := 15) rfl rfl, ⟨by decide, by decide⟩, by decide +kernel⟩, wqG55 (i := 2) rfl rfl, wqG55 (i := 3) rfl rfl⟩
theorem fX10_come : MFV mX10_come 2 := ⟨⟨wqG55 (i := 9) rfl rfl, wqG2 (i := 15) rfl rfl, ⟨by decide, by decide⟩, by decide +kernel⟩, wqG55 (i := 7) rfl rfl, wqG55 (i := 8) rfl rfl⟩
theorem fX10_undo : MFV mX10_undo 0 := ⟨⟨wqG55 (i := 13) rfl rfl, wqG2 (i := 15) rfl rfl, ⟨by decide, by decide⟩, by decide +kernel⟩, wqG55 (i := 11) rfl rfl, wqG55 (i := 12) rfl rfl⟩
theorem fX10_nextRow : MFV mX10_nextRow 0 := ⟨⟨wqG56 (i := 2) rfl rfl, wqG2 (i := 15) rfl rfl, ⟨by decide, by decide⟩, by decide +kernel⟩, wqG56 (i := 1) rfl rfl, wqG1 (i := 11) rfl rfl⟩
theorem fX10_exchange : MFV mX10_exchange 2 := ⟨⟨wqG56 (i := 6) rfl rfl, wqG2 (i := 15) rfl rfl, ⟨by decide, by decide⟩, by decide +kernel⟩, wqG56 (i := 5) rfl rfl, wqG1 (i := 12) rfl rfl⟩
theorem fX10_order : MFV mX10_order 1 := ⟨⟨wqG55 (i := 17) rfl rfl, wqG2 (i := 15) rfl rfl, ⟨by decide, by decide⟩, by decide +kernel⟩, wqG55 (i := 15) rfl rfl, wqG55 (i := 16) rfl rfl⟩
theorem fX10_cushion : MFV mX10_cushion 1 := ⟨⟨wqG56 (i := 10) rfl rfl, wqG2 (i := 15) rfl rfl, ⟨by decide, by decide⟩, by decide +kernel⟩, wqG56 (i := 8) rfl rfl, wqG56 (i := 9) rfl rfl⟩
theorem fX10_length : MFV mX10_length 2 := ⟨⟨wqG56 (i := 14) rfl rfl, wqG2 (i := 15) rfl rfl, ⟨by decide, by decide⟩, by decide +kernel⟩, wqG56 (i := 12) rfl rfl, wqG56 (i := 13) rfl rfl⟩
theorem fX10_law : MFV mX10_law 0 := ⟨⟨wqG56 (i := 18) rfl rfl, wqG2 (i := 15) rfl rfl, ⟨by decide, by decide⟩, by decide +kernel⟩, wqG56 (i := 16) rfl rfl, wqG56 (i := 17) rfl rfl⟩
theorem fX10_pairs : MFV mX10_pairs 1 := ⟨⟨wqG57 (i := 2) rfl rfl, wqG2 (i := 15) rfl rfl, ⟨by decide, by decide⟩, by decide +kernel⟩, wqG57 (i := 0) rfl rfl, wqG57 (i := 1) rfl rfl⟩
theorem fX10_later : MFV mX10_later 2 := ⟨⟨wqG57 (i := 6) rfl rfl, wqG2 (i := 15) rfl rfl, ⟨by decide, by decide⟩, by decide +kernel⟩, wqG57 (i := 4) rfl rfl, wqG57 (i := 5) rfl rfl⟩
theorem fX10_rival : MFV mX10_rival 0 := ⟨⟨wqG57 (i := 10) rfl rfl, wqG2 (i := 15) rfl rfl, ⟨by decide, by decide⟩, by decide +kernel⟩, wqG57 (i := 8) rfl rfl, wqG57 (i := 9) rfl rfl⟩
theorem fX10_fewest : MFV mX10_fewest 1 := ⟨⟨wqG57 (i := 14) rfl rfl, wqG2 (i := 15) rfl rfl, ⟨by decide, by decide⟩, by decide +kernel⟩, wqG57 (i := 12) rfl rfl, wqG57 (i := 13) rfl rfl⟩
theorem fX10_turned : MFV mX10_turned 0 := ⟨⟨wqG57 (i := 18) rfl rfl, wqG2 (i := 15) rfl rfl, ⟨by decide, by decide⟩, by decide +kernel⟩, wqG57 (i := 16) rfl rfl, wqG57 (i := 17) rfl rfl⟩
theorem fX10_left : MFV mX10_left 3 := ⟨⟨wqG58 (i := 2) rfl rfl, wqG2 (i := 15) rfl rfl, ⟨by decide, by decide⟩, by decide +kernel⟩, wqG58 (i := 0) rfl rfl, wqG58 (i := 1) rfl rfl⟩
theorem fX10_sweep : MFV mX10_sweep 0 := ⟨⟨wqG58 (i := 6) rfl rfl, wqG2 (i := 15) rfl rfl, ⟨by decide, by decide⟩, by decide +kernel⟩, wqG58 (i := 4) rfl rfl, wqG58 (i := 5) rfl rfl⟩
theorem fX10_sleptBy : MFV mX10_sleptBy 1 := ⟨⟨wqG58 (i := 14) rfl rfl, wqG2 (i := 15) rfl rfl, ⟨by decide, by decide⟩, by decide +kernel⟩, wqG58 (i := 13) rfl rfl, wqG1 (i := 13) rfl rfl⟩
theorem fX10_slept : MFV mX10_slept 1 := ⟨⟨wqG58 (i := 10) rfl rfl, wqG2 (i := 15) rfl rfl, ⟨by decide, by decide⟩, by decide +kernel⟩, wqG58 (i := 8) rfl rfl, wqG58 (i := 9) rfl rfl⟩
theorem fX10_waysWith : MFV mX10_waysWith 2 := ⟨⟨wqG59 (i := 2) rfl rfl, wqG2 (i := 15) rfl rfl, ⟨by decide, by decide⟩, by decide +kernel⟩, wqG59 (i := 1) rfl rfl, wqG1 (i := 14) rfl rfl⟩
theorem fX10_sure : MFV mX10_sure 1 := ⟨⟨wqG58 (i := 18) rfl rfl, wqG2 (i := 15) rfl rfl, ⟨by decide, by decide⟩, by decide +kernel⟩, wqG58 (i := 16) rfl rfl, wqG58 (i := 17) rfl rfl⟩
theorem fX10_found : MFV mX10_found 2 := ⟨⟨wqG59 (i := 6) rfl rfl, wqG2 (i := 15) rfl rfl, ⟨by decide, by decide⟩, by decide +kernel⟩, wqG59 (i := 4) rfl rfl, wqG59 (i := 5) rfl rfl⟩
theorem fX10_year : MFV mX10_year 2 := ⟨⟨wqG59 (i := 11) rfl rfl, wqG2 (i := 15) rfl rfl, ⟨by decide, by decide⟩, by decide +kernel⟩, wqG59 (i := 9) rfl rfl, wqG59 (i := 10) rfl rfl⟩
theorem fX10_keep : MFV mX10_keep 0 := ⟨⟨wqG59 (i := 16) rfl rfl, wqG2 (i := 15) rfl rfl, ⟨by decide, by decide⟩, by decide +kernel⟩, wqG59 (i := 14) rfl rfl, wqG59 (i := 15) rfl rfl⟩
theorem fX10_back : MFV mX10_back 0 := ⟨⟨wqG60 (i := 0) rfl rfl, wqG2 (i := 15) rfl rfl, ⟨by decide, by decide⟩, by decide +kernel⟩, wqG59 (i := 18) rfl rfl, wqG59 (i := 19) rfl rfl⟩
theorem fX10_count : MFV mX10_count 1 := ⟨⟨wqG60 (i := 4) rfl rfl, wqG2 (i := 15) rfl rfl, ⟨by decide, by decide⟩, by decide +kernel⟩, wqG60 (i := 2) rfl rfl, wqG60 (i := 3) rfl rfl⟩
theorem fJ6_bitCount_0f7a4 : MFS mJ6_bitCount_0f7a4 1 := ⟨⟨wqG30 (i := 3) rfl rfl, wqG2 (i := 17) rfl rfl, ⟨by decide, by decide⟩, by decide +kernel⟩, wqG30 (i := 2) rfl rfl⟩
theorem fJ9_abs_0f7a4 : MFS mJ9_abs_0f7a4 1 := ⟨⟨wqG40 (i := 1) rfl rfl, wqG2 (i := 16) rfl rfl, ⟨by decide, by decide⟩, by decide +kernel⟩, wqG40 (i := 0) rfl rfl⟩
theorem fJ9_max_7cf53 : MFS mJ9_max_7cf53 2 := ⟨⟨wqG27 (i := 0) rfl rfl, wqG2 (i := 16) rfl rfl, ⟨by decide, by decide⟩, by decide +kernel⟩, wqG26 (i := 19) rfl rfl⟩
theorem fJ9_min_7cf53 : MFS mJ9_min_7cf53 2 := ⟨⟨wqG36 (i := 15) rfl rfl, wqG2 (i := 16) rfl rfl, ⟨by decide, by decide⟩, by decide +kernel⟩, wqG36 (i := 14) rfl rfl⟩
theorem inG0 : ∀ w ∈ u_ws RX0 TX0 7, w ∈ GW := by
  show ∀ w ∈ ([.laysFinal RX0 "BedsThatFit$Beds" "lengths" "[I", .laysFinal RX0 "BedsThatFit$Beds" "longer" "[I", .lays RX0 "BedsThatFit$Beds" "size" "I", .lays RX0 "BedsThatFit$Beds" "feasts" "I", .lays RX0 "BedsThatFit$Beds" "open" "I", .lays RX0 "BedsThatFit$Beds" "turning" "Z", .lays RX0 "BedsThatFit$Beds" "year" "I"] : List Cond), w ∈ GW
  exact List.forall_mem_cons.mpr ⟨wqG12 (i := 1) rfl rfl, List.forall_mem_cons.mpr ⟨wqG12 (i := 3) rfl rfl, List.forall_mem_cons.mpr ⟨wqG12 (i := 5) rfl rfl, List.forall_mem_cons.mpr ⟨wqG12 (i := 7) rfl rfl, List.forall_mem_cons.mpr ⟨wqG12 (i := 9) rfl rfl, List.forall_mem_cons.mpr ⟨wqG12 (i := 11) rfl rfl, List.forall_mem_cons.mpr ⟨wqG12 (i := 13) rfl rfl, fun _ h => absurd h List.not_mem_nil⟩⟩⟩⟩⟩⟩⟩
theorem inG1 : ∀ w ∈ u_ws RX1 TX1 4, w ∈ GW := by
  show ∀ w ∈ ([.laysFinal RX1 "BedsThatFit$Changes" "whats" "[I", .laysFinal RX1 "BedsThatFit$Changes" "guests" "[I", .laysFinal RX1 "BedsThatFit$Changes" "olds" "[I", .lays RX1 "BedsThatFit$Changes" "size" "I"] : List Cond), w ∈ GW
  exact List.forall_mem_cons.mpr ⟨wqG6 (i := 18) rfl rfl, List.forall_mem_cons.mpr ⟨wqG7 (i := 0) rfl rfl, List.forall_mem_cons.mpr ⟨wqG7 (i := 2) rfl rfl, List.forall_mem_cons.mpr ⟨wqG7 (i := 4) rfl rfl, fun _ h => absurd h List.not_mem_nil⟩⟩⟩⟩
theorem inG2 : ∀ w ∈ u_ws RX2 TX2 5, w ∈ GW := by
  show ∀ w ∈ ([.laysFinal RX2 "BedsThatFit$Inn" "beds" "LBedsThatFit$Beds;", .laysFinal RX2 "BedsThatFit$Inn" "party" "LBedsThatFit$Party;", .laysFinal RX2 "BedsThatFit$Inn" "rivalLengths" "[I", .lays RX2 "BedsThatFit$Inn" "rivals" "I", .lays RX2 "BedsThatFit$Inn" "law" "I"] : List Cond), w ∈ GW
  exact List.forall_mem_cons.mpr ⟨wqG15 (i := 17) rfl rfl, List.forall_mem_cons.mpr ⟨wqG15 (i := 19) rfl rfl, List.forall_mem_cons.mpr ⟨wqG16 (i := 1) rfl rfl, List.forall_mem_cons.mpr ⟨wqG16 (i := 3) rfl rfl, List.forall_mem_cons.mpr ⟨wqG16 (i := 5) rfl rfl, fun _ h => absurd h List.not_mem_nil⟩⟩⟩⟩⟩
theorem inG3 : ∀ w ∈ u_ws RX3 TX3 8, w ∈ GW := by
  show ∀ w ∈ ([.laysFinal RX3 "BedsThatFit$Nights" "night" "[I", .laysFinal RX3 "BedsThatFit$Nights" "place" "[I", .laysFinal RX3 "BedsThatFit$Nights" "harms" "[I", .laysFinal RX3 "BedsThatFit$Nights" "namer" "[I", .laysFinal RX3 "BedsThatFit$Nights" "calls" "[I", .lays RX3 "BedsThatFit$Nights" "lain" "I", .lays RX3 "BedsThatFit$Nights" "sum" "I", .lays RX3 "BedsThatFit$Nights" "deepest" "I"] : List Cond), w ∈ GW
  exact List.forall_mem_cons.mpr ⟨wqG5 (i := 10) rfl rfl, List.forall_mem_cons.mpr ⟨wqG5 (i := 12) rfl rfl, List.forall_mem_cons.mpr ⟨wqG5 (i := 14) rfl rfl, List.forall_mem_cons.mpr ⟨wqG5 (i := 16) rfl rfl, List.forall_mem_cons.mpr ⟨wqG5 (i := 18) rfl rfl, List.forall_mem_cons.mpr ⟨wqG6 (i := 0) rfl rfl, List.forall_mem_cons.mpr ⟨wqG6 (i := 2) rfl rfl, List.forall_mem_cons.mpr ⟨wqG6 (i := 4) rfl rfl, fun _ h => absurd h List.not_mem_nil⟩⟩⟩⟩⟩⟩⟩⟩
theorem inG4 : ∀ w ∈ u_ws RX4 TX4 4, w ∈ GW := by
  show ∀ w ∈ ([.laysFinal RX4 "BedsThatFit$Orders" "row" "[I", .laysFinal RX4 "BedsThatFit$Orders" "asIs" "[I", .lays RX4 "BedsThatFit$Orders" "least" "I", .lays RX4 "BedsThatFit$Orders" "known" "Z"] : List Cond), w ∈ GW
  exact List.forall_mem_cons.mpr ⟨wqG10 (i := 5) rfl rfl, List.forall_mem_cons.mpr ⟨wqG10 (i := 7) rfl rfl, List.forall_mem_cons.mpr ⟨wqG10 (i := 9) rfl rfl, List.forall_mem_cons.mpr ⟨wqG10 (i := 11) rfl rfl, fun _ h => absurd h List.not_mem_nil⟩⟩⟩⟩
theorem inG5 : ∀ w ∈ u_ws RX5 TX5 7, w ∈ GW := by
  show ∀ w ∈ ([.laysFinal RX5 "BedsThatFit$Party" "inches" "[I", .laysFinal RX5 "BedsThatFit$Party" "comes" "[I", .laysFinal RX5 "BedsThatFit$Party" "kinds" "[I", .laysFinal RX5 "BedsThatFit$Party" "friends" "[I", .laysFinal RX5 "BedsThatFit$Party" "worn" "[I", .laysFinal RX5 "BedsThatFit$Party" "row" "[I", .lays RX5 "BedsThatFit$Party" "size" "I"] : List Cond), w ∈ GW
  exact List.forall_mem_cons.mpr ⟨wqG14 (i := 8) rfl rfl, List.forall_mem_cons.mpr ⟨wqG14 (i := 10) rfl rfl, List.forall_mem_cons.mpr ⟨wqG14 (i := 12) rfl rfl, List.forall_mem_cons.mpr ⟨wqG14 (i := 14) rfl rfl, List.forall_mem_cons.mpr ⟨wqG14 (i := 16) rfl rfl, List.forall_mem_cons.mpr ⟨wqG14 (i := 18) rfl rfl, List.forall_mem_cons.mpr ⟨wqG15 (i := 0) rfl rfl, fun _ h => absurd h List.not_mem_nil⟩⟩⟩⟩⟩⟩⟩
theorem inG6 : ∀ w ∈ u_ws RX6 TX6 5, w ∈ GW := by
  show ∀ w ∈ ([.laysFinal RX6 "BedsThatFit$Remains" "beds" "[I", .laysFinal RX6 "BedsThatFit$Remains" "nights" "[I", .laysFinal RX6 "BedsThatFit$Remains" "harms" "[I", .laysFinal RX6 "BedsThatFit$Remains" "waysBySet" "[I", .lays RX6 "BedsThatFit$Remains" "size" "I"] : List Cond), w ∈ GW
  exact List.forall_mem_cons.mpr ⟨wqG9 (i := 1) rfl rfl, List.forall_mem_cons.mpr ⟨wqG9 (i := 3) rfl rfl, List.forall_mem_cons.mpr ⟨wqG9 (i := 5) rfl rfl, List.forall_mem_cons.mpr ⟨wqG9 (i := 7) rfl rfl, List.forall_mem_cons.mpr ⟨wqG9 (i := 9) rfl rfl, fun _ h => absurd h List.not_mem_nil⟩⟩⟩⟩⟩
theorem inG7 : ∀ w ∈ u_ws RX7 TX7 4, w ∈ GW := by
  show ∀ w ∈ ([.laysFinal RX7 "BedsThatFit$Script" "letters" "[C", .laysFinal RX7 "BedsThatFit$Script" "numbers" "[I", .lays RX7 "BedsThatFit$Script" "size" "I", .lays RX7 "BedsThatFit$Script" "told" "I"] : List Cond), w ∈ GW
  exact List.forall_mem_cons.mpr ⟨wqG3 (i := 18) rfl rfl, List.forall_mem_cons.mpr ⟨wqG4 (i := 0) rfl rfl, List.forall_mem_cons.mpr ⟨wqG4 (i := 2) rfl rfl, List.forall_mem_cons.mpr ⟨wqG4 (i := 4) rfl rfl, fun _ h => absurd h List.not_mem_nil⟩⟩⟩⟩
theorem inG8 : ∀ w ∈ u_ws RX8 TX8 4, w ∈ GW := by
  show ∀ w ∈ ([.laysFinal RX8 "BedsThatFit$Shelf" "rows" "[[I", .laysFinal RX8 "BedsThatFit$Shelf" "worn" "[[I", .laysFinal RX8 "BedsThatFit$Shelf" "comes" "[[I", .lays RX8 "BedsThatFit$Shelf" "size" "I"] : List Cond), w ∈ GW
  exact List.forall_mem_cons.mpr ⟨wqG8 (i := 0) rfl rfl, List.forall_mem_cons.mpr ⟨wqG8 (i := 2) rfl rfl, List.forall_mem_cons.mpr ⟨wqG8 (i := 4) rfl rfl, List.forall_mem_cons.mpr ⟨wqG8 (i := 6) rfl rfl, fun _ h => absurd h List.not_mem_nil⟩⟩⟩⟩
theorem inG9 : ∀ w ∈ u_ws RX9 TX9 9, w ∈ GW := by
  show ∀ w ∈ ([.laysFinal RX9 "BedsThatFit" "script" "LBedsThatFit$Script;", .laysFinal RX9 "BedsThatFit" "nights" "LBedsThatFit$Nights;", .laysFinal RX9 "BedsThatFit" "changes" "LBedsThatFit$Changes;", .laysFinal RX9 "BedsThatFit" "shelf" "LBedsThatFit$Shelf;", .laysFinal RX9 "BedsThatFit" "remains" "LBedsThatFit$Remains;", .laysFinal RX9 "BedsThatFit" "orders" "LBedsThatFit$Orders;", .laysFinal RX9 "BedsThatFit" "harmsNow" "[I", .lays RX9 "BedsThatFit" "inn" "LBedsThatFit$Inn;", .lays RX9 "BedsThatFit" "draft" "LBedsThatFit$Inn;"] : List Cond), w ∈ GW
  exact List.forall_mem_cons.mpr ⟨wqG22 (i := 18) rfl rfl, List.forall_mem_cons.mpr ⟨wqG23 (i := 0) rfl rfl, List.forall_mem_cons.mpr ⟨wqG23 (i := 2) rfl rfl, List.forall_mem_cons.mpr ⟨wqG23 (i := 4) rfl rfl, List.forall_mem_cons.mpr ⟨wqG23 (i := 6) rfl rfl, List.forall_mem_cons.mpr ⟨wqG23 (i := 8) rfl rfl, List.forall_mem_cons.mpr ⟨wqG23 (i := 10) rfl rfl, List.forall_mem_cons.mpr ⟨wqG23 (i := 12) rfl rfl, List.forall_mem_cons.mpr ⟨wqG23 (i := 14) rfl rfl, fun _ h => absurd h List.not_mem_nil⟩⟩⟩⟩⟩⟩⟩⟩⟩
theorem inG10 : ∀ w ∈ u_ws RX10 TX10 44, w ∈ GW := by
  show ∀ w ∈ ([.laysFinal RX10 "BedsThatFitModel" "lengths" "[I", .lays RX10 "BedsThatFitModel" "beds" "I", .laysFinal RX10 "BedsThatFitModel" "feasts" "[I", .lays RX10 "BedsThatFitModel" "feastMany" "I", .laysFinal RX10 "BedsThatFitModel" "inches" "[I", .laysFinal RX10 "BedsThatFitModel" "kinds" "[I", .laysFinal RX10 "BedsThatFitModel" "friends" "[I", .lays RX10 "BedsThatFitModel" "guests" "I", .laysFinal RX10 "BedsThatFitModel" "rivals" "[I", .lays RX10 "BedsThatFitModel" "rivalMany" "I", .lays RX10 "BedsThatFitModel" "law" "I", .laysFinal RX10 "BedsThatFitModel" "st" "[I", .laysFinal RX10 "BedsThatFitModel" "text" "[I", .lays RX10 "BedsThatFitModel" "many" "I", .lays RX10 "BedsThatFitModel" "place" "I", .lays RX10 "BedsThatFitModel" "numbers" "I", .laysFinal RX10 "BedsThatFitModel" "number" "[I", .laysFinal RX10 "BedsThatFitModel" "readBeds" "[I", .lays RX10 "BedsThatFitModel" "readBedMany" "I", .laysFinal RX10 "BedsThatFitModel" "readFeasts" "[I", .lays RX10 "BedsThatFitModel" "readFeastMany" "I", .laysFinal RX10 "BedsThatFitModel" "readGuests" "[I", .laysFinal RX10 "BedsThatFitModel" "readFriends" "[I", .lays RX10 "BedsThatFitModel" "readGuestMany" "I", .laysFinal RX10 "BedsThatFitModel" "readRivals" "[I", .lays RX10 "BedsThatFitModel" "readRivalMany" "I", .lays RX10 "BedsThatFitModel" "readLaw" "I", .lays RX10 "BedsThatFitModel" "isTurned" "Z", .lays RX10 "BedsThatFitModel" "yearNow" "I", .laysFinal RX10 "BedsThatFitModel" "nights" "[I", .laysFinal RX10 "BedsThatFitModel" "where" "[I", .laysFinal RX10 "BedsThatFitModel" "harms" "[I", .laysFinal RX10 "BedsThatFitModel" "namers" "[I", .laysFinal RX10 "BedsThatFitModel" "calls" "[I", .laysFinal RX10 "BedsThatFitModel" "ahead" "[I", .lays RX10 "BedsThatFitModel" "undoMany" "I", .laysFinal RX10 "BedsThatFitModel" "had" "[I", .laysFinal RX10 "BedsThatFitModel" "bestRow" "[I", .laysFinal RX10 "BedsThatFitModel" "lefts" "[I", .lays RX10 "BedsThatFitModel" "leftMany" "I", .laysFinal RX10 "BedsThatFitModel" "ways" "[I", .laysFinal RX10 "BedsThatFitModel" "then" "[I", .laysFinal RX10 "BedsThatFitModel" "kept" "[I", .lays RX10 "BedsThatFitModel" "keptMany" "I"] : List Cond), w ∈ GW
  exact List.forall_mem_cons.mpr ⟨wqG43 (i := 18) rfl rfl, List.forall_mem_cons.mpr ⟨wqG44 (i := 0) rfl rfl, List.forall_mem_cons.mpr ⟨wqG44 (i := 2) rfl rfl, List.forall_mem_cons.mpr ⟨wqG44 (i := 4) rfl rfl, List.forall_mem_cons.mpr ⟨wqG44 (i := 6) rfl rfl, List.forall_mem_cons.mpr ⟨wqG44 (i := 8) rfl rfl, List.forall_mem_cons.mpr ⟨wqG44 (i := 10) rfl rfl, List.forall_mem_cons.mpr ⟨wqG44 (i := 12) rfl rfl, List.forall_mem_cons.mpr ⟨wqG44 (i := 14) rfl rfl, List.forall_mem_cons.mpr ⟨wqG44 (i := 16) rfl rfl, List.forall_mem_cons.mpr ⟨wqG44 (i := 18) rfl rfl, List.forall_mem_cons.mpr ⟨wqG45 (i := 0) rfl rfl, List.forall_mem_cons.mpr ⟨wqG45 (i := 2) rfl rfl, List.forall_mem_cons.mpr ⟨wqG45 (i := 4) rfl rfl, List.forall_mem_cons.mpr ⟨wqG45 (i := 6) rfl rfl, List.forall_mem_cons.mpr ⟨wqG45 (i := 8) rfl rfl, List.forall_mem_cons.mpr ⟨wqG45 (i := 10) rfl rfl, List.forall_mem_cons.mpr ⟨wqG45 (i := 12) rfl rfl, List.forall_mem_cons.mpr ⟨wqG45 (i := 14) rfl rfl, List.forall_mem_cons.mpr ⟨wqG45 (i := 16) rfl rfl, List.forall_mem_cons.mpr ⟨wqG45 (i := 18) rfl rfl, List.forall_mem_cons.mpr ⟨wqG46 (i := 0) rfl rfl, List.forall_mem_cons.mpr ⟨wqG46 (i := 2) rfl rfl, List.forall_mem_cons.mpr ⟨wqG46 (i := 4) rfl rfl, List.forall_mem_cons.mpr ⟨wqG46 (i := 6) rfl rfl, List.forall_mem_cons.mpr ⟨wqG46 (i := 8) rfl rfl, List.forall_mem_cons.mpr ⟨wqG46 (i := 10) rfl rfl, List.forall_mem_cons.mpr ⟨wqG46 (i := 12) rfl rfl, List.forall_mem_cons.mpr ⟨wqG46 (i := 14) rfl rfl, List.forall_mem_cons.mpr ⟨wqG46 (i := 16) rfl rfl, List.forall_mem_cons.mpr ⟨wqG46 (i := 18) rfl rfl, List.forall_mem_cons.mpr ⟨wqG47 (i := 0) rfl rfl, List.forall_mem_cons.mpr ⟨wqG47 (i := 2) rfl rfl, List.forall_mem_cons.mpr ⟨wqG47 (i := 4) rfl rfl, List.forall_mem_cons.mpr ⟨wqG47 (i := 6) rfl rfl, List.forall_mem_cons.mpr ⟨wqG47 (i := 8) rfl rfl, List.forall_mem_cons.mpr ⟨wqG47 (i := 10) rfl rfl, List.forall_mem_cons.mpr ⟨wqG47 (i := 12) rfl rfl, List.forall_mem_cons.mpr ⟨wqG47 (i := 14) rfl rfl, List.forall_mem_cons.mpr ⟨wqG47 (i := 16) rfl rfl, List.forall_mem_cons.mpr ⟨wqG47 (i := 18) rfl rfl, List.forall_mem_cons.mpr ⟨wqG48 (i := 0) rfl rfl, List.forall_mem_cons.mpr ⟨wqG48 (i := 2) rfl rfl, List.forall_mem_cons.mpr ⟨wqG48 (i := 4) rfl rfl, fun _ h => absurd h List.not_mem_nil⟩⟩⟩⟩⟩⟩⟩⟩⟩⟩⟩⟩⟩⟩⟩⟩⟩⟩⟩⟩⟩⟩⟩⟩⟩⟩⟩⟩⟩⟩⟩⟩⟩⟩⟩⟩⟩⟩⟩⟩⟩⟩⟩⟩
theorem flRX7_9 : FL RX7 9 7 4 0 true (.array .char) := ⟨RX7, TX7, by decide, rfl, by decide, inG7, wqG3 (i := 13) rfl rfl, tyX7_ok, nmX7, rfl, rfl⟩
theorem flRX7_15 : FL RX7 15 7 4 1 true (.array .int) := ⟨RX7, TX7, by decide, rfl, by decide, inG7, wqG3 (i := 14) rfl rfl, tyX7_ok, nmX7, rfl, rfl⟩
theorem flRX9_85 : FL RX9 85 7 4 2 false (.int) := ⟨RX7, TX7, by decide, rfl, by decide, inG7, wqG3 (i := 15) rfl rfl, tyX7_ok, nmX7, rfl, rfl⟩
theorem flRX7_19 : FL RX7 19 7 4 2 false (.int) := ⟨RX7, TX7, by decide, rfl, by decide, inG7, wqG3 (i := 16) rfl rfl, tyX7_ok, nmX7, rfl, rfl⟩
theorem flRX7_35 : FL RX7 35 7 4 3 false (.int) := ⟨RX7, TX7, by decide, rfl, by decide, inG7, wqG3 (i := 17) rfl rfl, tyX7_ok, nmX7, rfl, rfl⟩
theorem flRX3_9 : FL RX3 9 3 8 0 true (.array .int) := ⟨RX3, TX3, by decide, rfl, by decide, inG3, wqG4 (i := 15) rfl rfl, tyX3_ok, nmX3, rfl, rfl⟩
theorem flRX9_160 : FL RX9 160 3 8 0 true (.array .int) := ⟨RX3, TX3, by decide, rfl, by decide, inG3, wqG4 (i := 16) rfl rfl, tyX3_ok, nmX3, rfl, rfl⟩
theorem flRX3_15 : FL RX3 15 3 8 1 true (.array .int) := ⟨RX3, TX3, by decide, rfl, by decide, inG3, wqG4 (i := 17) rfl rfl, tyX3_ok, nmX3, rfl, rfl⟩
theorem flRX9_163 : FL RX9 163 3 8 1 true (.array .int) := ⟨RX3, TX3, by decide, rfl, by decide, inG3, wqG4 (i := 18) rfl rfl, tyX3_ok, nmX3, rfl, rfl⟩
theorem flRX3_18 : FL RX3 18 3 8 2 true (.array .int) := ⟨RX3, TX3, by decide, rfl, by decide, inG3, wqG4 (i := 19) rfl rfl, tyX3_ok, nmX3, rfl, rfl⟩
theorem flRX9_166 : FL RX9 166 3 8 2 true (.array .int) := ⟨RX3, TX3, by decide, rfl, by decide, inG3, wqG5 (i := 0) rfl rfl, tyX3_ok, nmX3, rfl, rfl⟩
theorem flRX3_21 : FL RX3 21 3 8 3 true (.array .int) := ⟨RX3, TX3, by decide, rfl, by decide, inG3, wqG5 (i := 1) rfl rfl, tyX3_ok, nmX3, rfl, rfl⟩
theorem flRX9_169 : FL RX9 169 3 8 3 true (.array .int) := ⟨RX3, TX3, by decide, rfl, by decide, inG3, wqG5 (i := 2) rfl rfl, tyX3_ok, nmX3, rfl, rfl⟩
theorem flRX3_24 : FL RX3 24 3 8 4 true (.array .int) := ⟨RX3, TX3, by decide, rfl, by decide, inG3, wqG5 (i := 3) rfl rfl, tyX3_ok, nmX3, rfl, rfl⟩
theorem flRX9_172 : FL RX9 172 3 8 4 true (.array .int) := ⟨RX3, TX3, by decide, rfl, by decide, inG3, wqG5 (i := 4) rfl rfl, tyX3_ok, nmX3, rfl, rfl⟩
theorem flRX3_27 : FL RX3 27 3 8 5 false (.int) := ⟨RX3, TX3, by decide, rfl, by decide, inG3, wqG5 (i := 5) rfl rfl, tyX3_ok, nmX3, rfl, rfl⟩
theorem flRX9_179 : FL RX9 179 3 8 5 false (.int) := ⟨RX3, TX3, by decide, rfl, by decide, inG3, wqG5 (i := 6) rfl rfl, tyX3_ok, nmX3, rfl, rfl⟩
theorem flRX3_31 : FL RX3 31 3 8 6 false (.int) := ⟨RX3, TX3, by decide, rfl, by decide, inG3, wqG5 (i := 7) rfl rfl, tyX3_ok, nmX3, rfl, rfl⟩
theorem flRX3_34 : FL RX3 34 3 8 7 false (.int) := ⟨RX3, TX3, by decide, rfl, by decide, inG3, wqG5 (i := 8) rfl rfl, tyX3_ok, nmX3, rfl, rfl⟩
theorem flRX4_51 : FL RX4 51 3 8 7 false (.int) := ⟨RX3, TX3, by decide, rfl, by decide, inG3, wqG5 (i := 9) rfl rfl, tyX3_ok, nmX3, rfl, rfl⟩
theorem flRX1_9 : FL RX1 9 1 4 0 true (.array .int) := ⟨RX1, TX1, by decide, rfl, by decide, inG1, wqG6 (i := 13) rfl rfl, tyX1_ok, nmX1, rfl, rfl⟩
theorem flRX1_15 : FL RX1 15 1 4 1 true (.array .int) := ⟨RX1, TX1, by decide, rfl, by decide, inG1, wqG6 (i := 14) rfl rfl, tyX1_ok, nmX1, rfl, rfl⟩
theorem flRX1_18 : FL RX1 18 1 4 2 true (.array .int) := ⟨RX1, TX1, by decide, rfl, by decide, inG1, wqG6 (i := 15) rfl rfl, tyX1_ok, nmX1, rfl, rfl⟩
theorem flRX1_21 : FL RX1 21 1 4 3 false (.int) := ⟨RX1, TX1, by decide, rfl, by decide, inG1, wqG6 (i := 16) rfl rfl, tyX1_ok, nmX1, rfl, rfl⟩
theorem flRX9_97 : FL RX9 97 1 4 3 false (.int) := ⟨RX1, TX1, by decide, rfl, by decide, inG1, wqG6 (i := 17) rfl rfl, tyX1_ok, nmX1, rfl, rfl⟩
theorem flRX8_11 : FL RX8 11 8 4 0 true (.array (.array .int)) := ⟨RX8, TX8, by decide, rfl, by decide, inG8, wqG7 (i := 15) rfl rfl, tyX8_ok, nmX8, rfl, rfl⟩
theorem flRX8_16 : FL RX8 16 8 4 1 true (.array (.array .int)) := ⟨RX8, TX8, by decide, rfl, by decide, inG8, wqG7 (i := 16) rfl rfl, tyX8_ok, nmX8, rfl, rfl⟩
theorem flRX8_19 : FL RX8 19 8 4 2 true (.array (.array .int)) := ⟨RX8, TX8, by decide, rfl, by decide, inG8, wqG7 (i := 17) rfl rfl, tyX8_ok, nmX8, rfl, rfl⟩
theorem flRX8_22 : FL RX8 22 8 4 3 false (.int) := ⟨RX8, TX8, by decide, rfl, by decide, inG8, wqG7 (i := 18) rfl rfl, tyX8_ok, nmX8, rfl, rfl⟩
theorem flRX9_98 : FL RX9 98 8 4 3 false (.int) := ⟨RX8, TX8, by decide, rfl, by decide, inG8, wqG7 (i := 19) rfl rfl, tyX8_ok, nmX8, rfl, rfl⟩
theorem flRX6_9 : FL RX6 9 6 5 0 true (.array .int) := ⟨RX6, TX6, by decide, rfl, by decide, inG6, wqG8 (i := 15) rfl rfl, tyX6_ok, nmX6, rfl, rfl⟩
theorem flRX6_15 : FL RX6 15 6 5 1 true (.array .int) := ⟨RX6, TX6, by decide, rfl, by decide, inG6, wqG8 (i := 16) rfl rfl, tyX6_ok, nmX6, rfl, rfl⟩
theorem flRX6_18 : FL RX6 18 6 5 2 true (.array .int) := ⟨RX6, TX6, by decide, rfl, by decide, inG6, wqG8 (i := 17) rfl rfl, tyX6_ok, nmX6, rfl, rfl⟩
theorem flRX6_21 : FL RX6 21 6 5 3 true (.array .int) := ⟨RX6, TX6, by decide, rfl, by decide, inG6, wqG8 (i := 18) rfl rfl, tyX6_ok, nmX6, rfl, rfl⟩
theorem flRX6_24 : FL RX6 24 6 5 4 false (.int) := ⟨RX6, TX6, by decide, rfl, by decide, inG6, wqG8 (i := 19) rfl rfl, tyX6_ok, nmX6, rfl, rfl⟩
theorem flRX9_99 : FL RX9 99 6 5 4 false (.int) := ⟨RX6, TX6, by decide, rfl, by decide, inG6, wqG9 (i := 0) rfl rfl, tyX6_ok, nmX6, rfl, rfl⟩
theorem flRX4_9 : FL RX4 9 4 4 0 true (.array .int) := ⟨RX4, TX4, by decide, rfl, by decide, inG4, wqG9 (i := 18) rfl rfl, tyX4_ok, nmX4, rfl, rfl⟩
theorem flRX9_212 : FL RX9 212 4 4 0 true (.array .int) := ⟨RX4, TX4, by decide, rfl, by decide, inG4, wqG9 (i := 19) rfl rfl, tyX4_ok, nmX4, rfl, rfl⟩
theorem flRX4_15 : FL RX4 15 4 4 1 true (.array .int) := ⟨RX4, TX4, by decide, rfl, by decide, inG4, wqG10 (i := 0) rfl rfl, tyX4_ok, nmX4, rfl, rfl⟩
theorem flRX4_38 : FL RX4 38 4 4 2 false (.int) := ⟨RX4, TX4, by decide, rfl, by decide, inG4, wqG10 (i := 1) rfl rfl, tyX4_ok, nmX4, rfl, rfl⟩
theorem flRX9_209 : FL RX9 209 4 4 2 false (.int) := ⟨RX4, TX4, by decide, rfl, by decide, inG4, wqG10 (i := 2) rfl rfl, tyX4_ok, nmX4, rfl, rfl⟩
theorem flRX4_58 : FL RX4 58 4 4 3 false (.boolean) := ⟨RX4, TX4, by decide, rfl, by decide, inG4, wqG10 (i := 3) rfl rfl, tyX4_ok, nmX4, rfl, rfl⟩
theorem flRX9_100 : FL RX9 100 4 4 3 false (.boolean) := ⟨RX4, TX4, by decide, rfl, by decide, inG4, wqG10 (i := 4) rfl rfl, tyX4_ok, nmX4, rfl, rfl⟩
theorem flRX0_9 : FL RX0 9 0 7 0 true (.array .int) := ⟨RX0, TX0, by decide, rfl, by decide, inG0, wqG11 (i := 6) rfl rfl, tyX0_ok, nmX0, rfl, rfl⟩
theorem flRX9_218 : FL RX9 218 0 7 0 true (.array .int) := ⟨RX0, TX0, by decide, rfl, by decide, inG0, wqG11 (i := 7) rfl rfl, tyX0_ok, nmX0, rfl, rfl⟩
theorem flRX0_15 : FL RX0 15 0 7 1 true (.array .int) := ⟨RX0, TX0, by decide, rfl, by decide, inG0, wqG11 (i := 8) rfl rfl, tyX0_ok, nmX0, rfl, rfl⟩
theorem flRX0_22 : FL RX0 22 0 7 2 false (.int) := ⟨RX0, TX0, by decide, rfl, by decide, inG0, wqG11 (i := 9) rfl rfl, tyX0_ok, nmX0, rfl, rfl⟩
theorem flRX2_42 : FL RX2 42 0 7 2 false (.int) := ⟨RX0, TX0, by decide, rfl, by decide, inG0, wqG11 (i := 10) rfl rfl, tyX0_ok, nmX0, rfl, rfl⟩
theorem flRX9_237 : FL RX9 237 0 7 2 false (.int) := ⟨RX0, TX0, by decide, rfl, by decide, inG0, wqG11 (i := 11) rfl rfl, tyX0_ok, nmX0, rfl, rfl⟩
theorem flRX0_28 : FL RX0 28 0 7 3 false (.int) := ⟨RX0, TX0, by decide, rfl, by decide, inG0, wqG11 (i := 12) rfl rfl, tyX0_ok, nmX0, rfl, rfl⟩
theorem flRX9_280 : FL RX9 280 0 7 3 false (.int) := ⟨RX0, TX0, by decide, rfl, by decide, inG0, wqG11 (i := 13) rfl rfl, tyX0_ok, nmX0, rfl, rfl⟩
theorem flRX0_25 : FL RX0 25 0 7 4 false (.int) := ⟨RX0, TX0, by decide, rfl, by decide, inG0, wqG11 (i := 14) rfl rfl, tyX0_ok, nmX0, rfl, rfl⟩
theorem flRX3_61 : FL RX3 61 0 7 4 false (.int) := ⟨RX0, TX0, by decide, rfl, by decide, inG0, wqG11 (i := 15) rfl rfl, tyX0_ok, nmX0, rfl, rfl⟩
theorem flRX9_238 : FL RX9 238 0 7 4 false (.int) := ⟨RX0, TX0, by decide, rfl, by decide, inG0, wqG11 (i := 16) rfl rfl, tyX0_ok, nmX0, rfl, rfl⟩
theorem flRX0_35 : FL RX0 35 0 7 5 false (.boolean) := ⟨RX0, TX0, by decide, rfl, by decide, inG0, wqG11 (i := 17) rfl rfl, tyX0_ok, nmX0, rfl, rfl⟩
theorem flRX9_245 : FL RX9 245 0 7 5 false (.boolean) := ⟨RX0, TX0, by decide, rfl, by decide, inG0, wqG11 (i := 18) rfl rfl, tyX0_ok, nmX0, rfl, rfl⟩
theorem flRX0_18 : FL RX0 18 0 7 6 false (.int) := ⟨RX0, TX0, by decide, rfl, by decide, inG0, wqG11 (i := 19) rfl rfl, tyX0_ok, nmX0, rfl, rfl⟩
theorem flRX9_271 : FL RX9 271 0 7 6 false (.int) := ⟨RX0, TX0, by decide, rfl, by decide, inG0, wqG12 (i := 0) rfl rfl, tyX0_ok, nmX0, rfl, rfl⟩
theorem flRX5_9 : FL RX5 9 5 7 0 true (.array .int) := ⟨RX5, TX5, by decide, rfl, by decide, inG5, wqG13 (i := 2) rfl rfl, tyX5_ok, nmX5, rfl, rfl⟩
theorem flRX9_129 : FL RX9 129 5 7 0 true (.array .int) := ⟨RX5, TX5, by decide, rfl, by decide, inG5, wqG13 (i := 3) rfl rfl, tyX5_ok, nmX5, rfl, rfl⟩
theorem flRX5_15 : FL RX5 15 5 7 1 true (.array .int) := ⟨RX5, TX5, by decide, rfl, by decide, inG5, wqG13 (i := 4) rfl rfl, tyX5_ok, nmX5, rfl, rfl⟩
theorem flRX8_40 : FL RX8 40 5 7 1 true (.array .int) := ⟨RX5, TX5, by decide, rfl, by decide, inG5, wqG13 (i := 5) rfl rfl, tyX5_ok, nmX5, rfl, rfl⟩
theorem flRX1_45 : FL RX1 45 5 7 1 true (.array .int) := ⟨RX5, TX5, by decide, rfl, by decide, inG5, wqG13 (i := 6) rfl rfl, tyX5_ok, nmX5, rfl, rfl⟩
theorem flRX9_132 : FL RX9 132 5 7 1 true (.array .int) := ⟨RX5, TX5, by decide, rfl, by decide, inG5, wqG13 (i := 7) rfl rfl, tyX5_ok, nmX5, rfl, rfl⟩
theorem flRX2_79 : FL RX2 79 5 7 1 true (.array .int) := ⟨RX5, TX5, by decide, rfl, by decide, inG5, wqG13 (i := 8) rfl rfl, tyX5_ok, nmX5, rfl, rfl⟩
theorem flRX5_18 : FL RX5 18 5 7 2 true (.array .int) := ⟨RX5, TX5, by decide, rfl, by decide, inG5, wqG13 (i := 9) rfl rfl, tyX5_ok, nmX5, rfl, rfl⟩
theorem flRX9_135 : FL RX9 135 5 7 2 true (.array .int) := ⟨RX5, TX5, by decide, rfl, by decide, inG5, wqG13 (i := 10) rfl rfl, tyX5_ok, nmX5, rfl, rfl⟩
theorem flRX5_21 : FL RX5 21 5 7 3 true (.array .int) := ⟨RX5, TX5, by decide, rfl, by decide, inG5, wqG13 (i := 11) rfl rfl, tyX5_ok, nmX5, rfl, rfl⟩
theorem flRX2_75 : FL RX2 75 5 7 3 true (.array .int) := ⟨RX5, TX5, by decide, rfl, by decide, inG5, wqG13 (i := 12) rfl rfl, tyX5_ok, nmX5, rfl, rfl⟩
theorem flRX9_141 : FL RX9 141 5 7 3 true (.array .int) := ⟨RX5, TX5, by decide, rfl, by decide, inG5, wqG13 (i := 13) rfl rfl, tyX5_ok, nmX5, rfl, rfl⟩
theorem flRX5_24 : FL RX5 24 5 7 4 true (.array .int) := ⟨RX5, TX5, by decide, rfl, by decide, inG5, wqG13 (i := 14) rfl rfl, tyX5_ok, nmX5, rfl, rfl⟩
theorem flRX8_38 : FL RX8 38 5 7 4 true (.array .int) := ⟨RX5, TX5, by decide, rfl, by decide, inG5, wqG13 (i := 15) rfl rfl, tyX5_ok, nmX5, rfl, rfl⟩
theorem flRX1_42 : FL RX1 42 5 7 4 true (.array .int) := ⟨RX5, TX5, by decide, rfl, by decide, inG5, wqG13 (i := 16) rfl rfl, tyX5_ok, nmX5, rfl, rfl⟩
theorem flRX9_138 : FL RX9 138 5 7 4 true (.array .int) := ⟨RX5, TX5, by decide, rfl, by decide, inG5, wqG13 (i := 17) rfl rfl, tyX5_ok, nmX5, rfl, rfl⟩
theorem flRX5_27 : FL RX5 27 5 7 5 true (.array .int) := ⟨RX5, TX5, by decide, rfl, by decide, inG5, wqG13 (i := 18) rfl rfl, tyX5_ok, nmX5, rfl, rfl⟩
theorem flRX4_24 : FL RX4 24 5 7 5 true (.array .int) := ⟨RX5, TX5, by decide, rfl, by decide, inG5, wqG13 (i := 19) rfl rfl, tyX5_ok, nmX5, rfl, rfl⟩
theorem flRX8_26 : FL RX8 26 5 7 5 true (.array .int) := ⟨RX5, TX5, by decide, rfl, by decide, inG5, wqG14 (i := 0) rfl rfl, tyX5_ok, nmX5, rfl, rfl⟩
theorem flRX3_89 : FL RX3 89 5 7 5 true (.array .int) := ⟨RX5, TX5, by decide, rfl, by decide, inG5, wqG14 (i := 1) rfl rfl, tyX5_ok, nmX5, rfl, rfl⟩
theorem flRX5_30 : FL RX5 30 5 7 6 false (.int) := ⟨RX5, TX5, by decide, rfl, by decide, inG5, wqG14 (i := 2) rfl rfl, tyX5_ok, nmX5, rfl, rfl⟩
theorem flRX2_32 : FL RX2 32 5 7 6 false (.int) := ⟨RX5, TX5, by decide, rfl, by decide, inG5, wqG14 (i := 3) rfl rfl, tyX5_ok, nmX5, rfl, rfl⟩
theorem flRX4_33 : FL RX4 33 5 7 6 false (.int) := ⟨RX5, TX5, by decide, rfl, by decide, inG5, wqG14 (i := 4) rfl rfl, tyX5_ok, nmX5, rfl, rfl⟩
theorem flRX3_86 : FL RX3 86 5 7 6 false (.int) := ⟨RX5, TX5, by decide, rfl, by decide, inG5, wqG14 (i := 5) rfl rfl, tyX5_ok, nmX5, rfl, rfl⟩
theorem flRX6_49 : FL RX6 49 5 7 6 false (.int) := ⟨RX5, TX5, by decide, rfl, by decide, inG5, wqG14 (i := 6) rfl rfl, tyX5_ok, nmX5, rfl, rfl⟩
theorem flRX9_108 : FL RX9 108 5 7 6 false (.int) := ⟨RX5, TX5, by decide, rfl, by decide, inG5, wqG14 (i := 7) rfl rfl, tyX5_ok, nmX5, rfl, rfl⟩
theorem flRX2_12 : FL RX2 12 2 5 0 true (.object "BedsThatFit$Beds") := ⟨RX2, TX2, by decide, rfl, by decide, inG2, wqG15 (i := 3) rfl rfl, tyX2_ok, nmX2, rfl, rfl⟩
theorem flRX3_57 : FL RX3 57 2 5 0 true (.object "BedsThatFit$Beds") := ⟨RX2, TX2, by decide, rfl, by decide, inG2, wqG15 (i := 4) rfl rfl, tyX2_ok, nmX2, rfl, rfl⟩
theorem flRX6_28 : FL RX6 28 2 5 0 true (.object "BedsThatFit$Beds") := ⟨RX2, TX2, by decide, rfl, by decide, inG2, wqG15 (i := 5) rfl rfl, tyX2_ok, nmX2, rfl, rfl⟩
theorem flRX9_111 : FL RX9 111 2 5 0 true (.object "BedsThatFit$Beds") := ⟨RX2, TX2, by decide, rfl, by decide, inG2, wqG15 (i := 6) rfl rfl, tyX2_ok, nmX2, rfl, rfl⟩
theorem flRX2_21 : FL RX2 21 2 5 1 true (.object "BedsThatFit$Party") := ⟨RX2, TX2, by decide, rfl, by decide, inG2, wqG15 (i := 7) rfl rfl, tyX2_ok, nmX2, rfl, rfl⟩
theorem flRX4_18 : FL RX4 18 2 5 1 true (.object "BedsThatFit$Party") := ⟨RX2, TX2, by decide, rfl, by decide, inG2, wqG15 (i := 8) rfl rfl, tyX2_ok, nmX2, rfl, rfl⟩
theorem flRX3_37 : FL RX3 37 2 5 1 true (.object "BedsThatFit$Party") := ⟨RX2, TX2, by decide, rfl, by decide, inG2, wqG15 (i := 9) rfl rfl, tyX2_ok, nmX2, rfl, rfl⟩
theorem flRX6_39 : FL RX6 39 2 5 1 true (.object "BedsThatFit$Party") := ⟨RX2, TX2, by decide, rfl, by decide, inG2, wqG15 (i := 10) rfl rfl, tyX2_ok, nmX2, rfl, rfl⟩
theorem flRX9_104 : FL RX9 104 2 5 1 true (.object "BedsThatFit$Party") := ⟨RX2, TX2, by decide, rfl, by decide, inG2, wqG15 (i := 11) rfl rfl, tyX2_ok, nmX2, rfl, rfl⟩
theorem flRX2_25 : FL RX2 25 2 5 2 true (.array .int) := ⟨RX2, TX2, by decide, rfl, by decide, inG2, wqG15 (i := 12) rfl rfl, tyX2_ok, nmX2, rfl, rfl⟩
theorem flRX2_36 : FL RX2 36 2 5 3 false (.int) := ⟨RX2, TX2, by decide, rfl, by decide, inG2, wqG15 (i := 13) rfl rfl, tyX2_ok, nmX2, rfl, rfl⟩
theorem flRX9_283 : FL RX9 283 2 5 3 false (.int) := ⟨RX2, TX2, by decide, rfl, by decide, inG2, wqG15 (i := 14) rfl rfl, tyX2_ok, nmX2, rfl, rfl⟩
theorem flRX2_39 : FL RX2 39 2 5 4 false (.int) := ⟨RX2, TX2, by decide, rfl, by decide, inG2, wqG15 (i := 15) rfl rfl, tyX2_ok, nmX2, rfl, rfl⟩
theorem flRX9_221 : FL RX9 221 2 5 4 false (.int) := ⟨RX2, TX2, by decide, rfl, by decide, inG2, wqG15 (i := 16) rfl rfl, tyX2_ok, nmX2, rfl, rfl⟩
theorem flRX9_10 : FL RX9 10 9 9 0 true (.object "BedsThatFit$Script") := ⟨RX9, TX9, by decide, rfl, by decide, inG9, wqG22 (i := 9) rfl rfl, tyX9_ok, nmX9, rfl, rfl⟩
theorem flRX9_19 : FL RX9 19 9 9 1 true (.object "BedsThatFit$Nights") := ⟨RX9, TX9, by decide, rfl, by decide, inG9, wqG22 (i := 10) rfl rfl, tyX9_ok, nmX9, rfl, rfl⟩
theorem flRX9_26 : FL RX9 26 9 9 2 true (.object "BedsThatFit$Changes") := ⟨RX9, TX9, by decide, rfl, by decide, inG9, wqG22 (i := 11) rfl rfl, tyX9_ok, nmX9, rfl, rfl⟩
theorem flRX9_33 : FL RX9 33 9 9 3 true (.object "BedsThatFit$Shelf") := ⟨RX9, TX9, by decide, rfl, by decide, inG9, wqG22 (i := 12) rfl rfl, tyX9_ok, nmX9, rfl, rfl⟩
theorem flRX9_40 : FL RX9 40 9 9 4 true (.object "BedsThatFit$Remains") := ⟨RX9, TX9, by decide, rfl, by decide, inG9, wqG22 (i := 13) rfl rfl, tyX9_ok, nmX9, rfl, rfl⟩
theorem flRX9_47 : FL RX9 47 9 9 5 true (.object "BedsThatFit$Orders") := ⟨RX9, TX9, by decide, rfl, by decide, inG9, wqG22 (i := 14) rfl rfl, tyX9_ok, nmX9, rfl, rfl⟩
theorem flRX9_51 : FL RX9 51 9 9 6 true (.array .int) := ⟨RX9, TX9, by decide, rfl, by decide, inG9, wqG22 (i := 15) rfl rfl, tyX9_ok, nmX9, rfl, rfl⟩
theorem flRX9_58 : FL RX9 58 9 9 7 false (.object "BedsThatFit$Inn") := ⟨RX9, TX9, by decide, rfl, by decide, inG9, wqG22 (i := 16) rfl rfl, tyX9_ok, nmX9, rfl, rfl⟩
theorem flRX9_62 : FL RX9 62 9 9 8 false (.object "BedsThatFit$Inn") := ⟨RX9, TX9, by decide, rfl, by decide, inG9, wqG22 (i := 17) rfl rfl, tyX9_ok, nmX9, rfl, rfl⟩
theorem flRX10_7 : FL RX10 7 10 44 0 true (.array .int) := ⟨RX10, TX10, by decide, rfl, by decide, inG10, wqG41 (i := 14) rfl rfl, tyX10_ok, nmX10, rfl, rfl⟩
theorem flRX10_13 : FL RX10 13 10 44 1 false (.int) := ⟨RX10, TX10, by decide, rfl, by decide, inG10, wqG41 (i := 15) rfl rfl, tyX10_ok, nmX10, rfl, rfl⟩
theorem flRX10_17 : FL RX10 17 10 44 2 true (.array .int) := ⟨RX10, TX10, by decide, rfl, by decide, inG10, wqG41 (i := 16) rfl rfl, tyX10_ok, nmX10, rfl, rfl⟩
theorem flRX10_164 : FL RX10 164 10 44 3 false (.int) := ⟨RX10, TX10, by decide, rfl, by decide, inG10, wqG41 (i := 17) rfl rfl, tyX10_ok, nmX10, rfl, rfl⟩
theorem flRX10_20 : FL RX10 20 10 44 4 true (.array .int) := ⟨RX10, TX10, by decide, rfl, by decide, inG10, wqG41 (i := 18) rfl rfl, tyX10_ok, nmX10, rfl, rfl⟩
theorem flRX10_23 : FL RX10 23 10 44 5 true (.array .int) := ⟨RX10, TX10, by decide, rfl, by decide, inG10, wqG41 (i := 19) rfl rfl, tyX10_ok, nmX10, rfl, rfl⟩
theorem flRX10_26 : FL RX10 26 10 44 6 true (.array .int) := ⟨RX10, TX10, by decide, rfl, by decide, inG10, wqG42 (i := 0) rfl rfl, tyX10_ok, nmX10, rfl, rfl⟩
theorem flRX10_29 : FL RX10 29 10 44 7 false (.int) := ⟨RX10, TX10, by decide, rfl, by decide, inG10, wqG42 (i := 1) rfl rfl, tyX10_ok, nmX10, rfl, rfl⟩
theorem flRX10_32 : FL RX10 32 10 44 8 true (.array .int) := ⟨RX10, TX10, by decide, rfl, by decide, inG10, wqG42 (i := 2) rfl rfl, tyX10_ok, nmX10, rfl, rfl⟩
theorem flRX10_167 : FL RX10 167 10 44 9 false (.int) := ⟨RX10, TX10, by decide, rfl, by decide, inG10, wqG42 (i := 3) rfl rfl, tyX10_ok, nmX10, rfl, rfl⟩
theorem flRX10_35 : FL RX10 35 10 44 10 false (.int) := ⟨RX10, TX10, by decide, rfl, by decide, inG10, wqG42 (i := 4) rfl rfl, tyX10_ok, nmX10, rfl, rfl⟩
theorem flRX10_38 : FL RX10 38 10 44 11 true (.array .int) := ⟨RX10, TX10, by decide, rfl, by decide, inG10, wqG42 (i := 5) rfl rfl, tyX10_ok, nmX10, rfl, rfl⟩
theorem flRX10_41 : FL RX10 41 10 44 12 true (.array .int) := ⟨RX10, TX10, by decide, rfl, by decide, inG10, wqG42 (i := 6) rfl rfl, tyX10_ok, nmX10, rfl, rfl⟩
theorem flRX10_111 : FL RX10 111 10 44 13 false (.int) := ⟨RX10, TX10, by decide, rfl, by decide, inG10, wqG42 (i := 7) rfl rfl, tyX10_ok, nmX10, rfl, rfl⟩
theorem flRX10_114 : FL RX10 114 10 44 14 false (.int) := ⟨RX10, TX10, by decide, rfl, by decide, inG10, wqG42 (i := 8) rfl rfl, tyX10_ok, nmX10, rfl, rfl⟩
theorem flRX10_125 : FL RX10 125 10 44 15 false (.int) := ⟨RX10, TX10, by decide, rfl, by decide, inG10, wqG42 (i := 9) rfl rfl, tyX10_ok, nmX10, rfl, rfl⟩
theorem flRX10_44 : FL RX10 44 10 44 16 true (.array .int) := ⟨RX10, TX10, by decide, rfl, by decide, inG10, wqG42 (i := 10) rfl rfl, tyX10_ok, nmX10, rfl, rfl⟩
theorem flRX10_47 : FL RX10 47 10 44 17 true (.array .int) := ⟨RX10, TX10, by decide, rfl, by decide, inG10, wqG42 (i := 11) rfl rfl, tyX10_ok, nmX10, rfl, rfl⟩
theorem flRX10_135 : FL RX10 135 10 44 18 false (.int) := ⟨RX10, TX10, by decide, rfl, by decide, inG10, wqG42 (i := 12) rfl rfl, tyX10_ok, nmX10, rfl, rfl⟩
theorem flRX10_50 : FL RX10 50 10 44 19 true (.array .int) := ⟨RX10, TX10, by decide, rfl, by decide, inG10, wqG42 (i := 13) rfl rfl, tyX10_ok, nmX10, rfl, rfl⟩
theorem flRX10_140 : FL RX10 140 10 44 20 false (.int) := ⟨RX10, TX10, by decide, rfl, by decide, inG10, wqG42 (i := 14) rfl rfl, tyX10_ok, nmX10, rfl, rfl⟩
theorem flRX10_53 : FL RX10 53 10 44 21 true (.array .int) := ⟨RX10, TX10, by decide, rfl, by decide, inG10, wqG42 (i := 15) rfl rfl, tyX10_ok, nmX10, rfl, rfl⟩
theorem flRX10_56 : FL RX10 56 10 44 22 true (.array .int) := ⟨RX10, TX10, by decide, rfl, by decide, inG10, wqG42 (i := 16) rfl rfl, tyX10_ok, nmX10, rfl, rfl⟩
theorem flRX10_145 : FL RX10 145 10 44 23 false (.int) := ⟨RX10, TX10, by decide, rfl, by decide, inG10, wqG42 (i := 17) rfl rfl, tyX10_ok, nmX10, rfl, rfl⟩
theorem flRX10_59 : FL RX10 59 10 44 24 true (.array .int) := ⟨RX10, TX10, by decide, rfl, by decide, inG10, wqG42 (i := 18) rfl rfl, tyX10_ok, nmX10, rfl, rfl⟩
theorem flRX10_153 : FL RX10 153 10 44 25 false (.int) := ⟨RX10, TX10, by decide, rfl, by decide, inG10, wqG42 (i := 19) rfl rfl, tyX10_ok, nmX10, rfl, rfl⟩
theorem flRX10_150 : FL RX10 150 10 44 26 false (.int) := ⟨RX10, TX10, by decide, rfl, by decide, inG10, wqG43 (i := 0) rfl rfl, tyX10_ok, nmX10, rfl, rfl⟩
theorem flRX10_179 : FL RX10 179 10 44 27 false (.boolean) := ⟨RX10, TX10, by decide, rfl, by decide, inG10, wqG43 (i := 1) rfl rfl, tyX10_ok, nmX10, rfl, rfl⟩
theorem flRX10_62 : FL RX10 62 10 44 28 false (.int) := ⟨RX10, TX10, by decide, rfl, by decide, inG10, wqG43 (i := 2) rfl rfl, tyX10_ok, nmX10, rfl, rfl⟩
theorem flRX10_65 : FL RX10 65 10 44 29 true (.array .int) := ⟨RX10, TX10, by decide, rfl, by decide, inG10, wqG43 (i := 3) rfl rfl, tyX10_ok, nmX10, rfl, rfl⟩
theorem flRX10_68 : FL RX10 68 10 44 30 true (.array .int) := ⟨RX10, TX10, by decide, rfl, by decide, inG10, wqG43 (i := 4) rfl rfl, tyX10_ok, nmX10, rfl, rfl⟩
theorem flRX10_71 : FL RX10 71 10 44 31 true (.array .int) := ⟨RX10, TX10, by decide, rfl, by decide, inG10, wqG43 (i := 5) rfl rfl, tyX10_ok, nmX10, rfl, rfl⟩
theorem flRX10_74 : FL RX10 74 10 44 32 true (.array .int) := ⟨RX10, TX10, by decide, rfl, by decide, inG10, wqG43 (i := 6) rfl rfl, tyX10_ok, nmX10, rfl, rfl⟩
theorem flRX10_77 : FL RX10 77 10 44 33 true (.array .int) := ⟨RX10, TX10, by decide, rfl, by decide, inG10, wqG43 (i := 7) rfl rfl, tyX10_ok, nmX10, rfl, rfl⟩
theorem flRX10_80 : FL RX10 80 10 44 34 true (.array .int) := ⟨RX10, TX10, by decide, rfl, by decide, inG10, wqG43 (i := 8) rfl rfl, tyX10_ok, nmX10, rfl, rfl⟩
theorem flRX10_170 : FL RX10 170 10 44 35 false (.int) := ⟨RX10, TX10, by decide, rfl, by decide, inG10, wqG43 (i := 9) rfl rfl, tyX10_ok, nmX10, rfl, rfl⟩
theorem flRX10_83 : FL RX10 83 10 44 36 true (.array .int) := ⟨RX10, TX10, by decide, rfl, by decide, inG10, wqG43 (i := 10) rfl rfl, tyX10_ok, nmX10, rfl, rfl⟩
theorem flRX10_86 : FL RX10 86 10 44 37 true (.array .int) := ⟨RX10, TX10, by decide, rfl, by decide, inG10, wqG43 (i := 11) rfl rfl, tyX10_ok, nmX10, rfl, rfl⟩
theorem flRX10_89 : FL RX10 89 10 44 38 true (.array .int) := ⟨RX10, TX10, by decide, rfl, by decide, inG10, wqG43 (i := 12) rfl rfl, tyX10_ok, nmX10, rfl, rfl⟩
theorem flRX10_173 : FL RX10 173 10 44 39 false (.int) := ⟨RX10, TX10, by decide, rfl, by decide, inG10, wqG43 (i := 13) rfl rfl, tyX10_ok, nmX10, rfl, rfl⟩
theorem flRX10_92 : FL RX10 92 10 44 40 true (.array .int) := ⟨RX10, TX10, by decide, rfl, by decide, inG10, wqG43 (i := 14) rfl rfl, tyX10_ok, nmX10, rfl, rfl⟩
theorem flRX10_95 : FL RX10 95 10 44 41 true (.array .int) := ⟨RX10, TX10, by decide, rfl, by decide, inG10, wqG43 (i := 15) rfl rfl, tyX10_ok, nmX10, rfl, rfl⟩
theorem flRX10_98 : FL RX10 98 10 44 42 true (.array .int) := ⟨RX10, TX10, by decide, rfl, by decide, inG10, wqG43 (i := 16) rfl rfl, tyX10_ok, nmX10, rfl, rfl⟩
theorem flRX10_176 : FL RX10 176 10 44 43 false (.int) := ⟨RX10, TX10, by decide, rfl, by decide, inG10, wqG43 (i := 17) rfl rfl, tyX10_ok, nmX10, rfl, rfl⟩
theorem mlRL_9 : Cond.methodLink RL 9 yX9_init ∈ GW := wqG3 (i := 1) rfl rfl
theorem mlRX9_1 : Cond.methodLink RX9 1 objectInit ∈ GW := wqG3 (i := 4) rfl rfl
theorem mlRX7_3 : Cond.methodLink RX7 3 objectInit ∈ GW := wqG3 (i := 12) rfl rfl
theorem mlRX3_3 : Cond.methodLink RX3 3 objectInit ∈ GW := wqG4 (i := 14) rfl rfl
theorem mlRX1_3 : Cond.methodLink RX1 3 objectInit ∈ GW := wqG6 (i := 12) rfl rfl
theorem mlRX8_3 : Cond.methodLink RX8 3 objectInit ∈ GW := wqG7 (i := 12) rfl rfl
theorem mlRX6_3 : Cond.methodLink RX6 3 objectInit ∈ GW := wqG8 (i := 14) rfl rfl
theorem mlRX4_3 : Cond.methodLink RX4 3 objectInit ∈ GW := wqG9 (i := 17) rfl rfl
theorem mlRX2_3 : Cond.methodLink RX2 3 objectInit ∈ GW := wqG10 (i := 19) rfl rfl
theorem mlRX0_3 : Cond.methodLink RX0 3 objectInit ∈ GW := wqG11 (i := 5) rfl rfl
theorem mlRX5_3 : Cond.methodLink RX5 3 objectInit ∈ GW := wqG13 (i := 1) rfl rfl
theorem mlRX9_67 : Cond.methodLink RX9 67 yJ0_length_8abf5 ∈ GW := wqG16 (i := 9) rfl rfl
theorem mlRX9_73 : Cond.methodLink RX9 73 yJ0_charAt_5068e ∈ GW := wqG16 (i := 19) rfl rfl
theorem mlRX9_77 : Cond.methodLink RX9 77 yX7_put ∈ GW := wqG18 (i := 17) rfl rfl
theorem mlRX9_81 : Cond.methodLink RX9 81 yX7_readInto ∈ GW := wqG19 (i := 1) rfl rfl
theorem mlRX7_23 : Cond.methodLink RX7 23 yX2_clear ∈ GW := wqG19 (i := 5) rfl rfl
theorem mlRX2_29 : Cond.methodLink RX2 29 yX0_clear ∈ GW := wqG19 (i := 9) rfl rfl
theorem mlRX7_28 : Cond.methodLink RX7 28 yX7_readNumbers ∈ GW := wqG19 (i := 13) rfl rfl
theorem mlRX7_42 : Cond.methodLink RX7 42 yX7_isFigure ∈ GW := wqG19 (i := 17) rfl rfl
theorem mlRX7_32 : Cond.methodLink RX7 32 yX7_letterAt ∈ GW := wqG20 (i := 1) rfl rfl
theorem mlRX7_38 : Cond.methodLink RX7 38 yX2_tell ∈ GW := wqG20 (i := 8) rfl rfl
theorem mlRX9_89 : Cond.methodLink RX9 89 yX9_isWithin ∈ GW := wqG20 (i := 15) rfl rfl
theorem mlRX2_47 : Cond.methodLink RX2 47 yX0_add ∈ GW := wqG20 (i := 16) rfl rfl
theorem mlRX2_57 : Cond.methodLink RX2 57 yX0_addFeast ∈ GW := wqG21 (i := 4) rfl rfl
theorem mlRX2_61 : Cond.methodLink RX2 61 yX5_add ∈ GW := wqG21 (i := 9) rfl rfl
theorem mlRX2_63 : Cond.methodLink RX2 63 yX5_befriend ∈ GW := wqG21 (i := 13) rfl rfl
theorem mlRX5_34 : Cond.methodLink RX5 34 yX5_has ∈ GW := wqG21 (i := 17) rfl rfl
theorem mlRX2_66 : Cond.methodLink RX2 66 yX2_enact ∈ GW := wqG22 (i := 1) rfl rfl
theorem mlRX2_69 : Cond.methodLink RX2 69 yX2_addRival ∈ GW := wqG22 (i := 5) rfl rfl
theorem mlRL_13 : Cond.methodLink RL 13 yX9_write ∈ GW := wqG23 (i := 18) rfl rfl
theorem mlRL_18 : Cond.methodLink RL 18 yX9_wipe ∈ GW := wqG24 (i := 2) rfl rfl
theorem mlRL_23 : Cond.methodLink RL 23 yX9_fault ∈ GW := wqG24 (i := 6) rfl rfl
theorem mlRL_27 : Cond.methodLink RL 27 yX9_lay ∈ GW := wqG24 (i := 10) rfl rfl
theorem mlRX9_93 : Cond.methodLink RX9 93 yX2_canOpen ∈ GW := wqG24 (i := 14) rfl rfl
theorem mlRL_31 : Cond.methodLink RL 31 yX9_bed ∈ GW := wqG24 (i := 18) rfl rfl
theorem mlRX9_115 : Cond.methodLink RX9 115 yX0_has ∈ GW := wqG25 (i := 2) rfl rfl
theorem mlRX9_121 : Cond.methodLink RX9 121 yX9_isNight ∈ GW := wqG25 (i := 6) rfl rfl
theorem mlRX9_124 : Cond.methodLink RX9 124 yX0_lengthOn ∈ GW := wqG25 (i := 7) rfl rfl
theorem mlRX0_39 : Cond.methodLink RX0 39 yX0_has ∈ GW := wqG25 (i := 11) rfl rfl
theorem mlRX0_42 : Cond.methodLink RX0 42 yX0_drawn ∈ GW := wqG25 (i := 12) rfl rfl
theorem mlRL_36 : Cond.methodLink RL 36 yX9_guest ∈ GW := wqG26 (i := 1) rfl rfl
theorem mlRX9_128 : Cond.methodLink RX9 128 yX5_has ∈ GW := wqG26 (i := 5) rfl rfl
theorem mlRX9_144 : Cond.methodLink RX9 144 yX5_placeOf ∈ GW := wqG26 (i := 6) rfl rfl
theorem mlRL_40 : Cond.methodLink RL 40 yX9_harm ∈ GW := wqG26 (i := 10) rfl rfl
theorem mlRX9_148 : Cond.methodLink RX9 148 yX5_harmAt ∈ GW := wqG26 (i := 14) rfl rfl
theorem mlRX5_38 : Cond.methodLink RX5 38 yJ9_max_7cf53 ∈ GW := wqG26 (i := 18) rfl rfl
theorem mlRX5_44 : Cond.methodLink RX5 44 yX5_harmBy ∈ GW := wqG27 (i := 1) rfl rfl
theorem mlRL_45 : Cond.methodLink RL 45 yX9_lies ∈ GW := wqG27 (i := 4) rfl rfl
theorem mlRX9_153 : Cond.methodLink RX9 153 yX3_pass ∈ GW := wqG27 (i := 9) rfl rfl
theorem mlRX3_43 : Cond.methodLink RX3 43 yX5_everyone ∈ GW := wqG27 (i := 13) rfl rfl
theorem mlRX3_49 : Cond.methodLink RX3 49 yX3_fillBeds ∈ GW := wqG27 (i := 17) rfl rfl
theorem mlRX3_53 : Cond.methodLink RX3 53 yX5_hereBy ∈ GW := wqG28 (i := 1) rfl rfl
theorem mlRX3_66 : Cond.methodLink RX3 66 yX3_callFirst ∈ GW := wqG28 (i := 5) rfl rfl
theorem mlRX3_78 : Cond.methodLink RX3 78 yX5_has ∈ GW := wqG28 (i := 9) rfl rfl
theorem mlRX3_96 : Cond.methodLink RX3 96 yJ9_max_7cf53 ∈ GW := wqG28 (i := 13) rfl rfl
theorem mlRX3_70 : Cond.methodLink RX3 70 yX0_lengthOn ∈ GW := wqG28 (i := 14) rfl rfl
theorem mlRX3_74 : Cond.methodLink RX3 74 yX3_bestOf ∈ GW := wqG28 (i := 15) rfl rfl
theorem mlRX3_101 : Cond.methodLink RX3 101 yX2_namable ∈ GW := wqG28 (i := 19) rfl rfl
theorem mlRX2_72 : Cond.methodLink RX2 72 yX5_has ∈ GW := wqG29 (i := 3) rfl rfl
theorem mlRX3_82 : Cond.methodLink RX3 82 yX5_harmAt ∈ GW := wqG29 (i := 4) rfl rfl
theorem mlRX9_157 : Cond.methodLink RX9 157 yX3_hasLain ∈ GW := wqG29 (i := 5) rfl rfl
theorem mlRL_49 : Cond.methodLink RL 49 yX9_who ∈ GW := wqG29 (i := 9) rfl rfl
theorem mlRL_53 : Cond.methodLink RL 53 yX9_all ∈ GW := wqG29 (i := 13) rfl rfl
theorem mlRX9_175 : Cond.methodLink RX9 175 yX3_total ∈ GW := wqG29 (i := 17) rfl rfl
theorem mlRX3_104 : Cond.methodLink RX3 104 yJ6_bitCount_0f7a4 ∈ GW := wqG30 (i := 1) rfl rfl
theorem mlRX9_182 : Cond.methodLink RX9 182 yJ6_bitCount_0f7a4 ∈ GW := wqG30 (i := 7) rfl rfl
theorem mlRX9_187 : Cond.methodLink RX9 187 yX3_unharmed ∈ GW := wqG30 (i := 8) rfl rfl
theorem mlRX3_109 : Cond.methodLink RX3 109 yX3_hasLain ∈ GW := wqG30 (i := 12) rfl rfl
theorem mlRX9_190 : Cond.methodLink RX9 190 yX3_greatest ∈ GW := wqG30 (i := 13) rfl rfl
theorem mlRL_57 : Cond.methodLink RL 57 yX9_move ∈ GW := wqG30 (i := 17) rfl rfl
theorem mlRX9_193 : Cond.methodLink RX9 193 yX5_shift ∈ GW := wqG31 (i := 1) rfl rfl
theorem mlRX9_197 : Cond.methodLink RX9 197 yX9_noteChange ∈ GW := wqG31 (i := 5) rfl rfl
theorem mlRX9_286 : Cond.methodLink RX9 286 yX1_push ∈ GW := wqG31 (i := 9) rfl rfl
theorem mlRX1_25 : Cond.methodLink RX1 25 yX1_dropOldest ∈ GW := wqG31 (i := 13) rfl rfl
theorem mlRL_61 : Cond.methodLink RL 61 yX9_wear ∈ GW := wqG31 (i := 17) rfl rfl
theorem mlRL_65 : Cond.methodLink RL 65 yX9_come ∈ GW := wqG32 (i := 1) rfl rfl
theorem mlRL_69 : Cond.methodLink RL 69 yX9_undo ∈ GW := wqG32 (i := 5) rfl rfl
theorem mlRX9_201 : Cond.methodLink RX9 201 yX1_takeBack ∈ GW := wqG32 (i := 9) rfl rfl
theorem mlRX1_28 : Cond.methodLink RX1 28 yX5_has ∈ GW := wqG32 (i := 13) rfl rfl
theorem mlRX1_34 : Cond.methodLink RX1 34 yX5_placeOf ∈ GW := wqG32 (i := 14) rfl rfl
theorem mlRX1_38 : Cond.methodLink RX1 38 yX5_shift ∈ GW := wqG32 (i := 15) rfl rfl
theorem mlRL_73 : Cond.methodLink RL 73 yX9_order ∈ GW := wqG32 (i := 16) rfl rfl
theorem mlRX9_205 : Cond.methodLink RX9 205 yX4_search ∈ GW := wqG33 (i := 0) rfl rfl
theorem mlRX4_27 : Cond.methodLink RX4 27 arraycopyName ∈ GW := wqG33 (i := 4) rfl rfl
theorem mlRX4_41 : Cond.methodLink RX4 41 yX3_pass ∈ GW := wqG33 (i := 8) rfl rfl
theorem mlRX4_47 : Cond.methodLink RX4 47 yX3_total ∈ GW := wqG33 (i := 9) rfl rfl
theorem mlRX4_54 : Cond.methodLink RX4 54 yX4_toNextRow ∈ GW := wqG33 (i := 10) rfl rfl
theorem mlRX4_62 : Cond.methodLink RX4 62 yX4_letFall ∈ GW := wqG33 (i := 13) rfl rfl
theorem mlRX4_73 : Cond.methodLink RX4 73 yJ9_max_7cf53 ∈ GW := wqG33 (i := 16) rfl rfl
theorem mlRX4_66 : Cond.methodLink RX4 66 yX4_swap ∈ GW := wqG33 (i := 17) rfl rfl
theorem mlRX4_79 : Cond.methodLink RX4 79 yX5_has ∈ GW := wqG34 (i := 0) rfl rfl
theorem mlRX4_70 : Cond.methodLink RX4 70 yX4_turnRound ∈ GW := wqG34 (i := 1) rfl rfl
theorem mlRL_77 : Cond.methodLink RL 77 yX9_cushion ∈ GW := wqG34 (i := 4) rfl rfl
theorem mlRX9_215 : Cond.methodLink RX9 215 yX9_sumBelow ∈ GW := wqG34 (i := 8) rfl rfl
theorem mlRL_81 : Cond.methodLink RL 81 yX9_length ∈ GW := wqG34 (i := 12) rfl rfl
theorem mlRL_85 : Cond.methodLink RL 85 yX9_law ∈ GW := wqG34 (i := 16) rfl rfl
theorem mlRL_89 : Cond.methodLink RL 89 yX9_pairs ∈ GW := wqG35 (i := 0) rfl rfl
theorem mlRX9_224 : Cond.methodLink RX9 224 yX9_noteHarmsNow ∈ GW := wqG35 (i := 4) rfl rfl
theorem mlRX9_289 : Cond.methodLink RX9 289 arraycopyName ∈ GW := wqG35 (i := 8) rfl rfl
theorem mlRX9_227 : Cond.methodLink RX9 227 yX9_isIn ∈ GW := wqG35 (i := 9) rfl rfl
theorem mlRX9_231 : Cond.methodLink RX9 231 yX9_wouldSwap ∈ GW := wqG35 (i := 10) rfl rfl
theorem mlRX9_295 : Cond.methodLink RX9 295 yX5_swapPlaces ∈ GW := wqG35 (i := 14) rfl rfl
theorem mlRX5_47 : Cond.methodLink RX5 47 yX5_placeOf ∈ GW := wqG35 (i := 18) rfl rfl
theorem mlRL_93 : Cond.methodLink RL 93 yX9_later ∈ GW := wqG35 (i := 19) rfl rfl
theorem mlRL_97 : Cond.methodLink RL 97 yX9_rival ∈ GW := wqG36 (i := 3) rfl rfl
theorem mlRX9_234 : Cond.methodLink RX9 234 yX2_leastAtRival ∈ GW := wqG36 (i := 7) rfl rfl
theorem mlRX2_82 : Cond.methodLink RX2 82 yX5_harmAt ∈ GW := wqG36 (i := 12) rfl rfl
theorem mlRX2_86 : Cond.methodLink RX2 86 yJ9_min_7cf53 ∈ GW := wqG36 (i := 13) rfl rfl
theorem mlRL_101 : Cond.methodLink RL 101 yX9_fewest ∈ GW := wqG36 (i := 16) rfl rfl
theorem mlRX9_241 : Cond.methodLink RX9 241 yX3_allLainBy ∈ GW := wqG37 (i := 0) rfl rfl
theorem mlRL_105 : Cond.methodLink RL 105 yX9_turned ∈ GW := wqG37 (i := 4) rfl rfl
theorem mlRL_109 : Cond.methodLink RL 109 yX9_left ∈ GW := wqG37 (i := 8) rfl rfl
theorem mlRX9_248 : Cond.methodLink RX9 248 yX6_add ∈ GW := wqG37 (i := 12) rfl rfl
theorem mlRL_113 : Cond.methodLink RL 113 yX9_sweep ∈ GW := wqG37 (i := 16) rfl rfl
theorem mlRL_117 : Cond.methodLink RL 117 yX9_slept ∈ GW := wqG38 (i := 0) rfl rfl
theorem mlRX9_251 : Cond.methodLink RX9 251 yX6_has ∈ GW := wqG38 (i := 4) rfl rfl
theorem mlRX9_252 : Cond.methodLink RX9 252 yX6_sleepersOf ∈ GW := wqG38 (i := 8) rfl rfl
theorem mlRX6_33 : Cond.methodLink RX6 33 yX0_lengthOn ∈ GW := wqG38 (i := 12) rfl rfl
theorem mlRX6_43 : Cond.methodLink RX6 43 yX5_hereBy ∈ GW := wqG38 (i := 13) rfl rfl
theorem mlRX6_54 : Cond.methodLink RX6 54 yX5_harmAt ∈ GW := wqG38 (i := 15) rfl rfl
theorem mlRL_121 : Cond.methodLink RL 121 yX9_sure ∈ GW := wqG38 (i := 16) rfl rfl
theorem mlRX9_256 : Cond.methodLink RX9 256 yX6_ways ∈ GW := wqG39 (i := 0) rfl rfl
theorem mlRX6_58 : Cond.methodLink RX6 58 yX6_sleepersOf ∈ GW := wqG39 (i := 4) rfl rfl
theorem mlRX6_62 : Cond.methodLink RX6 62 yX6_addOne ∈ GW := wqG39 (i := 5) rfl rfl
theorem mlRX6_66 : Cond.methodLink RX6 66 yJ6_bitCount_0f7a4 ∈ GW := wqG39 (i := 9) rfl rfl
theorem mlRX9_260 : Cond.methodLink RX9 260 yX6_onlySleeperOf ∈ GW := wqG39 (i := 10) rfl rfl
theorem mlRX6_71 : Cond.methodLink RX6 71 yX6_ways ∈ GW := wqG39 (i := 14) rfl rfl
theorem mlRL_125 : Cond.methodLink RL 125 yX9_found ∈ GW := wqG39 (i := 15) rfl rfl
theorem mlRX9_263 : Cond.methodLink RX9 263 yJ9_abs_0f7a4 ∈ GW := wqG39 (i := 19) rfl rfl
theorem mlRX9_268 : Cond.methodLink RX9 268 yJ9_max_7cf53 ∈ GW := wqG40 (i := 2) rfl rfl
theorem mlRL_129 : Cond.methodLink RL 129 yX9_year ∈ GW := wqG40 (i := 3) rfl rfl
theorem mlRL_133 : Cond.methodLink RL 133 yX9_keep ∈ GW := wqG40 (i := 7) rfl rfl
theorem mlRX9_274 : Cond.methodLink RX9 274 yX8_put ∈ GW := wqG40 (i := 11) rfl rfl
theorem mlRX8_32 : Cond.methodLink RX8 32 arraycopyName ∈ GW := wqG40 (i := 15) rfl rfl
theorem mlRL_137 : Cond.methodLink RL 137 yX9_back ∈ GW := wqG40 (i := 16) rfl rfl
theorem mlRX9_277 : Cond.methodLink RX9 277 yX8_takeInto ∈ GW := wqG41 (i := 0) rfl rfl
theorem mlRL_141 : Cond.methodLink RL 141 yX9_count ∈ GW := wqG41 (i := 4) rfl rfl
theorem mlRL_12 : Cond.methodLink RL 12 yX10_init ∈ GW := wqG41 (i := 10) rfl rfl
theorem mlRX10_1 : Cond.methodLink RX10 1 objectInit ∈ GW := wqG41 (i := 13) rfl rfl
theorem mlRL_17 : Cond.methodLink RL 17 yX10_write ∈ GW := wqG48 (i := 7) rfl rfl
theorem mlRX10_101 : Cond.methodLink RX10 101 yX10_in ∈ GW := wqG48 (i := 13) rfl rfl
theorem mlRL_22 : Cond.methodLink RL 22 yX10_wipe ∈ GW := wqG48 (i := 16) rfl rfl
theorem mlRL_26 : Cond.methodLink RL 26 yX10_fault ∈ GW := wqG49 (i := 0) rfl rfl
theorem mlRX10_156 : Cond.methodLink RX10 156 yX10_readItem ∈ GW := wqG49 (i := 4) rfl rfl
theorem mlRX10_128 : Cond.methodLink RX10 128 yX10_readNumbers ∈ GW := wqG49 (i := 8) rfl rfl
theorem mlRX10_121 : Cond.methodLink RX10 121 yX10_readNumber ∈ GW := wqG49 (i := 12) rfl rfl
theorem mlRL_30 : Cond.methodLink RL 30 yX10_lay ∈ GW := wqG50 (i := 4) rfl rfl
theorem mlRX10_160 : Cond.methodLink RX10 160 yX10_fault ∈ GW := wqG50 (i := 8) rfl rfl
theorem mlRL_35 : Cond.methodLink RL 35 yX10_bed ∈ GW := wqG50 (i := 9) rfl rfl
theorem mlRX10_193 : Cond.methodLink RX10 193 yX10_isBed ∈ GW := wqG50 (i := 13) rfl rfl
theorem mlRX10_196 : Cond.methodLink RX10 196 yX10_isNight ∈ GW := wqG50 (i := 17) rfl rfl
theorem mlRX10_199 : Cond.methodLink RX10 199 yX10_lengthOn ∈ GW := wqG51 (i := 0) rfl rfl
theorem mlRL_44 : Cond.methodLink RL 44 yX10_harm ∈ GW := wqG51 (i := 9) rfl rfl
theorem mlRX10_209 : Cond.methodLink RX10 209 yX10_isGuest ∈ GW := wqG51 (i := 13) rfl rfl
theorem mlRX10_212 : Cond.methodLink RX10 212 yX10_harmOf ∈ GW := wqG51 (i := 17) rfl rfl
theorem mlRX10_203 : Cond.methodLink RX10 203 yX10_inchesOn ∈ GW := wqG52 (i := 1) rfl rfl
theorem mlRX10_206 : Cond.methodLink RX10 206 yX10_harmBy ∈ GW := wqG52 (i := 5) rfl rfl
theorem mlRL_39 : Cond.methodLink RL 39 yX10_guest ∈ GW := wqG52 (i := 9) rfl rfl
theorem mlRX10_216 : Cond.methodLink RX10 216 yX10_placeOf ∈ GW := wqG52 (i := 13) rfl rfl
theorem mlRL_48 : Cond.methodLink RL 48 yX10_lies ∈ GW := wqG52 (i := 17) rfl rfl
theorem mlRX10_235 : Cond.methodLink RX10 235 yX10_stay ∈ GW := wqG53 (i := 1) rfl rfl
theorem mlRX10_231 : Cond.methodLink RX10 231 yX10_give ∈ GW := wqG53 (i := 5) rfl rfl
theorem mlRX10_220 : Cond.methodLink RX10 220 yX10_isWaiting ∈ GW := wqG53 (i := 9) rfl rfl
theorem mlRX10_224 : Cond.methodLink RX10 224 yX10_has ∈ GW := wqG53 (i := 13) rfl rfl
theorem mlRX10_227 : Cond.methodLink RX10 227 yX10_lieDown ∈ GW := wqG53 (i := 16) rfl rfl
theorem mlRL_52 : Cond.methodLink RL 52 yX10_who ∈ GW := wqG54 (i := 0) rfl rfl
theorem mlRL_56 : Cond.methodLink RL 56 yX10_all ∈ GW := wqG54 (i := 4) rfl rfl
theorem mlRX10_240 : Cond.methodLink RX10 240 yX10_unharmed ∈ GW := wqG54 (i := 9) rfl rfl
theorem mlRL_60 : Cond.methodLink RL 60 yX10_move ∈ GW := wqG54 (i := 13) rfl rfl
theorem mlRX10_243 : Cond.methodLink RX10 243 yX10_note ∈ GW := wqG54 (i := 17) rfl rfl
theorem mlRL_64 : Cond.methodLink RL 64 yX10_wear ∈ GW := wqG55 (i := 1) rfl rfl
theorem mlRL_68 : Cond.methodLink RL 68 yX10_come ∈ GW := wqG55 (i := 6) rfl rfl
theorem mlRL_72 : Cond.methodLink RL 72 yX10_undo ∈ GW := wqG55 (i := 10) rfl rfl
theorem mlRL_76 : Cond.methodLink RL 76 yX10_order ∈ GW := wqG55 (i := 14) rfl rfl
theorem mlRX10_253 : Cond.methodLink RX10 253 yX10_nextRow ∈ GW := wqG55 (i := 19) rfl rfl
theorem mlRX10_248 : Cond.methodLink RX10 248 yX10_exchange ∈ GW := wqG56 (i := 3) rfl rfl
theorem mlRL_80 : Cond.methodLink RL 80 yX10_cushion ∈ GW := wqG56 (i := 7) rfl rfl
theorem mlRL_84 : Cond.methodLink RL 84 yX10_length ∈ GW := wqG56 (i := 11) rfl rfl
theorem mlRL_88 : Cond.methodLink RL 88 yX10_law ∈ GW := wqG56 (i := 15) rfl rfl
theorem mlRL_92 : Cond.methodLink RL 92 yX10_pairs ∈ GW := wqG56 (i := 19) rfl rfl
theorem mlRL_96 : Cond.methodLink RL 96 yX10_later ∈ GW := wqG57 (i := 3) rfl rfl
theorem mlRL_100 : Cond.methodLink RL 100 yX10_rival ∈ GW := wqG57 (i := 7) rfl rfl
theorem mlRL_104 : Cond.methodLink RL 104 yX10_fewest ∈ GW := wqG57 (i := 11) rfl rfl
theorem mlRL_108 : Cond.methodLink RL 108 yX10_turned ∈ GW := wqG57 (i := 15) rfl rfl
theorem mlRL_112 : Cond.methodLink RL 112 yX10_left ∈ GW := wqG57 (i := 19) rfl rfl
theorem mlRL_116 : Cond.methodLink RL 116 yX10_sweep ∈ GW := wqG58 (i := 3) rfl rfl
theorem mlRL_120 : Cond.methodLink RL 120 yX10_slept ∈ GW := wqG58 (i := 7) rfl rfl
theorem mlRX10_256 : Cond.methodLink RX10 256 yX10_sleptBy ∈ GW := wqG58 (i := 11) rfl rfl
theorem mlRL_124 : Cond.methodLink RL 124 yX10_sure ∈ GW := wqG58 (i := 15) rfl rfl
theorem mlRX10_259 : Cond.methodLink RX10 259 yX10_waysWith ∈ GW := wqG58 (i := 19) rfl rfl
theorem mlRL_128 : Cond.methodLink RL 128 yX10_found ∈ GW := wqG59 (i := 3) rfl rfl
theorem mlRL_132 : Cond.methodLink RL 132 yX10_year ∈ GW := wqG59 (i := 8) rfl rfl
theorem mlRL_136 : Cond.methodLink RL 136 yX10_keep ∈ GW := wqG59 (i := 13) rfl rfl
theorem mlRL_140 : Cond.methodLink RL 140 yX10_back ∈ GW := wqG59 (i := 17) rfl rfl
theorem mlRL_144 : Cond.methodLink RL 144 yX10_count ∈ GW := wqG60 (i := 1) rfl rfl
theorem nlRX9_9 : (RX9, 9, yX7_init, "BedsThatFit") ∈ NW := List.mem_filterMap.mpr ⟨Cond.methodLinkNest RX9 9 yX7_init "BedsThatFit", wqM3 _ (List.mem_of_getElem? (i := 9) rfl), rfl⟩
theorem nlRX9_18 : (RX9, 18, yX3_init, "BedsThatFit") ∈ NW := List.mem_filterMap.mpr ⟨Cond.methodLinkNest RX9 18 yX3_init "BedsThatFit", wqM4 _ (List.mem_of_getElem? (i := 11) rfl), rfl⟩
theorem nlRX9_25 : (RX9, 25, yX1_init, "BedsThatFit") ∈ NW := List.mem_filterMap.mpr ⟨Cond.methodLinkNest RX9 25 yX1_init "BedsThatFit", wqM6 _ (List.mem_of_getElem? (i := 9) rfl), rfl⟩
theorem nlRX9_32 : (RX9, 32, yX8_init, "BedsThatFit") ∈ NW := List.mem_filterMap.mpr ⟨Cond.methodLinkNest RX9 32 yX8_init "BedsThatFit", wqM7 _ (List.mem_of_getElem? (i := 9) rfl), rfl⟩
theorem nlRX9_39 : (RX9, 39, yX6_init, "BedsThatFit") ∈ NW := List.mem_filterMap.mpr ⟨Cond.methodLinkNest RX9 39 yX6_init "BedsThatFit", wqM8 _ (List.mem_of_getElem? (i := 11) rfl), rfl⟩
theorem nlRX9_46 : (RX9, 46, yX4_init, "BedsThatFit") ∈ NW := List.mem_filterMap.mpr ⟨Cond.methodLinkNest RX9 46 yX4_init "BedsThatFit", wqM9 _ (List.mem_of_getElem? (i := 14) rfl), rfl⟩
theorem nlRX9_57 : (RX9, 57, yX2_init, "BedsThatFit") ∈ NW := List.mem_filterMap.mpr ⟨Cond.methodLinkNest RX9 57 yX2_init "BedsThatFit", wqM10 _ (List.mem_of_getElem? (i := 16) rfl), rfl⟩
theorem nlRX2_11 : (RX2, 11, yX0_init, "BedsThatFit") ∈ NW := List.mem_filterMap.mpr ⟨Cond.methodLinkNest RX2 11 yX0_init "BedsThatFit", wqM11 _ (List.mem_of_getElem? (i := 2) rfl), rfl⟩
theorem nlRX2_20 : (RX2, 20, yX5_init, "BedsThatFit") ∈ NW := List.mem_filterMap.mpr ⟨Cond.methodLinkNest RX2 20 yX5_init "BedsThatFit", wqM12 _ (List.mem_of_getElem? (i := 18) rfl), rfl⟩
theorem nlRX7_46 : (RX7, 46, yX9_isWithin, "BedsThatFit") ∈ NW := List.mem_filterMap.mpr ⟨Cond.methodLinkNest RX7 46 yX9_isWithin "BedsThatFit", wqM20 _ (List.mem_of_getElem? (i := 5) rfl), rfl⟩
theorem nlRX2_43 : (RX2, 43, yX9_isLength, "BedsThatFit") ∈ NW := List.mem_filterMap.mpr ⟨Cond.methodLinkNest RX2 43 yX9_isLength "BedsThatFit", wqM20 _ (List.mem_of_getElem? (i := 12) rfl), rfl⟩
theorem nlRX2_50 : (RX2, 50, yX9_isNight, "BedsThatFit") ∈ NW := List.mem_filterMap.mpr ⟨Cond.methodLinkNest RX2 50 yX9_isNight "BedsThatFit", wqM21 _ (List.mem_of_getElem? (i := 0) rfl), rfl⟩
theorem nlRX2_53 : (RX2, 53, yX9_isWithin, "BedsThatFit") ∈ NW := List.mem_filterMap.mpr ⟨Cond.methodLinkNest RX2 53 yX9_isWithin "BedsThatFit", wqM21 _ (List.mem_of_getElem? (i := 3) rfl), rfl⟩
theorem nlRX0_31 : (RX0, 31, yX9_isNight, "BedsThatFit") ∈ NW := List.mem_filterMap.mpr ⟨Cond.methodLinkNest RX0 31 yX9_isNight "BedsThatFit", wqM21 _ (List.mem_of_getElem? (i := 8) rfl), rfl⟩
theorem nlRX3_92 : (RX3, 92, yX9_isIn, "BedsThatFit") ∈ NW := List.mem_filterMap.mpr ⟨Cond.methodLinkNest RX3 92 yX9_isIn "BedsThatFit", wqM28 _ (List.mem_of_getElem? (i := 10) rfl), rfl⟩
theorem nlRX6_50 : (RX6, 50, yX9_isIn, "BedsThatFit") ∈ NW := List.mem_filterMap.mpr ⟨Cond.methodLinkNest RX6 50 yX9_isIn "BedsThatFit", wqM38 _ (List.mem_of_getElem? (i := 14) rfl), rfl⟩
theorem kcRX9_152 : Cond.constant RX9 152 (1000000) ∈ GW := wqG27 (i := 8) rfl rfl
theorem kcRJ6_265 : Cond.constant RJ6 265 (1431655765) ∈ GW := wqG30 (i := 4) rfl rfl
theorem kcRJ6_266 : Cond.constant RJ6 266 (858993459) ∈ GW := wqG30 (i := 5) rfl rfl
theorem kcRJ6_267 : Cond.constant RJ6 267 (252645135) ∈ GW := wqG30 (i := 6) rfl rfl
theorem kcRX4_37 : Cond.constant RX4 37 (1000000) ∈ GW := wqG33 (i := 7) rfl rfl
theorem kcRX2_78 : Cond.constant RX2 78 (1000000) ∈ GW := wqG36 (i := 11) rfl rfl
theorem kcRX0_46 : Cond.constantLong RX0 46 (7919) ∈ GW := wqG25 (i := 16) rfl rfl
theorem kcRX0_48 : Cond.constantLong RX0 48 (6151) ∈ GW := wqG25 (i := 17) rfl rfl
theorem kcRX0_50 : Cond.constantLong RX0 50 (101) ∈ GW := wqG25 (i := 18) rfl rfl
theorem kcRX0_52 : Cond.constantLong RX0 52 (65521) ∈ GW := wqG25 (i := 19) rfl rfl
theorem kcRX0_54 : Cond.constantLong RX0 54 (7) ∈ GW := wqG26 (i := 0) rfl rfl
theorem kcRX10_107 : Cond.constantLong RX10 107 (32) ∈ GW := wqG48 (i := 11) rfl rfl
theorem kcRX10_109 : Cond.constantLong RX10 109 (126) ∈ GW := wqG48 (i := 12) rfl rfl
theorem kcRX10_117 : Cond.constantLong RX10 117 (48) ∈ GW := wqG49 (i := 16) rfl rfl
theorem kcRX10_119 : Cond.constantLong RX10 119 (57) ∈ GW := wqG49 (i := 17) rfl rfl
theorem kcRX10_131 : Cond.constantLong RX10 131 (40) ∈ GW := wqG49 (i := 18) rfl rfl
theorem kcRX10_133 : Cond.constantLong RX10 133 (99) ∈ GW := wqG49 (i := 19) rfl rfl
theorem kcRX10_105 : Cond.constantLong RX10 105 (29) ∈ GW := wqG50 (i := 0) rfl rfl
theorem kcRX10_138 : Cond.constantLong RX10 138 (9) ∈ GW := wqG50 (i := 1) rfl rfl
theorem kcRX10_143 : Cond.constantLong RX10 143 (4) ∈ GW := wqG50 (i := 2) rfl rfl
theorem kcRX10_148 : Cond.constantLong RX10 148 (2) ∈ GW := wqG50 (i := 3) rfl rfl
theorem kcRX10_183 : Cond.constantLong RX10 183 (7919) ∈ GW := wqG51 (i := 4) rfl rfl
theorem kcRX10_185 : Cond.constantLong RX10 185 (6151) ∈ GW := wqG51 (i := 5) rfl rfl
theorem kcRX10_187 : Cond.constantLong RX10 187 (101) ∈ GW := wqG51 (i := 6) rfl rfl
theorem kcRX10_189 : Cond.constantLong RX10 189 (65521) ∈ GW := wqG51 (i := 7) rfl rfl
theorem kcRX10_191 : Cond.constantLong RX10 191 (7) ∈ GW := wqG51 (i := 8) rfl rfl
theorem kcRX10_238 : Cond.constantLong RX10 238 (3) ∈ GW := wqG54 (i := 8) rfl rfl
theorem kcRX10_246 : Cond.constantLong RX10 246 (-9) ∈ GW := wqG55 (i := 5) rfl rfl
theorem kcRX10_251 : Cond.constantLong RX10 251 (-1) ∈ GW := wqG55 (i := 18) rfl rfl
theorem kcRX10_262 : Cond.constantLong RX10 262 (10) ∈ GW := wqG59 (i := 7) rfl rfl
theorem kcRX10_264 : Cond.constantLong RX10 264 (9999) ∈ GW := wqG59 (i := 12) rfl rfl
theorem acN : Cond.native arraycopyName ∈ GW := wqG33 (i := 6) rfl rfl
theorem acS : Cond.static arraycopyName ∈ GW := wqG33 (i := 5) rfl rfl
theorem acI : Cond.initialized "java/lang/System" ∈ GW := wqG2 (i := 18) rfl rfl
