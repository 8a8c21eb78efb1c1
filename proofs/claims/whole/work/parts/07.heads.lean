/-! headers of the methods: name, code, locals, what it returns; and where the tables' words on it lie -/
abbrev mj_H : Type := MethodName × ByteArray × Nat × Option FieldType
abbrev mj_Q : Type := Bool × Nat × Nat × Nat × Nat × Nat × Nat
def mj_hds : List mj_H := [
  (yX0_copyFrom, cX0_copyFrom, 2, none),
  (yX1_copyFrom, cX1_copyFrom, 2, none),
  (yX1_placeOf, cX1_placeOf, 3, (some .int)),
  (yX1_holds, cX1_holds, 2, (some .boolean)),
  (yX1_whoInPlace, cX1_whoInPlace, 2, (some .int)),
  (yX1_bitsOfPersons, cX1_bitsOfPersons, 3, (some .int)),
  (yX1_measure, cX1_measure, 2, (some .int)),
  (yX1_factOf, cX1_factOf, 3, (some .int)),
  (yX1_isTaken, cX1_isTaken, 6, (some .boolean)),
  (yX1_enter, cX1_enter, 6, none),
  (yX1_drop, cX1_drop, 4, none),
  (yX1_put, cX1_put, 4, none),
  (yX1_inherit, cX1_inherit, 4, none),
  (yX1_endDay, cX1_endDay, 2, none),
  (yX1_whyNoWalk, cX1_whyNoWalk, 6, (some .int)),
  (yX1_canStep, cX1_canStep, 4, (some .boolean)),
  (yX1_shift, cX1_shift, 4, none),
  (yX1_walk, cX1_walk, 4, none),
  (yX1_pieces, cX1_pieces, 1, (some .int)),
  (yX1_cornerX, cX1_cornerX, 2, (some .int)),
  (yX1_cornerY, cX1_cornerY, 2, (some .int)),
  (yX1_twiceSouth, cX1_twiceSouth, 3, (some .int)),
  (yX1_unfairness, cX1_unfairness, 1, (some .int)),
  (yX1_sideOf, cX1_sideOf, 3, (some .int)),
  (yX1_sideAmong, cX1_sideAmong, 12, (some .int)),
  (yX1_joinSides, cX1_joinSides, 2, (some .int)),
  (yX1_sideOfPiece, cX1_sideOfPiece, 7, (some .int)),
  (yX1_firstPinch, cX1_firstPinch, 3, (some .int)),
  (yX1_foldsBack, cX1_foldsBack, 6, (some .boolean)),
  (yX1_meet, cX1_meet, 3, (some .boolean)),
  (yX1_isCornerOn, cX1_isCornerOn, 3, (some .boolean)),
  (yX1_parts, cX1_parts, 3, (some .boolean)),
  (yX1_turnTo, cX1_turnTo, 7, (some .int)),
  (yX2_pass, cX2_pass, 5, none),
  (yX2_signsOfAct, cX2_signsOfAct, 2, (some .int)),
  (yX2_passAct, cX2_passAct, 6, (some .int)),
  (yX2_passDeath, cX2_passDeath, 2, (some .int)),
  (yX2_passHeir, cX2_passHeir, 3, (some .int)),
  (yX2_passWalk, cX2_passWalk, 6, (some .int)),
  (yX3_count, cX3_count, 8, none),
  (yX3_keepOnly, cX3_keepOnly, 4, none),
  (yX3_waysBehindDeath, cX3_waysBehindDeath, 5, (some .int)),
  (yX3_firstToDie, cX3_firstToDie, 4, (some .int)),
  (yX4_gather, cX4_gather, 4, none),
  (yX4_gatherOf, cX4_gatherOf, 12, none),
  (yX4_take, cX4_take, 5, none),
  (yX4_mostLeft, cX4_mostLeft, 3, (some .int)),
  (yX4_bestToAsk, cX4_bestToAsk, 4, (some .int)),
  (yX5_add, cX5_add, 2, none),
  (yX5_signAt, cX5_signAt, 2, (some .int)),
  (yX5_firstFault, cX5_firstFault, 3, (some .int)),
  (yX5_dueBehind, cX5_dueBehind, 3, (some .int)),
  (yX5_isLetter, cX5_isLetter, 1, (some .boolean)),
  (yX5_directionOf, cX5_directionOf, 1, (some .int)),
  (yX6_copyFrom, cX6_copyFrom, 2, none),
  (yX6_add, cX6_add, 4, none),
  (yX6_fit, cX6_fit, 3, (some .boolean)),
  (yX7_at, cX7_at, 2, (some .int)),
  (yX7_walk, cX7_walk, 5, none),
  (yX7_clearWays, cX7_clearWays, 2, none),
  (yX7_spread, cX7_spread, 5, none),
  (yX7_spreadFrom, cX7_spreadFrom, 8, none),
  (yX7_waysTo, cX7_waysTo, 7, (some .int)),
  (yX8_isFound, cX8_isFound, 1, (some .boolean)),
  (yX8_find, cX8_find, 7, none),
  (yX8_tryPerson, cX8_tryPerson, 13, none),
  (yX9_copyFrom, cX9_copyFrom, 2, none),
  (yX9_holds, cX9_holds, 2, (some .boolean)),
  (yX9_put, cX9_put, 4, none),
  (yX9_bitsOn, cX9_bitsOn, 5, (some .int)),
  (yX10_pass, cX10_pass, 6, none),
  (yX10_walkIfPossible, cX10_walkIfPossible, 5, none),
  (yX11_stand, cX11_stand, 6, (some .int)),
  (yX11_leave, cX11_leave, 2, (some .int)),
  (yX11_set, cX11_set, 5, (some .int)),
  (yX11_village, cX11_village, 4, (some .int)),
  (yX11_raze, cX11_raze, 2, (some .int)),
  (yX11_say, cX11_say, 2, (some .int)),
  (yX11_wipe, cX11_wipe, 2, (some .int)),
  (yX11_fault, cX11_fault, 1, (some .int)),
  (yX11_judge, cX11_judge, 3, (some .int)),
  (yX11_behind, cX11_behind, 5, (some .int)),
  (yX11_side, cX11_side, 4, (some .int)),
  (yX11_south, cX11_south, 3, (some .int)),
  (yX11_lies, cX11_lies, 3, (some .int)),
  (yX11_done, cX11_done, 2, (some .int)),
  (yX11_sway, cX11_sway, 5, (some .int)),
  (yX11_fair, cX11_fair, 7, (some .int)),
  (yX11_cedes, cX11_cedes, 2, (some .int)),
  (yX11_orders, cX11_orders, 2, (some .int)),
  (yX11_seen, cX11_seen, 4, (some .int)),
  (yX11_forget, cX11_forget, 2, (some .int)),
  (yX11_moved, cX11_moved, 2, (some .int)),
  (yX11_ask, cX11_ask, 3, (some .int)),
  (yX11_crowns, cX11_crowns, 2, (some .int)),
  (yX11_goat, cX11_goat, 8, (some .long)),
  (yX11_year, cX11_year, 4, (some .int)),
  (yX11_image, cX11_image, 2, (some .int)),
  (yX11_restore, cX11_restore, 2, (some .int)),
  (yX11_told, cX11_told, 2, (some .int)),
  (yX11_tellPerson, cX11_tellPerson, 3, (some .int)),
  (yX11_tellVillage, cX11_tellVillage, 2, (some .int)),
  (yX11_tryDays, cX11_tryDays, 1, (some .int)),
  (yX11_playTurns, cX11_playTurns, 7, (some .int)),
  (yX11_isPerson, cX11_isPerson, 1, (some .boolean)),
  (yX11_isLand, cX11_isLand, 2, (some .boolean)),
  (yX11_isSide, cX11_isSide, 1, (some .boolean)),
  (yX11_pointCode, cX11_pointCode, 2, (some .int)),
  (yX12_in, cX12_in, 6, (some .boolean)),
  (yX12_ones, cX12_ones, 3, (some .int)),
  (yX12_size, cX12_size, 1, (some .int)),
  (yX12_isLand, cX12_isLand, 2, (some .boolean)),
  (yX12_isNumber, cX12_isNumber, 1, (some .boolean)),
  (yX12_placeOf, cX12_placeOf, 4, (some .int)),
  (yX12_persons, cX12_persons, 3, (some .int)),
  (yX12_whoAt, cX12_whoAt, 5, (some .int)),
  (yX12_stand, cX12_stand, 6, (some .int)),
  (yX12_drop, cX12_drop, 3, none),
  (yX12_leave, cX12_leave, 2, (some .int)),
  (yX12_set, cX12_set, 4, (some .int)),
  (yX12_village, cX12_village, 4, (some .int)),
  (yX12_raze, cX12_raze, 2, (some .int)),
  (yX12_say, cX12_say, 2, (some .int)),
  (yX12_wipe, cX12_wipe, 2, (some .int)),
  (yX12_isLetter, cX12_isLetter, 1, (some .boolean)),
  (yX12_close, cX12_close, 4, (some .int)),
  (yX12_begin, cX12_begin, 2, (some .int)),
  (yX12_deed, cX12_deed, 3, (some .int)),
  (yX12_readOn, cX12_readOn, 3, (some .int)),
  (yX12_fault, cX12_fault, 3, (some .int)),
  (yX12_eastBy, cX12_eastBy, 1, (some .int)),
  (yX12_northBy, cX12_northBy, 1, (some .int)),
  (yX12_whyNotWalk, cX12_whyNotWalk, 6, (some .int)),
  (yX12_whyNot, cX12_whyNot, 5, (some .int)),
  (yX12_walk, cX12_walk, 4, none),
  (yX12_inherit, cX12_inherit, 3, none),
  (yX12_happen, cX12_happen, 6, none),
  (yX12_keepNow, cX12_keepNow, 2, none),
  (yX12_back, cX12_back, 3, (some .int)),
  (yX12_goDays, cX12_goDays, 3, none),
  (yX12_refusal, cX12_refusal, 1, (some .int)),
  (yX12_judge, cX12_judge, 3, (some .int)),
  (yX12_ofPerson, cX12_ofPerson, 3, (some .int)),
  (yX12_behind, cX12_behind, 5, (some .int)),
  (yX12_addPoint, cX12_addPoint, 4, none),
  (yX12_layLineOf, cX12_layLineOf, 4, none),
  (yX12_layLine, cX12_layLine, 1, none),
  (yX12_turn, cX12_turn, 6, (some .int)),
  (yX12_turnOf, cX12_turnOf, 4, (some .int)),
  (yX12_isBetween, cX12_isBetween, 3, (some .boolean)),
  (yX12_isOn, cX12_isOn, 5, (some .boolean)),
  (yX12_isNorthOf, cX12_isNorthOf, 8, (some .boolean)),
  (yX12_sideOf, cX12_sideOf, 5, (some .int)),
  (yX12_southOf, cX12_southOf, 3, (some .int)),
  (yX12_signOf, cX12_signOf, 1, (some .int)),
  (yX12_haveCommon, cX12_haveCommon, 9, (some .boolean)),
  (yX12_goesBack, cX12_goesBack, 6, (some .boolean)),
  (yX12_pinched, cX12_pinched, 4, (some .int)),
  (yX12_villagesOn, cX12_villagesOn, 5, (some .int)),
  (yX12_side, cX12_side, 4, (some .int)),
  (yX12_south, cX12_south, 3, (some .int)),
  (yX12_lies, cX12_lies, 3, (some .int)),
  (yX12_done, cX12_done, 2, (some .int)),
  (yX12_put, cX12_put, 4, none),
  (yX12_trySway, cX12_trySway, 13, none),
  (yX12_sway, cX12_sway, 6, (some .int)),
  (yX12_canStep, cX12_canStep, 5, (some .boolean)),
  (yX12_southNow, cX12_southNow, 1, (some .int)),
  (yX12_southBy, cX12_southBy, 4, (some .int)),
  (yX12_unfair, cX12_unfair, 1, (some .int)),
  (yX12_fair, cX12_fair, 6, (some .int)),
  (yX12_cedes, cX12_cedes, 3, (some .int)),
  (yX12_laySides, cX12_laySides, 2, none),
  (yX12_isSame, cX12_isSame, 5, (some .boolean)),
  (yX12_waysOf, cX12_waysOf, 4, (some .int)),
  (yX12_orders, cX12_orders, 6, (some .int)),
  (yX12_seen, cX12_seen, 4, (some .int)),
  (yX12_forget, cX12_forget, 2, (some .int)),
  (yX12_isAsSeen, cX12_isAsSeen, 3, (some .boolean)),
  (yX12_lookAt, cX12_lookAt, 3, none),
  (yX12_tryMoves, cX12_tryMoves, 8, none),
  (yX12_findMoves, cX12_findMoves, 2, none),
  (yX12_moved, cX12_moved, 2, (some .int)),
  (yX12_mostMoves, cX12_mostMoves, 6, (some .int)),
  (yX12_ask, cX12_ask, 5, (some .int)),
  (yX12_northsBest, cX12_northsBest, 4, (some .int)),
  (yX12_answered, cX12_answered, 2, (some .int)),
  (yX12_crowns, cX12_crowns, 7, (some .int)),
  (yX12_lowest, cX12_lowest, 11, (some .long)),
  (yX12_strayOnce, cX12_strayOnce, 8, none),
  (yX12_goat, cX12_goat, 12, (some .long)),
  (yX12_year, cX12_year, 10, (some .int)),
  (yX12_pass, cX12_pass, 3, (some .int)),
  (yX12_passRow, cX12_passRow, 3, none),
  (yX12_passAll, cX12_passAll, 1, none),
  (yX12_image, cX12_image, 2, (some .int)),
  (yX12_restore, cX12_restore, 2, (some .int)),
  (yX12_toldOf, cX12_toldOf, 3, (some .int)),
  (yX12_told, cX12_told, 3, (some .int)),
  (yJ6_bitCount_0f7a4, cJ6_bitCount_0f7a4, 1, (some .int)),
  (yJ6_signum_0f7a4, cJ6_signum_0f7a4, 1, (some .int))]
def mj_hps : List mj_Q := [
  (false, 1, 0, 801, 55, 799, 800),
  (false, 1, 1, 454, 56, 452, 453),
  (false, 1, 1, 362, 56, 360, 361),
  (false, 1, 1, 358, 56, 356, 357),
  (false, 1, 1, 825, 56, 823, 824),
  (false, 0, 1, 662, 56, 660, 661),
  (false, 1, 1, 390, 56, 388, 389),
  (false, 2, 1, 521, 56, 519, 520),
  (false, 3, 1, 366, 56, 364, 365),
  (false, 4, 1, 370, 56, 368, 369),
  (false, 1, 1, 382, 56, 380, 381),
  (false, 3, 1, 374, 56, 372, 373),
  (false, 2, 1, 485, 56, 483, 484),
  (false, 0, 1, 473, 56, 471, 472),
  (false, 3, 1, 495, 56, 493, 494),
  (false, 2, 1, 644, 56, 642, 643),
  (false, 3, 1, 509, 56, 507, 508),
  (false, 3, 1, 505, 56, 503, 504),
  (false, 0, 1, 533, 56, 531, 532),
  (false, 1, 1, 541, 56, 539, 540),
  (false, 1, 1, 545, 56, 543, 544),
  (false, 0, 1, 556, 56, 554, 555),
  (false, 0, 1, 638, 56, 636, 637),
  (false, 2, 1, 529, 56, 527, 528),
  (false, 4, 1, 537, 56, 535, 536),
  (true, 2, 1, 618, 56, 617, 0),
  (true, 6, 1, 548, 56, 547, 0),
  (false, 0, 1, 560, 56, 558, 559),
  (false, 1, 1, 564, 56, 562, 563),
  (false, 2, 1, 568, 56, 566, 567),
  (false, 2, 1, 572, 56, 570, 571),
  (false, 2, 1, 576, 56, 574, 575),
  (false, 2, 1, 580, 56, 578, 579),
  (false, 2, 2, 461, 60, 459, 460),
  (true, 2, 2, 512, 60, 511, 0),
  (false, 3, 2, 465, 60, 463, 464),
  (true, 2, 2, 476, 60, 475, 0),
  (true, 3, 2, 481, 60, 480, 0),
  (false, 4, 2, 491, 60, 489, 490),
  (false, 2, 3, 658, 62, 656, 657),
  (true, 3, 3, 666, 62, 665, 0),
  (false, 1, 3, 672, 62, 670, 671),
  (false, 1, 3, 676, 62, 674, 675),
  (false, 2, 4, 696, 63, 694, 695),
  (false, 3, 4, 713, 63, 711, 712),
  (false, 3, 4, 706, 63, 704, 705),
  (false, 1, 4, 729, 63, 727, 728),
  (false, 1, 4, 725, 63, 723, 724),
  (false, 1, 5, 420, 59, 418, 419),
  (false, 1, 5, 469, 59, 467, 468),
  (false, 0, 5, 432, 59, 430, 431),
  (true, 2, 5, 435, 59, 434, 0),
  (true, 1, 5, 438, 59, 437, 0),
  (true, 1, 5, 442, 59, 441, 0),
  (false, 1, 6, 811, 58, 809, 810),
  (false, 3, 6, 684, 58, 682, 683),
  (false, 1, 6, 701, 58, 699, 700),
  (true, 2, 7, 760, 64, 759, 0),
  (false, 3, 7, 753, 64, 751, 752),
  (false, 0, 7, 757, 64, 755, 756),
  (false, 1, 7, 765, 64, 763, 764),
  (false, 3, 7, 769, 64, 767, 768),
  (false, 2, 7, 776, 64, 774, 775),
  (false, 0, 8, 630, 61, 628, 629),
  (false, 4, 8, 608, 61, 606, 607),
  (false, 5, 8, 613, 61, 611, 612),
  (false, 1, 9, 806, 57, 804, 805),
  (false, 1, 9, 412, 57, 410, 411),
  (false, 3, 9, 398, 57, 396, 397),
  (false, 2, 9, 594, 57, 592, 593),
  (false, 3, 10, 785, 65, 783, 784),
  (false, 4, 10, 791, 65, 789, 790),
  (false, 4, 11, 348, 54, 346, 347),
  (false, 1, 11, 378, 54, 376, 377),
  (false, 2, 11, 386, 54, 384, 385),
  (false, 3, 11, 394, 54, 392, 393),
  (false, 1, 11, 408, 54, 406, 407),
  (false, 1, 11, 416, 54, 414, 415),
  (false, 0, 11, 424, 54, 422, 423),
  (false, 0, 11, 428, 54, 426, 427),
  (false, 1, 11, 446, 54, 444, 445),
  (false, 2, 11, 516, 54, 514, 515),
  (false, 2, 11, 525, 54, 523, 524),
  (false, 1, 11, 552, 54, 550, 551),
  (false, 1, 11, 587, 54, 585, 586),
  (false, 0, 11, 600, 54, 598, 599),
  (false, 4, 11, 604, 54, 602, 603),
  (false, 1, 11, 634, 54, 632, 633),
  (false, 1, 11, 650, 54, 648, 649),
  (false, 1, 11, 654, 54, 652, 653),
  (false, 3, 11, 680, 54, 678, 679),
  (false, 0, 11, 688, 54, 686, 687),
  (false, 1, 11, 692, 54, 690, 691),
  (false, 1, 11, 721, 54, 719, 720),
  (false, 1, 11, 737, 54, 735, 736),
  (false, 5, 11, 748, 54, 746, 747),
  (false, 3, 11, 781, 54, 779, 780),
  (false, 1, 11, 797, 54, 795, 796),
  (false, 1, 11, 816, 54, 814, 815),
  (false, 1, 11, 820, 54, 818, 819),
  (false, 2, 11, 829, 54, 828, 1),
  (false, 1, 11, 833, 54, 832, 2),
  (false, 0, 11, 450, 54, 449, 0),
  (true, 3, 11, 740, 54, 739, 0),
  (true, 1, 11, 351, 54, 350, 0),
  (true, 2, 11, 354, 54, 353, 0),
  (true, 1, 11, 590, 54, 589, 0),
  (true, 2, 11, 626, 54, 625, 0),
  (true, 3, 12, 983, 66, 982, 0),
  (true, 1, 12, 1016, 66, 1015, 0),
  (true, 1, 12, 1201, 66, 1200, 0),
  (true, 2, 12, 986, 66, 985, 0),
  (true, 1, 12, 979, 66, 978, 0),
  (false, 1, 12, 991, 66, 990, 3),
  (false, 0, 12, 1125, 66, 1124, 21),
  (false, 2, 12, 995, 66, 994, 4),
  (false, 4, 12, 976, 66, 974, 975),
  (false, 1, 12, 1003, 66, 1002, 5),
  (false, 1, 12, 999, 66, 997, 998),
  (false, 2, 12, 1007, 66, 1005, 1006),
  (false, 3, 12, 1013, 66, 1011, 1012),
  (false, 1, 12, 1020, 66, 1018, 1019),
  (false, 1, 12, 1024, 66, 1022, 1023),
  (false, 0, 12, 1030, 66, 1028, 1029),
  (true, 1, 12, 1045, 66, 1044, 0),
  (false, 3, 12, 1051, 66, 1050, 8),
  (false, 1, 12, 1042, 66, 1041, 7),
  (false, 1, 12, 1055, 66, 1054, 9),
  (false, 2, 12, 1038, 66, 1037, 6),
  (false, 0, 12, 1034, 66, 1032, 1033),
  (true, 1, 12, 1085, 66, 1084, 0),
  (true, 1, 12, 1088, 66, 1087, 0),
  (false, 3, 12, 1082, 66, 1081, 14),
  (false, 4, 12, 1078, 66, 1077, 13),
  (false, 3, 12, 1096, 66, 1095, 16),
  (false, 2, 12, 1100, 66, 1099, 17),
  (false, 4, 12, 1092, 66, 1091, 15),
  (false, 0, 12, 1069, 66, 1068, 11),
  (false, 1, 12, 1104, 66, 1103, 18),
  (false, 0, 12, 1074, 66, 1073, 12),
  (false, 0, 12, 1065, 66, 1064, 10),
  (false, 1, 12, 1061, 66, 1059, 1060),
  (false, 2, 12, 1113, 66, 1112, 19),
  (false, 2, 12, 1108, 66, 1106, 1107),
  (false, 3, 12, 1133, 66, 1132, 23),
  (false, 1, 12, 1129, 66, 1128, 22),
  (false, 0, 12, 1121, 66, 1120, 20),
  (true, 6, 12, 1151, 66, 1150, 0),
  (false, 3, 12, 1148, 66, 1147, 26),
  (true, 3, 12, 1144, 66, 1143, 0),
  (false, 3, 12, 1141, 66, 1140, 25),
  (false, 3, 12, 1155, 66, 1154, 27),
  (false, 2, 12, 1137, 66, 1136, 24),
  (false, 0, 12, 1163, 66, 1162, 28),
  (true, 1, 12, 1178, 66, 1177, 0),
  (false, 2, 12, 1175, 66, 1174, 31),
  (false, 1, 12, 1171, 66, 1170, 30),
  (false, 0, 12, 1167, 66, 1166, 29),
  (false, 1, 12, 1186, 66, 1185, 32),
  (false, 2, 12, 1117, 66, 1115, 1116),
  (false, 1, 12, 1159, 66, 1157, 1158),
  (false, 1, 12, 1182, 66, 1180, 1181),
  (false, 0, 12, 1190, 66, 1188, 1189),
  (false, 3, 12, 1205, 66, 1204, 34),
  (false, 4, 12, 1198, 66, 1197, 33),
  (false, 4, 12, 1194, 66, 1192, 1193),
  (false, 2, 12, 1220, 66, 1219, 36),
  (false, 0, 12, 1213, 66, 1212, 35),
  (false, 2, 12, 1224, 66, 1223, 37),
  (true, 1, 12, 1216, 66, 1215, 0),
  (false, 1, 12, 1209, 66, 1207, 1208),
  (false, 1, 12, 1228, 66, 1226, 1227),
  (false, 0, 12, 1236, 66, 1235, 38),
  (false, 1, 12, 1240, 66, 1239, 39),
  (false, 1, 12, 1244, 66, 1243, 40),
  (false, 1, 12, 1232, 66, 1230, 1231),
  (false, 3, 12, 1248, 66, 1246, 1247),
  (false, 0, 12, 1252, 66, 1250, 1251),
  (false, 0, 12, 1268, 66, 1267, 43),
  (false, 1, 12, 1264, 66, 1263, 42),
  (false, 1, 12, 1272, 66, 1271, 44),
  (false, 0, 12, 1260, 66, 1259, 41),
  (false, 1, 12, 1256, 66, 1254, 1255),
  (false, 1, 12, 1280, 66, 1279, 45),
  (false, 1, 12, 1276, 66, 1274, 1275),
  (false, 0, 12, 1292, 66, 1291, 47),
  (false, 1, 12, 1288, 66, 1287, 46),
  (false, 1, 12, 1284, 66, 1282, 1283),
  (true, 3, 12, 1306, 66, 1305, 0),
  (false, 2, 12, 1302, 66, 1301, 48),
  (false, 5, 12, 1296, 66, 1294, 1295),
  (false, 3, 12, 1310, 66, 1308, 1309),
  (false, 1, 12, 1326, 66, 1325, 50),
  (false, 1, 12, 1330, 66, 1329, 51),
  (false, 0, 12, 1322, 66, 1321, 49),
  (false, 1, 12, 1318, 66, 1316, 1317),
  (false, 1, 12, 1334, 66, 1332, 1333),
  (false, 2, 12, 1345, 66, 1344, 52),
  (false, 1, 12, 1338, 66, 1336, 1337),
  (true, 1, 99, 401, 67, 400, 0),
  (true, 1, 99, 583, 67, 582, 0)]
abbrev mj_NM : Nat := 201
def mj_hd (mi : Nat) : mj_H := mj_hds.getD mi (yX0_init, cX0_init, 0, none)
def mj_hp (mi : Nat) : mj_Q := mj_hps.getD mi (false, 0, 99, 0, 0, 0, 0)
def mj_at (i : Nat) (w : Cond) : Bool := decide (lw_tbl[i]? = some w) && goodWord w
theorem mj_at_mem {i : Nat} {w : Cond} (h : mj_at i w = true) : w ∈ mj_tb := by
  unfold mj_at at h
  rw [Bool.and_eq_true] at h
  exact mj_tb_mem (List.mem_of_getElem? (of_decide_eq_true h.1)) h.2
def mj_cd (mi : Nat) : Cond := .code (mj_hd mi).1 (mj_hd mi).2.1 (mj_hd mi).2.2.1 (mj_hd mi).2.2.2
def mj_hwb (mi : Nat) : Bool :=
  (mj_at (mj_hp mi).2.2.2.1 (mj_cd mi) && (mj_at (mj_hp mi).2.2.2.2.1 (.initialized (mj_hd mi).1.cls) && plainName (mj_hd mi).1.cls)) && ((decide ((mj_hd mi).1.cls ≠ "java/lang/invoke/MethodHandle") && decide ((mj_hd mi).1.cls ≠ "java/lang/invoke/VarHandle")) && (decide ((parseMethodDescriptor (mj_hd mi).1.desc).map (fun d => d.parameters.length) = some (mj_hp mi).2.1) && decide ((mj_hd mi).2.2.1 ≤ 45))) &&
  (match (mj_hp mi).1 with
   | true => mj_at (mj_hp mi).2.2.2.2.2.1 (.static (mj_hd mi).1)
   | false => mj_at (mj_hp mi).2.2.2.2.2.1 (.instanceMethod (mj_hd mi).1) && (mj_at (mj_hp mi).2.2.2.2.2.2 (.selects (mj_hd mi).1.cls (mj_hd mi).1 (mj_hd mi).1) && decide ((vwCl[(mj_hp mi).2.2.1]?).map (fun q => q.1) = some (mj_hd mi).1.cls)))
set_option maxRecDepth 100000 in
theorem mj_hw0_0 : (List.range' 0 4).all mj_hwb = true := by decide +kernel
set_option maxRecDepth 100000 in
theorem mj_hw0_1 : (List.range' 4 4).all mj_hwb = true := by decide +kernel
set_option maxRecDepth 100000 in
theorem mj_hw0_2 : (List.range' 8 4).all mj_hwb = true := by decide +kernel
set_option maxRecDepth 100000 in
theorem mj_hw0_3 : (List.range' 12 4).all mj_hwb = true := by decide +kernel
set_option maxRecDepth 100000 in
theorem mj_hw0_4 : (List.range' 16 4).all mj_hwb = true := by decide +kernel
set_option maxRecDepth 100000 in
theorem mj_hw0_5 : (List.range' 20 4).all mj_hwb = true := by decide +kernel
set_option maxRecDepth 100000 in
theorem mj_hw0_6 : (List.range' 24 4).all mj_hwb = true := by decide +kernel
set_option maxRecDepth 100000 in
theorem mj_hw0_7 : (List.range' 28 4).all mj_hwb = true := by decide +kernel
set_option maxRecDepth 100000 in
theorem mj_hw0_8 : (List.range' 32 4).all mj_hwb = true := by decide +kernel
set_option maxRecDepth 100000 in
theorem mj_hw0_9 : (List.range' 36 4).all mj_hwb = true := by decide +kernel
set_option maxRecDepth 100000 in
theorem mj_hw0_10 : (List.range' 40 4).all mj_hwb = true := by decide +kernel
set_option maxRecDepth 100000 in
theorem mj_hw0_11 : (List.range' 44 4).all mj_hwb = true := by decide +kernel
set_option maxRecDepth 100000 in
theorem mj_hw0_12 : (List.range' 48 4).all mj_hwb = true := by decide +kernel
set_option maxRecDepth 100000 in
theorem mj_hw0_13 : (List.range' 52 4).all mj_hwb = true := by decide +kernel
set_option maxRecDepth 100000 in
theorem mj_hw0_14 : (List.range' 56 4).all mj_hwb = true := by decide +kernel
set_option maxRecDepth 100000 in
theorem mj_hw0_15 : (List.range' 60 4).all mj_hwb = true := by decide +kernel
set_option maxRecDepth 100000 in
theorem mj_hw0_16 : (List.range' 64 4).all mj_hwb = true := by decide +kernel
set_option maxRecDepth 100000 in
theorem mj_hw0_17 : (List.range' 68 4).all mj_hwb = true := by decide +kernel
set_option maxRecDepth 100000 in
theorem mj_hw0_18 : (List.range' 72 4).all mj_hwb = true := by decide +kernel
set_option maxRecDepth 100000 in
theorem mj_hw0_19 : (List.range' 76 4).all mj_hwb = true := by decide +kernel
set_option maxRecDepth 100000 in
theorem mj_hw0_20 : (List.range' 80 4).all mj_hwb = true := by decide +kernel
set_option maxRecDepth 100000 in
theorem mj_hw0_21 : (List.range' 84 4).all mj_hwb = true := by decide +kernel
set_option maxRecDepth 100000 in
theorem mj_hw0_22 : (List.range' 88 4).all mj_hwb = true := by decide +kernel
set_option maxRecDepth 100000 in
theorem mj_hw0_23 : (List.range' 92 4).all mj_hwb = true := by decide +kernel
set_option maxRecDepth 100000 in
theorem mj_hw0_24 : (List.range' 96 4).all mj_hwb = true := by decide +kernel
set_option maxRecDepth 100000 in
theorem mj_hw0_25 : (List.range' 100 4).all mj_hwb = true := by decide +kernel
set_option maxRecDepth 100000 in
theorem mj_hw0_26 : (List.range' 104 4).all mj_hwb = true := by decide +kernel
set_option maxRecDepth 100000 in
theorem mj_hw0_27 : (List.range' 108 4).all mj_hwb = true := by decide +kernel
set_option maxRecDepth 100000 in
theorem mj_hw0_28 : (List.range' 112 4).all mj_hwb = true := by decide +kernel
set_option maxRecDepth 100000 in
theorem mj_hw0_29 : (List.range' 116 4).all mj_hwb = true := by decide +kernel
set_option maxRecDepth 100000 in
theorem mj_hw0_30 : (List.range' 120 4).all mj_hwb = true := by decide +kernel
set_option maxRecDepth 100000 in
theorem mj_hw0_31 : (List.range' 124 4).all mj_hwb = true := by decide +kernel
set_option maxRecDepth 100000 in
theorem mj_hw0_32 : (List.range' 128 4).all mj_hwb = true := by decide +kernel
set_option maxRecDepth 100000 in
theorem mj_hw0_33 : (List.range' 132 4).all mj_hwb = true := by decide +kernel
set_option maxRecDepth 100000 in
theorem mj_hw0_34 : (List.range' 136 4).all mj_hwb = true := by decide +kernel
set_option maxRecDepth 100000 in
theorem mj_hw0_35 : (List.range' 140 4).all mj_hwb = true := by decide +kernel
set_option maxRecDepth 100000 in
theorem mj_hw0_36 : (List.range' 144 4).all mj_hwb = true := by decide +kernel
set_option maxRecDepth 100000 in
theorem mj_hw0_37 : (List.range' 148 4).all mj_hwb = true := by decide +kernel
set_option maxRecDepth 100000 in
theorem mj_hw0_38 : (List.range' 152 4).all mj_hwb = true := by decide +kernel
set_option maxRecDepth 100000 in
theorem mj_hw0_39 : (List.range' 156 4).all mj_hwb = true := by decide +kernel
set_option maxRecDepth 100000 in
theorem mj_hw0_40 : (List.range' 160 4).all mj_hwb = true := by decide +kernel
set_option maxRecDepth 100000 in
theorem mj_hw0_41 : (List.range' 164 4).all mj_hwb = true := by decide +kernel
set_option maxRecDepth 100000 in
theorem mj_hw0_42 : (List.range' 168 4).all mj_hwb = true := by decide +kernel
set_option maxRecDepth 100000 in
theorem mj_hw0_43 : (List.range' 172 4).all mj_hwb = true := by decide +kernel
set_option maxRecDepth 100000 in
theorem mj_hw0_44 : (List.range' 176 4).all mj_hwb = true := by decide +kernel
set_option maxRecDepth 100000 in
theorem mj_hw0_45 : (List.range' 180 4).all mj_hwb = true := by decide +kernel
set_option maxRecDepth 100000 in
theorem mj_hw0_46 : (List.range' 184 4).all mj_hwb = true := by decide +kernel
set_option maxRecDepth 100000 in
theorem mj_hw0_47 : (List.range' 188 4).all mj_hwb = true := by decide +kernel
set_option maxRecDepth 100000 in
theorem mj_hw0_48 : (List.range' 192 4).all mj_hwb = true := by decide +kernel
set_option maxRecDepth 100000 in
theorem mj_hw0_49 : (List.range' 196 4).all mj_hwb = true := by decide +kernel
set_option maxRecDepth 100000 in
theorem mj_hw0_50 : (List.range' 200 1).all mj_hwb = true := by decide +kernel
theorem mj_hw {mi : Nat} (h : mi < mj_NM) : mj_hwb mi = true := by
  have key : ∀ (a n : Nat), (List.range' a n).all mj_hwb = true → a ≤ mi → mi < a + n → mj_hwb mi = true := fun a n h1 h2 h3 => List.all_eq_true.mp h1 mi (List.mem_range'_1.mpr ⟨h2, h3⟩)
  have h : mi < 201 := h
  rcases Nat.lt_or_ge mi 4 with h0 | h0
  · exact key _ _ mj_hw0_0 (by omega) (by omega)
  rcases Nat.lt_or_ge mi 8 with h4 | h4
  · exact key _ _ mj_hw0_1 (by omega) (by omega)
  rcases Nat.lt_or_ge mi 12 with h8 | h8
  · exact key _ _ mj_hw0_2 (by omega) (by omega)
  rcases Nat.lt_or_ge mi 16 with h12 | h12
  · exact key _ _ mj_hw0_3 (by omega) (by omega)
  rcases Nat.lt_or_ge mi 20 with h16 | h16
  · exact key _ _ mj_hw0_4 (by omega) (by omega)
  rcases Nat.lt_or_ge mi 24 with h20 | h20
  · exact key _ _ mj_hw0_5 (by omega) (by omega)
  rcases Nat.lt_or_ge mi 28 with h24 | h24
  · exact key _ _ mj_hw0_6 (by omega) (by omega)
  rcases Nat.lt_or_ge mi 32 with h28 | h28
  · exact key _ _ mj_hw0_7 (by omega) (by omega)
  rcases Nat.lt_or_ge mi 36 with h32 | h32
  · exact key _ _ mj_hw0_8 (by omega) (by omega)
  rcases Nat.lt_or_ge mi 40 with h36 | h36
  · exact key _ _ mj_hw0_9 (by omega) (by omega)
  rcases Nat.lt_or_ge mi 44 with h40 | h40
  · exact key _ _ mj_hw0_10 (by omega) (by omega)
  rcases Nat.lt_or_ge mi 48 with h44 | h44
  · exact key _ _ mj_hw0_11 (by omega) (by omega)
  rcases Nat.lt_or_ge mi 52 with h48 | h48
  · exact key _ _ mj_hw0_12 (by omega) (by omega)
  rcases Nat.lt_or_ge mi 56 with h52 | h52
  · exact key _ _ mj_hw0_13 (by omega) (by omega)
  rcases Nat.lt_or_ge mi 60 with h56 | h56
  · exact key _ _ mj_hw0_14 (by omega) (by omega)
  rcases Nat.lt_or_ge mi 64 with h60 | h60
  · exact key _ _ mj_hw0_15 (by omega) (by omega)
  rcases Nat.lt_or_ge mi 68 with h64 | h64
  · exact key _ _ mj_hw0_16 (by omega) (by omega)
  rcases Nat.lt_or_ge mi 72 with h68 | h68
  · exact key _ _ mj_hw0_17 (by omega) (by omega)
  rcases Nat.lt_or_ge mi 76 with h72 | h72
  · exact key _ _ mj_hw0_18 (by omega) (by omega)
  rcases Nat.lt_or_ge mi 80 with h76 | h76
  · exact key _ _ mj_hw0_19 (by omega) (by omega)
  rcases Nat.lt_or_ge mi 84 with h80 | h80
  · exact key _ _ mj_hw0_20 (by omega) (by omega)
  rcases Nat.lt_or_ge mi 88 with h84 | h84
  · exact key _ _ mj_hw0_21 (by omega) (by omega)
  rcases Nat.lt_or_ge mi 92 with h88 | h88
  · exact key _ _ mj_hw0_22 (by omega) (by omega)
  rcases Nat.lt_or_ge mi 96 with h92 | h92
  · exact key _ _ mj_hw0_23 (by omega) (by omega)
  rcases Nat.lt_or_ge mi 100 with h96 | h96
  · exact key _ _ mj_hw0_24 (by omega) (by omega)
  rcases Nat.lt_or_ge mi 104 with h100 | h100
  · exact key _ _ mj_hw0_25 (by omega) (by omega)
  rcases Nat.lt_or_ge mi 108 with h104 | h104
  · exact key _ _ mj_hw0_26 (by omega) (by omega)
  rcases Nat.lt_or_ge mi 112 with h108 | h108
  · exact key _ _ mj_hw0_27 (by omega) (by omega)
  rcases Nat.lt_or_ge mi 116 with h112 | h112
  · exact key _ _ mj_hw0_28 (by omega) (by omega)
  rcases Nat.lt_or_ge mi 120 with h116 | h116
  · exact key _ _ mj_hw0_29 (by omega) (by omega)
  rcases Nat.lt_or_ge mi 124 with h120 | h120
  · exact key _ _ mj_hw0_30 (by omega) (by omega)
  rcases Nat.lt_or_ge mi 128 with h124 | h124
  · exact key _ _ mj_hw0_31 (by omega) (by omega)
  rcases Nat.lt_or_ge mi 132 with h128 | h128
  · exact key _ _ mj_hw0_32 (by omega) (by omega)
  rcases Nat.lt_or_ge mi 136 with h132 | h132
  · exact key _ _ mj_hw0_33 (by omega) (by omega)
  rcases Nat.lt_or_ge mi 140 with h136 | h136
  · exact key _ _ mj_hw0_34 (by omega) (by omega)
  rcases Nat.lt_or_ge mi 144 with h140 | h140
  · exact key _ _ mj_hw0_35 (by omega) (by omega)
  rcases Nat.lt_or_ge mi 148 with h144 | h144
  · exact key _ _ mj_hw0_36 (by omega) (by omega)
  rcases Nat.lt_or_ge mi 152 with h148 | h148
  · exact key _ _ mj_hw0_37 (by omega) (by omega)
  rcases Nat.lt_or_ge mi 156 with h152 | h152
  · exact key _ _ mj_hw0_38 (by omega) (by omega)
  rcases Nat.lt_or_ge mi 160 with h156 | h156
  · exact key _ _ mj_hw0_39 (by omega) (by omega)
  rcases Nat.lt_or_ge mi 164 with h160 | h160
  · exact key _ _ mj_hw0_40 (by omega) (by omega)
  rcases Nat.lt_or_ge mi 168 with h164 | h164
  · exact key _ _ mj_hw0_41 (by omega) (by omega)
  rcases Nat.lt_or_ge mi 172 with h168 | h168
  · exact key _ _ mj_hw0_42 (by omega) (by omega)
  rcases Nat.lt_or_ge mi 176 with h172 | h172
  · exact key _ _ mj_hw0_43 (by omega) (by omega)
  rcases Nat.lt_or_ge mi 180 with h176 | h176
  · exact key _ _ mj_hw0_44 (by omega) (by omega)
  rcases Nat.lt_or_ge mi 184 with h180 | h180
  · exact key _ _ mj_hw0_45 (by omega) (by omega)
  rcases Nat.lt_or_ge mi 188 with h184 | h184
  · exact key _ _ mj_hw0_46 (by omega) (by omega)
  rcases Nat.lt_or_ge mi 192 with h188 | h188
  · exact key _ _ mj_hw0_47 (by omega) (by omega)
  rcases Nat.lt_or_ge mi 196 with h192 | h192
  · exact key _ _ mj_hw0_48 (by omega) (by omega)
  rcases Nat.lt_or_ge mi 200 with h196 | h196
  · exact key _ _ mj_hw0_49 (by omega) (by omega)
  rcases Nat.lt_or_ge mi 201 with h200 | h200
  · exact key _ _ mj_hw0_50 (by omega) (by omega)
  omega
theorem mj_hw1 {mi : Nat} (h : mi < mj_NM) : (mj_cd mi ∈ mj_tb ∧ Cond.initialized (mj_hd mi).1.cls ∈ mj_tb ∧ plainName (mj_hd mi).1.cls = true) ∧ ((mj_hd mi).1.cls ≠ "java/lang/invoke/MethodHandle" ∧ (mj_hd mi).1.cls ≠ "java/lang/invoke/VarHandle") ∧ (parseMethodDescriptor (mj_hd mi).1.desc).map (fun d => d.parameters.length) = some (mj_hp mi).2.1 ∧ (mj_hd mi).2.2.1 ≤ 45 := by
  have h1 := mj_hw h
  unfold mj_hwb at h1
  simp only [Bool.and_eq_true, decide_eq_true_eq] at h1
  obtain ⟨⟨⟨a1, a2, a3⟩, ⟨b1, b2⟩, b3, b4⟩, -⟩ := h1
  exact ⟨⟨mj_at_mem a1, mj_at_mem a2, a3⟩, ⟨b1, b2⟩, b3, b4⟩
theorem mj_hw2 {mi : Nat} (h : mi < mj_NM) (hs : (mj_hp mi).1 = true) : Cond.static (mj_hd mi).1 ∈ mj_tb := by
  have h1 := mj_hw h
  unfold mj_hwb at h1
  rw [hs] at h1
  simp only [Bool.and_eq_true] at h1
  exact mj_at_mem h1.2
theorem mj_hw3 {mi : Nat} (h : mi < mj_NM) (hs : (mj_hp mi).1 = false) : Cond.instanceMethod (mj_hd mi).1 ∈ mj_tb ∧ Cond.selects (mj_hd mi).1.cls (mj_hd mi).1 (mj_hd mi).1 ∈ mj_tb ∧ (vwCl[(mj_hp mi).2.2.1]?).map (fun q => q.1) = some (mj_hd mi).1.cls := by
  have h1 := mj_hw h
  unfold mj_hwb at h1
  rw [hs] at h1
  simp only [Bool.and_eq_true, decide_eq_true_eq] at h1
  exact ⟨mj_at_mem h1.2.1, mj_at_mem h1.2.2.1, h1.2.2.2⟩
theorem mj_good {w : Cond} (h : w ∈ mj_tb) : w ∈ mj_tb ∧ ((w.onTables && w.keeps) = true ∨ ∃ ty, w = .arrayClass ty) := ⟨h, good_of_word (List.mem_filter.mp h).2⟩
