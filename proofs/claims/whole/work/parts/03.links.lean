def bw_own (n : Nat) : String := match n with
  | 0 => RX0 | 1 => RX1 | 2 => RX2 | 3 => RX3 | 4 => RX4 | 5 => RL | 6 => RJ9
  | _ => RJ10
/-- field links: own class, pool number, class, slot, place among the words -/
def bw_fl : List (Nat × Nat × Nat × Nat × Nat) := [(2, 39, 2, 0, 61), (3, 34, 2, 0, 62), (1, 65, 2, 0, 63), (2, 55, 2, 1, 64), (1, 110, 2, 1, 65), (3, 184, 2, 1, 66), (2, 9, 2, 2, 67), (1, 86, 2, 2, 68), (3, 93, 2, 2, 69), (2, 15, 2, 3, 70), (3, 83, 2, 3, 71), (2, 18, 2, 4, 72), (3, 72, 2, 4, 73), (2, 21, 2, 5, 74), (3, 108, 2, 5, 75), (2, 24, 2, 6, 76), (3, 86, 2, 6, 77), (2, 27, 2, 7, 78), (3, 102, 2, 7, 79), (2, 30, 2, 8, 80), (3, 105, 2, 8, 81), (2, 33, 2, 9, 82), (3, 124, 2, 9, 83), (2, 36, 2, 10, 84), (1, 104, 2, 10, 85), (3, 190, 2, 10, 86), (0, 12, 0, 0, 119), (0, 18, 0, 1, 120), (0, 26, 0, 2, 121), (0, 30, 0, 3, 122), (3, 215, 0, 3, 123), (1, 9, 1, 0, 139), (1, 15, 1, 1, 140), (1, 18, 1, 2, 141), (3, 144, 1, 2, 142), (1, 22, 1, 3, 143), (3, 172, 1, 3, 144), (1, 25, 1, 4, 145), (3, 165, 1, 4, 146), (1, 48, 1, 5, 147), (3, 162, 1, 5, 148), (1, 32, 1, 6, 149), (1, 28, 1, 7, 150), (1, 39, 1, 8, 151), (1, 51, 1, 9, 152), (3, 178, 1, 9, 153), (1, 61, 1, 10, 154), (3, 133, 1, 10, 155), (3, 12, 3, 0, 180), (3, 19, 3, 1, 181), (3, 26, 3, 2, 182), (3, 30, 3, 3, 183), (3, 175, 3, 4, 184), (3, 152, 3, 5, 185), (3, 155, 3, 6, 186), (4, 82, 4, 1, 569), (4, 7, 4, 2, 570), (4, 13, 4, 3, 571), (4, 16, 4, 4, 572), (4, 19, 4, 5, 573), (4, 22, 4, 6, 574), (4, 25, 4, 7, 575), (4, 28, 4, 8, 576), (4, 31, 4, 9, 577), (4, 189, 4, 10, 578), (4, 34, 4, 11, 579), (4, 37, 4, 12, 580), (4, 41, 4, 13, 581), (4, 137, 4, 14, 582), (4, 158, 4, 15, 583), (4, 161, 4, 16, 584), (4, 44, 4, 17, 585), (4, 180, 4, 18, 586), (4, 47, 4, 19, 587), (4, 51, 4, 20, 588), (4, 54, 4, 21, 589), (4, 57, 4, 22, 590), (4, 60, 4, 23, 591), (4, 195, 4, 24, 592), (4, 97, 4, 25, 593), (4, 63, 4, 26, 594), (4, 66, 4, 27, 595), (4, 69, 4, 28, 596), (4, 72, 4, 29, 597), (4, 75, 4, 30, 598)]
/-- method links: own class, pool number, method, 0 or 1 (of a nest mate), place among the words -/
def bw_ml : List (Nat × Nat × Nat × Nat × Nat) := [(5, 13, 45, 0, 202), (3, 38, 23, 0, 206), (3, 42, 24, 0, 210), (3, 48, 37, 0, 215), (2, 69, 80, 1, 219), (2, 87, 41, 0, 222), (2, 51, 26, 0, 226), (2, 58, 83, 1, 230), (2, 65, 81, 1, 233), (3, 52, 0, 0, 236), (0, 22, 43, 0, 240), (2, 107, 44, 0, 244), (5, 18, 46, 0, 253), (3, 56, 17, 0, 257), (3, 60, 31, 0, 261), (3, 64, 33, 0, 265), (2, 72, 84, 1, 269), (2, 75, 32, 0, 272), (3, 68, 84, 0, 276), (3, 75, 74, 0, 277), (3, 224, 1, 0, 281), (0, 33, 3, 0, 285), (0, 37, 4, 0, 289), (0, 41, 38, 0, 293), (2, 91, 39, 0, 297), (2, 95, 31, 0, 301), (2, 98, 40, 0, 302), (2, 101, 42, 0, 306), (2, 104, 82, 1, 310), (3, 127, 80, 0, 313), (3, 227, 38, 0, 314), (5, 22, 47, 0, 315), (5, 26, 48, 0, 319), (3, 79, 20, 0, 323), (2, 47, 18, 0, 327), (2, 43, 17, 0, 331), (3, 89, 81, 0, 332), (5, 31, 49, 0, 333), (5, 36, 50, 0, 337), (3, 96, 26, 0, 341), (3, 99, 29, 0, 342), (5, 40, 51, 0, 346), (3, 111, 83, 0, 350), (5, 44, 52, 0, 351), (3, 114, 28, 0, 355), (2, 62, 29, 0, 359), (5, 49, 53, 0, 360), (3, 118, 19, 0, 364), (5, 53, 54, 0, 368), (5, 57, 55, 0, 372), (3, 121, 18, 0, 376), (5, 61, 56, 0, 377), (3, 130, 5, 0, 381), (1, 35, 8, 0, 385), (1, 54, 9, 0, 389), (1, 70, 84, 1, 393), (1, 74, 32, 0, 394), (1, 57, 10, 0, 395), (1, 78, 11, 0, 398), (1, 96, 13, 0, 402), (1, 100, 12, 0, 406), (1, 82, 27, 0, 410), (1, 89, 30, 0, 414), (1, 93, 80, 1, 418), (3, 137, 76, 0, 419), (3, 234, 77, 0, 426), (5, 65, 57, 0, 429), (3, 141, 75, 0, 433), (5, 69, 58, 0, 437), (3, 148, 6, 0, 441), (5, 73, 59, 0, 445), (5, 78, 60, 0, 449), (5, 82, 61, 0, 453), (5, 87, 62, 0, 457), (3, 158, 7, 0, 461), (3, 168, 78, 0, 466), (5, 91, 63, 0, 470), (5, 95, 64, 0, 474), (5, 99, 65, 0, 478), (3, 181, 36, 0, 482), (2, 81, 35, 0, 486), (2, 78, 34, 0, 490), (2, 84, 22, 0, 494), (5, 103, 66, 0, 498), (5, 107, 67, 0, 502), (3, 187, 21, 0, 506), (3, 193, 82, 0, 510), (5, 111, 68, 0, 511), (3, 196, 14, 0, 515), (1, 107, 82, 1, 519), (5, 115, 69, 0, 520), (3, 200, 15, 0, 524), (1, 113, 14, 0, 528), (5, 119, 70, 0, 529), (3, 204, 16, 0, 533), (1, 117, 15, 0, 537), (3, 208, 22, 0, 538), (3, 211, 79, 0, 539), (5, 123, 71, 0, 543), (5, 127, 72, 0, 547), (3, 218, 2, 0, 551), (5, 131, 73, 0, 555), (3, 221, 25, 0, 559), (5, 17, 88, 0, 663), (4, 93, 89, 0, 669), (5, 21, 92, 0, 673), (4, 85, 85, 0, 677), (4, 100, 90, 0, 681), (4, 104, 91, 0, 685), (4, 108, 139, 0, 689), (5, 25, 93, 0, 693), (5, 30, 95, 0, 697), (4, 119, 94, 0, 701), (4, 112, 86, 0, 705), (4, 115, 87, 0, 709), (5, 35, 96, 0, 713), (5, 39, 98, 0, 717), (4, 123, 97, 0, 721), (5, 43, 99, 0, 725), (5, 48, 101, 0, 729), (4, 126, 100, 0, 733), (5, 52, 104, 0, 737), (4, 130, 102, 0, 741), (4, 133, 103, 0, 745), (5, 56, 105, 0, 749), (5, 60, 106, 0, 753), (5, 77, 114, 0, 757), (5, 81, 115, 0, 761), (5, 64, 116, 0, 765), (4, 164, 111, 0, 769), (4, 150, 110, 0, 773), (4, 141, 107, 0, 777), (4, 144, 109, 0, 781), (4, 147, 108, 0, 785), (4, 168, 113, 0, 789), (4, 154, 112, 0, 793), (5, 68, 118, 0, 796), (4, 172, 117, 0, 800), (5, 72, 119, 0, 804), (5, 86, 120, 0, 808), (5, 90, 121, 0, 812), (4, 176, 122, 0, 816), (5, 94, 123, 0, 820), (5, 98, 124, 0, 824), (5, 102, 127, 0, 828), (4, 183, 125, 0, 832), (4, 186, 126, 0, 836), (5, 106, 128, 0, 840), (5, 110, 130, 0, 844), (4, 192, 129, 0, 848), (5, 114, 133, 0, 852), (4, 198, 131, 0, 856), (5, 118, 134, 0, 860), (4, 202, 132, 0, 864), (5, 122, 137, 0, 868), (4, 209, 136, 0, 872), (4, 206, 135, 0, 876), (5, 126, 138, 0, 880), (5, 130, 140, 0, 884), (5, 134, 141, 0, 888)]
def bw_cl : List (Nat × Nat × Nat × Nat) := [(3, 46, 1000000000, 214), (4, 89, 20000, 667), (4, 91, 1000000000, 668)]
def bw_sl3 : List (Nat × Nat × Nat × Nat) := [(2, 111, 998, 247), (2, 116, 999, 250), (3, 228, 997, 423), (1, 42, 998, 465)]
def bw_sysp : List Nat := [248, 45, 249, 424, 425, 252, 251, 46, 110, 179, 662]
abbrev bwG : Type := Nat × MethodName × ByteArray × Nat × Nat × Nat × Nat
/-- the methods: class, name, code, locals, what it returns, static, parameters -/
def bw_sg : List bwG := [
  (0, yX0_startFrom, cX0_startFrom, 2, 0, 0, 1),
  (0, yX0_add, cX0_add, 7, 0, 0, 5),
  (0, yX0_takeBackLatest, cX0_takeBackLatest, 3, 0, 0, 1),
  (0, yX0_repeat, cX0_repeat, 4, 0, 0, 2),
  (0, yX0_placeOf, cX0_placeOf, 2, 1, 0, 1),
  (1, yX1_goOver, cX1_goOver, 2, 0, 0, 1),
  (1, yX1_goOverThoseWith, cX1_goOverThoseWith, 4, 0, 0, 3),
  (1, yX1_rank, cX1_rank, 3, 0, 0, 2),
  (1, yX1_start, cX1_start, 3, 0, 0, 1),
  (1, yX1_putParentsFirst, cX1_putParentsFirst, 6, 0, 0, 1),
  (1, yX1_spread, cX1_spread, 14, 2, 1, 4),
  (1, yX1_meet, cX1_meet, 6, 0, 0, 2),
  (1, yX1_isBefore, cX1_isBefore, 7, 3, 0, 3),
  (1, yX1_wholeChosen, cX1_wholeChosen, 4, 1, 0, 1),
  (1, yX1_worthSum, cX1_worthSum, 7, 2, 0, 2),
  (1, yX1_bestOption, cX1_bestOption, 4, 1, 0, 1),
  (1, yX1_greatestWorthSum, cX1_greatestWorthSum, 2, 2, 0, 1),
  (2, yX2_hasThing, cX2_hasThing, 2, 3, 0, 1),
  (2, yX2_hasValue, cX2_hasValue, 3, 3, 0, 2),
  (2, yX2_mayBeKnownAs, cX2_mayBeKnownAs, 3, 3, 0, 2),
  (2, yX2_hasWeight, cX2_hasWeight, 4, 3, 0, 3),
  (2, yX2_hasOption, cX2_hasOption, 2, 3, 0, 1),
  (2, yX2_isFree, cX2_isFree, 2, 3, 0, 1),
  (2, yX2_allWholes, cX2_allWholes, 3, 1, 0, 0),
  (2, yX2_allTotals, cX2_allTotals, 4, 2, 0, 0),
  (2, yX2_arrows, cX2_arrows, 3, 1, 0, 0),
  (2, yX2_rows, cX2_rows, 4, 1, 0, 1),
  (2, yX2_rowAt, cX2_rowAt, 6, 1, 0, 2),
  (2, yX2_isSound, cX2_isSound, 2, 3, 0, 0),
  (2, yX2_hasSoundTable, cX2_hasSoundTable, 6, 3, 0, 1),
  (2, yX2_factor, cX2_factor, 5, 1, 0, 3),
  (2, yX2_parentPlace, cX2_parentPlace, 4, 1, 0, 2),
  (2, yX2_parentSet, cX2_parentSet, 4, 1, 0, 1),
  (2, yX2_ancestorsAnd, cX2_ancestorsAnd, 5, 1, 0, 1),
  (2, yX2_parentSetNow, cX2_parentSetNow, 2, 1, 0, 1),
  (2, yX2_childSetNow, cX2_childSetNow, 4, 1, 0, 1),
  (2, yX2_hasOpenRoad, cX2_hasOpenRoad, 9, 3, 0, 2),
  (2, yX2_addThing, cX2_addThing, 5, 0, 0, 2),
  (2, yX2_carryOut, cX2_carryOut, 6, 0, 0, 5),
  (2, yX2_addParent, cX2_addParent, 3, 0, 0, 2),
  (2, yX2_dropParent, cX2_dropParent, 4, 0, 0, 2),
  (2, yX2_resetTable, cX2_resetTable, 5, 0, 0, 1),
  (2, yX2_setOptions, cX2_setOptions, 3, 0, 0, 1),
  (2, yX2_copyFrom, cX2_copyFrom, 2, 0, 0, 1),
  (2, yX2_copyAll, cX2_copyAll, 2, 0, 1, 2),
  (3, yX3_thing, cX3_thing, 4, 1, 0, 2),
  (3, yX3_arrow, cX3_arrow, 3, 1, 0, 2),
  (3, yX3_cut, cX3_cut, 3, 1, 0, 2),
  (3, yX3_weight, cX3_weight, 6, 1, 0, 4),
  (3, yX3_told, cX3_told, 4, 1, 0, 3),
  (3, yX3_about, cX3_about, 3, 1, 0, 2),
  (3, yX3_parent, cX3_parent, 3, 1, 0, 2),
  (3, yX3_sound, cX3_sound, 1, 1, 0, 0),
  (3, yX3_see, cX3_see, 3, 1, 0, 2),
  (3, yX3_act, cX3_act, 3, 1, 0, 2),
  (3, yX3_force, cX3_force, 5, 1, 0, 3),
  (3, yX3_chance, cX3_chance, 1, 1, 0, 0),
  (3, yX3_ask, cX3_ask, 4, 1, 0, 2),
  (3, yX3_both, cX3_both, 8, 1, 0, 4),
  (3, yX3_up, cX3_up, 1, 2, 0, 0),
  (3, yX3_down, cX3_down, 1, 2, 0, 0),
  (3, yX3_most, cX3_most, 5, 1, 0, 1),
  (3, yX3_likeliest, cX3_likeliest, 2, 1, 0, 1),
  (3, yX3_at, cX3_at, 2, 1, 0, 1),
  (3, yX3_wholes, cX3_wholes, 1, 1, 0, 0),
  (3, yX3_apart, cX3_apart, 3, 1, 0, 2),
  (3, yX3_options, cX3_options, 3, 1, 0, 1),
  (3, yX3_worth, cX3_worth, 6, 1, 0, 4),
  (3, yX3_expected, cX3_expected, 3, 1, 0, 1),
  (3, yX3_best, cX3_best, 3, 1, 0, 0),
  (3, yX3_gain, cX3_gain, 7, 1, 0, 1),
  (3, yX3_next, cX3_next, 12, 1, 0, 0),
  (3, yX3_undo, cX3_undo, 1, 1, 0, 0),
  (3, yX3_count, cX3_count, 2, 1, 0, 1),
  (3, yX3_carryOut, cX3_carryOut, 6, 0, 0, 5),
  (3, yX3_trouble, cX3_trouble, 1, 1, 0, 0),
  (3, yX3_tell, cX3_tell, 7, 0, 0, 2),
  (3, yX3_commonDivisor, cX3_commonDivisor, 11, 2, 1, 2),
  (3, yX3_show, cX3_show, 4, 0, 0, 1),
  (3, yX3_gainSum, cX3_gainSum, 7, 2, 0, 2),
  (3, yX3_slot, cX3_slot, 2, 1, 1, 2),
  (3, yX3_weightSlot, cX3_weightSlot, 3, 1, 1, 3),
  (3, yX3_worthSlot, cX3_worthSlot, 3, 1, 1, 3),
  (3, yX3_parentSlot, cX3_parentSlot, 2, 1, 1, 2),
  (3, yX3_isIn, cX3_isIn, 2, 3, 1, 2),
  (4, yX4_isThing, cX4_isThing, 2, 3, 0, 1),
  (4, yX4_isValue, cX4_isValue, 3, 3, 0, 2),
  (4, yX4_rows, cX4_rows, 4, 1, 0, 1),
  (4, yX4_thing, cX4_thing, 10, 1, 0, 2),
  (4, yX4_plainTable, cX4_plainTable, 4, 0, 0, 1),
  (4, yX4_isParent, cX4_isParent, 4, 3, 0, 2),
  (4, yX4_reach, cX4_reach, 6, 0, 0, 2),
  (4, yX4_arrow, cX4_arrow, 3, 1, 0, 2),
  (4, yX4_cut, cX4_cut, 5, 1, 0, 2),
  (4, yX4_isWeight, cX4_isWeight, 4, 3, 0, 3),
  (4, yX4_weight, cX4_weight, 7, 1, 0, 4),
  (4, yX4_told, cX4_told, 4, 1, 0, 3),
  (4, yX4_isSound, cX4_isSound, 5, 3, 0, 1),
  (4, yX4_about, cX4_about, 3, 1, 0, 2),
  (4, yX4_parent, cX4_parent, 3, 1, 0, 2),
  (4, yX4_isRough, cX4_isRough, 2, 3, 0, 0),
  (4, yX4_sound, cX4_sound, 1, 1, 0, 0),
  (4, yX4_mayBe, cX4_mayBe, 3, 3, 0, 2),
  (4, yX4_becomes, cX4_becomes, 4, 1, 0, 3),
  (4, yX4_see, cX4_see, 3, 1, 0, 2),
  (4, yX4_act, cX4_act, 3, 1, 0, 2),
  (4, yX4_force, cX4_force, 5, 1, 0, 3),
  (4, yX4_firstWhole, cX4_firstWhole, 2, 0, 0, 0),
  (4, yX4_nextWhole, cX4_nextWhole, 2, 3, 0, 0),
  (4, yX4_weigh, cX4_weigh, 5, 0, 0, 0),
  (4, yX4_sum, cX4_sum, 8, 2, 0, 4),
  (4, yX4_all, cX4_all, 1, 2, 0, 0),
  (4, yX4_common, cX4_common, 10, 2, 1, 2),
  (4, yX4_tell, cX4_tell, 7, 1, 0, 2),
  (4, yX4_up, cX4_up, 1, 2, 0, 0),
  (4, yX4_down, cX4_down, 1, 2, 0, 0),
  (4, yX4_chance, cX4_chance, 4, 1, 0, 0),
  (4, yX4_refused, cX4_refused, 1, 1, 0, 0),
  (4, yX4_ask, cX4_ask, 4, 1, 0, 2),
  (4, yX4_both, cX4_both, 6, 1, 0, 4),
  (4, yX4_most, cX4_most, 9, 1, 0, 1),
  (4, yX4_likeliest, cX4_likeliest, 5, 1, 0, 1),
  (4, yX4_insert, cX4_insert, 5, 1, 0, 2),
  (4, yX4_at, cX4_at, 2, 1, 0, 1),
  (4, yX4_wholes, cX4_wholes, 3, 1, 0, 0),
  (4, yX4_leads, cX4_leads, 3, 3, 0, 2),
  (4, yX4_passes, cX4_passes, 5, 3, 0, 3),
  (4, yX4_apart, cX4_apart, 6, 1, 0, 2),
  (4, yX4_options, cX4_options, 5, 1, 0, 1),
  (4, yX4_isOption, cX4_isOption, 2, 3, 0, 1),
  (4, yX4_worth, cX4_worth, 7, 1, 0, 4),
  (4, yX4_worthOf, cX4_worthOf, 10, 2, 0, 3),
  (4, yX4_greatest, cX4_greatest, 8, 2, 0, 2),
  (4, yX4_expected, cX4_expected, 3, 1, 0, 1),
  (4, yX4_best, cX4_best, 6, 1, 0, 0),
  (4, yX4_isKnown, cX4_isKnown, 2, 3, 0, 1),
  (4, yX4_gainOf, cX4_gainOf, 5, 2, 0, 1),
  (4, yX4_gain, cX4_gain, 3, 1, 0, 1),
  (4, yX4_next, cX4_next, 8, 1, 0, 0),
  (4, yX4_note, cX4_note, 5, 0, 0, 2),
  (4, yX4_undo, cX4_undo, 4, 1, 0, 0),
  (4, yX4_count, cX4_count, 4, 1, 0, 1)]
/-- the places of their words: code, initialized, static or instanceMethod, selects -/
def bw_sp : List (Nat × Nat × Nat × Nat) := [(239, 42, 237, 238), (284, 42, 282, 283), (554, 42, 552, 553), (288, 42, 287, 1), (292, 42, 291, 2), (384, 43, 382, 383), (444, 43, 442, 443), (464, 43, 462, 463), (388, 43, 387, 3), (392, 43, 391, 4), (397, 43, 396, 0), (401, 43, 400, 5), (409, 43, 408, 7), (405, 43, 404, 6), (518, 43, 516, 517), (527, 43, 525, 526), (536, 43, 534, 535), (260, 41, 258, 259), (330, 41, 328, 329), (367, 41, 365, 366), (326, 41, 324, 325), (509, 41, 507, 508), (497, 41, 495, 496), (209, 41, 207, 208), (213, 41, 211, 212), (562, 41, 560, 561), (229, 41, 227, 228), (413, 41, 411, 412), (358, 41, 356, 357), (345, 41, 343, 344), (417, 41, 415, 416), (264, 41, 262, 263), (275, 41, 273, 274), (268, 41, 266, 267), (493, 41, 491, 492), (489, 41, 487, 488), (485, 41, 483, 484), (218, 41, 216, 217), (296, 41, 294, 295), (300, 41, 298, 299), (305, 41, 303, 304), (225, 41, 223, 224), (309, 41, 307, 308), (243, 41, 241, 242), (246, 41, 245, 0), (205, 40, 203, 204), (256, 40, 254, 255), (318, 40, 316, 317), (322, 40, 320, 321), (336, 40, 334, 335), (340, 40, 338, 339), (349, 40, 347, 348), (354, 40, 352, 353), (363, 40, 361, 362), (371, 40, 369, 370), (375, 40, 373, 374), (380, 40, 378, 379), (432, 40, 430, 431), (440, 40, 438, 439), (448, 40, 446, 447), (452, 40, 450, 451), (456, 40, 454, 455), (460, 40, 458, 459), (473, 40, 471, 472), (477, 40, 475, 476), (481, 40, 479, 480), (501, 40, 499, 500), (505, 40, 503, 504), (514, 40, 512, 513), (523, 40, 521, 522), (532, 40, 530, 531), (546, 40, 544, 545), (550, 40, 548, 549), (558, 40, 556, 557), (280, 40, 279, 0), (436, 40, 435, 9), (422, 40, 421, 8), (428, 40, 427, 0), (469, 40, 468, 10), (542, 40, 541, 11), (221, 40, 220, 0), (235, 40, 234, 0), (312, 40, 311, 0), (232, 40, 231, 0), (271, 40, 270, 0), (680, 44, 679, 13), (708, 44, 707, 18), (712, 44, 711, 19), (666, 44, 664, 665), (672, 44, 671, 12), (684, 44, 683, 14), (688, 44, 687, 15), (676, 44, 674, 675), (696, 44, 694, 695), (704, 44, 703, 17), (700, 44, 698, 699), (716, 44, 714, 715), (724, 44, 723, 20), (720, 44, 718, 719), (728, 44, 726, 727), (736, 44, 735, 21), (732, 44, 730, 731), (744, 44, 743, 22), (748, 44, 747, 23), (740, 44, 738, 739), (752, 44, 750, 751), (756, 44, 754, 755), (780, 44, 779, 26), (788, 44, 787, 28), (784, 44, 783, 27), (776, 44, 775, 25), (772, 44, 771, 24), (795, 44, 794, 0), (792, 44, 791, 29), (760, 44, 758, 759), (764, 44, 762, 763), (768, 44, 766, 767), (803, 44, 802, 30), (799, 44, 797, 798), (807, 44, 805, 806), (811, 44, 809, 810), (815, 44, 813, 814), (819, 44, 818, 31), (823, 44, 821, 822), (827, 44, 825, 826), (835, 44, 834, 32), (839, 44, 838, 33), (831, 44, 829, 830), (843, 44, 841, 842), (851, 44, 850, 34), (847, 44, 845, 846), (859, 44, 858, 35), (867, 44, 866, 36), (855, 44, 853, 854), (863, 44, 861, 862), (879, 44, 878, 38), (875, 44, 874, 37), (871, 44, 869, 870), (883, 44, 881, 882), (692, 44, 691, 16), (887, 44, 885, 886), (891, 44, 889, 890)]
def bw_nth {α : Type} (l : List α) (n : Nat) : Option α := match l, n with
  | [], _ => none
  | a :: _, 0 => some a
  | _ :: r, n + 1 => bw_nth r n
def bw_ret (rt : Nat) : Option FieldType := match rt with
  | 0 => none | 1 => some .int | 2 => some .long
  | _ => some .boolean
theorem bw_fl_tbl : (bw_fl.all fun q => match vwCl[q.2.2.1]? with
    | some r => Nat.blt q.2.2.2.1 r.2.2 && decide (lw_tbl[q.2.2.2.2]? = some (Cond.fieldLink (bw_own q.1) q.2.1 (r.2.1 q.2.2.2.1).1 (r.2.1 q.2.2.2.1).2.1 (r.2.1 q.2.2.2.1).2.2.1))
    | none => false) = true := by decide +kernel
theorem bw_ml_tbl : (bw_ml.all fun q => match bw_nth bw_sg q.2.2.1 with
    | some g => decide (lw_tbl[q.2.2.2.2]? = some (match q.2.2.2.1 with
      | 0 => Cond.methodLink (bw_own q.1) q.2.1 g.2.1
      | _ => Cond.methodLinkNest (bw_own q.1) q.2.1 g.2.1 "BeliefWeb"))
    | none => false) = true := by decide +kernel
theorem bw_cl_tbl : (bw_cl.all fun q => decide (lw_tbl[q.2.2.2]? = some (Cond.constantLong (bw_own q.1) q.2.1 (Int64.ofNat q.2.2.1)))) = true := by decide +kernel
def bw_sy (k : Nat) : MethodName := match k with
  | 997 => Lib.MathLoose.abs_long.x | 998 => Lib.Math.min.name
  | _ => arraycopyName
theorem bw_sl3_tbl : (bw_sl3.all fun q => Nat.ble 997 q.2.2.1 && Nat.ble q.2.2.1 999 && decide (lw_tbl[q.2.2.2]? = some (Cond.methodLink (bw_own q.1) q.2.1 (bw_sy q.2.2.1)))) = true := by decide +kernel
def bw_sys : List Cond := [.static Lib.Math.min.name, .initialized "java/lang/Math", .code Lib.Math.min.name Lib.Math.min.code 2 (some .int), .static Lib.MathLoose.abs_long.x, .code Lib.MathLoose.abs_long.x Lib.MathLoose.abs_long.code 2 (some .long), .native arraycopyName, .static arraycopyName, .initialized "java/lang/System", .arrayClass .int, .arrayClass .long, .arrayClass .boolean]
set_option maxRecDepth 100000 in
set_option maxHeartbeats 4000000 in
theorem bw_sys_in : ∀ w ∈ bw_sys, w ∈ lw_tbl := by
  rw [show bw_sys = bw_sysp.filterMap (fun i => lw_tbl[i]?) from rfl]
  intro w h
  obtain ⟨i, -, hi⟩ := List.mem_filterMap.mp h
  exact List.mem_of_getElem? hi
/-- a method's own words -/
def bw_okG (g : bwG) (q : Nat × Nat × Nat × Nat) : Bool := decide (g.2.1.cls = bw_own g.1) && plainName g.2.1.cls && decide (g.2.1.cls ≠ "java/lang/invoke/MethodHandle" ∧ g.2.1.cls ≠ "java/lang/invoke/VarHandle" ∧ (parseMethodDescriptor g.2.1.desc).map (fun d => d.parameters.length) = some g.2.2.2.2.2.2)
  && decide (lw_tbl[q.2.1]? = some (Cond.initialized g.2.1.cls)) && Nat.ble g.2.2.2.1 40
  && (match g.2.2.2.2.2.1 with
    | 0 => decide (lw_tbl[q.2.2.1]? = some (Cond.instanceMethod g.2.1)) && decide (lw_tbl[q.2.2.2]? = some (Cond.selects g.2.1.cls g.2.1 g.2.1))
    | _ => decide (lw_tbl[q.2.2.1]? = some (Cond.static g.2.1)))
def bw_okGs (gs : List bwG) (ps : List (Nat × Nat × Nat × Nat)) : Bool := match gs, ps with
  | [], [] => true
  | g :: gs, p :: ps => bw_okG g p && bw_okGs gs ps
  | _, _ => false
def bw_cw (g : bwG) : Cond := Cond.code g.2.1 g.2.2.1 g.2.2.2.1 (bw_ret g.2.2.2.2.1)
set_option maxRecDepth 100000 in
set_option maxHeartbeats 4000000 in
theorem bw_cw_in : ∀ w ∈ bw_sg.map bw_cw, w ∈ lw_tbl := by
  rw [show bw_sg.map bw_cw = (bw_sp.map (fun q => q.1)).filterMap (fun i => lw_tbl[i]?) from rfl]
  intro w h
  obtain ⟨i, -, hi⟩ := List.mem_filterMap.mp h
  exact List.mem_of_getElem? hi
theorem bw_sg_ok : bw_okGs bw_sg bw_sp = true := by decide +kernel
def bw_swok (pc : Nat) (lo : Int) (offs : List Int) (sw : List (Int32 × Nat)) : Bool := match offs, sw with
  | [], [] => true
  | o :: offs, q :: sw => decide (q.1.toInt = lo) && decide ((pc : Int) + o = (q.2 : Int)) && bw_swok pc (lo + 1) offs sw
  | _, _ => false
/-- an instruction's row says what the instruction does -/
def bw_okI (own nL pc : Nat) (ins : Instr) (len : Nat) (v : Int32) (a b : Nat) (sw : List (Int32 × Nat)) : Bool := match ins with
  | .iconst n => decide (Int32.ofInt n = v) && Nat.beq len 1
  | .bipush n => decide ((Int8.ofInt n).toInt32 = v) && Nat.beq len 2
  | .sipush n => decide ((Int16.ofInt n).toInt32 = v) && Nat.beq len 3
  | .lconst n => Nat.beq a n.val && Nat.beq len 1
  | .ldc2_w i => Nat.beq len 3 && bw_cl.any fun q => Nat.beq q.1 own && Nat.beq q.2.1 i && Nat.beq q.2.2.1 a
  | .iload_n k => Nat.beq a k.val && Nat.beq len 1
  | .lload_n k => Nat.beq a k.val && Nat.beq len 1
  | .aload_n k => Nat.beq a k.val && Nat.beq len 1
  | .iload k => Nat.beq a k && Nat.beq len 2
  | .lload k => Nat.beq a k && Nat.beq len 2
  | .aload k => Nat.beq a k && Nat.beq len 2
  | .istore_n k => Nat.beq a k.val && Nat.beq len 1 && Nat.blt a nL
  | .istore k => Nat.beq a k && Nat.beq len 2 && Nat.blt a nL
  | .lstore_n k => Nat.beq a k.val && Nat.beq len 1 && Nat.blt (a + 1) nL
  | .lstore k => Nat.beq a k && Nat.beq len 2 && Nat.blt (a + 1) nL
  | .iinc k n => Nat.beq a k && decide (Int32.ofInt n = v) && Nat.beq len 3 && Nat.blt a nL
  | .goto off => decide ((pc : Int) + off = (a : Int)) && Nat.beq len 3
  | .ifCond _ off => decide ((pc : Int) + off = (a : Int)) && Nat.beq len 3
  | .if_icmp _ off => decide ((pc : Int) + off = (a : Int)) && Nat.beq len 3
  | .tableswitch d lo hi offs => decide ((pc : Int) + d = (a : Int)) && bw_swok pc lo offs.toList sw && decide (lo + (offs.toList.length : Int) = hi + 1)
  | .getfield i => Nat.beq len 3 && bw_fl.any fun q => Nat.beq q.1 own && Nat.beq q.2.1 i && Nat.beq q.2.2.1 b && Nat.beq q.2.2.2.1 a
  | .putfield i => Nat.beq len 3 && bw_fl.any fun q => Nat.beq q.1 own && Nat.beq q.2.1 i && Nat.beq q.2.2.1 b && Nat.beq q.2.2.2.1 a
  | .invokevirtual i => Nat.beq len 3 && (bw_ml.any fun q => Nat.beq q.1 own && Nat.beq q.2.1 i && Nat.beq q.2.2.1 a && Nat.beq q.2.2.2.1 0) && (match bw_nth bw_sg a with
    | some (cn, _, _, _, rt, sc, na) => Nat.beq sc 0 && Nat.blt cn 5 && Nat.beq b (cn * 1000 + (na + 1) * 10 + rt) && Nat.blt rt 4 && Nat.blt na 10
    | none => false)
  | .invokestatic i => Nat.beq len 3 && (bif Nat.ble 997 b then (bw_sl3.any fun q => Nat.beq q.1 own && Nat.beq q.2.1 i && Nat.beq q.2.2.1 b) else (bw_ml.any fun q => Nat.beq q.1 own && Nat.beq q.2.1 i && Nat.beq q.2.2.1 a) && (match bw_nth bw_sg a with
    | some (_, _, _, _, rt, sc, na) => Nat.beq sc 1 && Nat.beq b (na * 10 + rt) && Nat.blt rt 4 && Nat.blt na 10
    | none => false))
  | _ => Nat.beq len 1
def bw_okT (own : Nat) (cc : ByteArray) (nL : Nat) (t : List bwE) : Bool := t.all fun e => decide (decode cc e.1 = .ok (e.2.1, e.2.2.1)) && bw_okI own nL e.1 e.2.1 e.2.2.1 e.2.2.2.1 e.2.2.2.2.1 e.2.2.2.2.2.1 e.2.2.2.2.2.2.2
def bw_okA (gs : List bwG) (ts : List (List bwE)) : Prop := match gs, ts with
  | [], [] => True
  | g :: gs, t :: ts => bw_okT g.1 g.2.2.1 g.2.2.2.1 t = true ∧ bw_okA gs ts
  | _, _ => False

