/-- methods by their numbers: name, code, what is answered -/
def miL : List (List (MethodName × ByteArray × Option FieldType)) := [[(yJ7_fill_53178, cJ7_fill_53178, none), (yJ7_fill_fda19, cJ7_fill_fda19, none), (yJ7_rangeCheck_23922, cJ7_rangeCheck_23922, none), (yX0_clear, cX0_clear, none), (yX0_keep, cX0_keep, none), (yX0_takeBack, cX0_takeBack, none), (yX1_tally, cX1_tally, none), (yX1_vote, cX1_vote, none), (yX1_moveAhead, cX1_moveAhead, none), (yX1_wordOfChoice, cX1_wordOfChoice, some .int), (yX1_pointsOfChoice, cX1_pointsOfChoice, some .int), (yX1_doubtPoints, cX1_doubtPoints, some .int), (yX1_listHeard, cX1_listHeard, none), (yX1_heardWord, cX1_heardWord, some .int), (yX1_heardSlot, cX1_heardSlot, some .int), (yX1_listDoubts, cX1_listDoubts, none)],
  [(yX1_isMoreDoubtful, cX1_isMoreDoubtful, some .boolean), (yX1_mostDoubtful, cX1_mostDoubtful, some .int), (yX1_isAboveHalf, cX1_isAboveHalf, some .boolean), (yX1_meanTime, cX1_meanTime, some .int), (yX2_forget, cX2_forget, none), (yX2_apart, cX2_apart, some .int), (yX3_clear, cX3_clear, none), (yX3_copyFrom, cX3_copyFrom, none), (yX3_keepIn, cX3_keepIn, none), (yX3_takeFrom, cX3_takeFrom, none), (yX3_placeOf, cX3_placeOf, some .int), (yX3_holds, cX3_holds, some .boolean), (yX3_costOf, cX3_costOf, some .int), (yX3_joinedAt, cX3_joinedAt, some .int), (yX3_thereOf, cX3_thereOf, some .int), (yX3_slotOf, cX3_slotOf, some .int)],
  [(yX3_wordsThere, cX3_wordsThere, some .int), (yX3_putThere, cX3_putThere, none), (yX3_emptySlot, cX3_emptySlot, none), (yX3_moveSlot, cX3_moveSlot, none), (yX3_addJoined, cX3_addJoined, none), (yX4_forget, cX4_forget, none), (yX4_find, cX4_find, none), (yX4_hearingAt, cX4_hearingAt, some .int), (yX4_goOn, cX4_goOn, none), (yX4_keepOrder, cX4_keepOrder, none), (yX5_read, cX5_read, some .int), (yX5_ahead, cX5_ahead, some .int), (yX5_takeToken, cX5_takeToken, none), (yX5_takeWord, cX5_takeWord, none), (yX5_takeWhole, cX5_takeWhole, none), (yX5_isLetter, cX5_isLetter, some .boolean)],
  [(yX5_isDigit, cX5_isDigit, some .boolean), (yX5_takeIn, cX5_takeIn, some .int), (yX5_goOn, cX5_goOn, some .int), (yX5_takeName, cX5_takeName, some .int), (yX5_takeWeight, cX5_takeWeight, some .int), (yX5_takeHeard, cX5_takeHeard, some .int), (yX5_takeTime, cX5_takeTime, some .int), (yX6_changes, cX6_changes, some .int), (yX7_begin, cX7_begin, none), (yX7_keepIn, cX7_keepIn, none), (yX7_takeFrom, cX7_takeFrom, none), (yX7_weightOf, cX7_weightOf, some .int), (yX7_setWeight, cX7_setWeight, none), (yX8_clear, cX8_clear, none), (yX8_copyFrom, cX8_copyFrom, none), (yX8_countOf, cX8_countOf, some .int)],
  [(yX8_weightTold, cX8_weightTold, some .int), (yX8_wordOf, cX8_wordOf, some .int), (yX8_timeOf, cX8_timeOf, some .int), (yX8_letterOf, cX8_letterOf, some .int), (yX8_lengthOf, cX8_lengthOf, some .int), (yX8_hasName, cX8_hasName, some .boolean), (yX8_addHearing, cX8_addHearing, some .boolean), (yX8_setWeight, cX8_setWeight, none), (yX8_addWord, cX8_addWord, some .boolean), (yX8_setTime, cX8_setTime, some .boolean), (yX8_numberOf, cX8_numberOf, some .int), (yX8_spell, cX8_spell, none), (yX9_plan, cX9_plan, some .int), (yX9_lookInto, cX9_lookInto, none), (yX9_matchCost, cX9_matchCost, some .int), (yX9_followSteps, cX9_followSteps, none)],
  [(yX9_stepOf, cX9_stepOf, some .int), (yX9_weave, cX9_weave, some .int), (yX9_weaveWithout, cX9_weaveWithout, none), (yX10_feed, cX10_feed, some .int), (yX10_text, cX10_text, some .int), (yX10_fault, cX10_fault, some .int), (yX10_where, cX10_where, some .int), (yX10_about, cX10_about, some .int), (yX10_hearing, cX10_hearing, some .int), (yX10_word, cX10_word, some .int), (yX10_letter, cX10_letter, some .int), (yX10_far, cX10_far, some .int), (yX10_between, cX10_between, some .int), (yX10_costs, cX10_costs, some .boolean), (yX10_window, cX10_window, some .boolean), (yX10_share, cX10_share, some .boolean)],
  [(yX10_weight, cX10_weight, some .int), (yX10_join, cX10_join, some .int), (yX10_joinAll, cX10_joinAll, some .int), (yX10_drop, cX10_drop, some .int), (yX10_weigh, cX10_weigh, some .int), (yX10_undo, cX10_undo, some .int), (yX10_slot, cX10_slot, some .int), (yX10_at, cX10_at, some .int), (yX10_choice, cX10_choice, some .int), (yX10_doubt, cX10_doubt, some .int), (yX10_doubtful, cX10_doubtful, some .int), (yX10_heard, cX10_heard, some .int), (yX10_errors, cX10_errors, some .int), (yX10_cost, cX10_cost, some .int), (yX10_way, cX10_way, some .int), (yX10_without, cX10_without, some .int)],
  [(yX10_best, cX10_best, some .int), (yX10_write, cX10_write, some .int), (yX10_size, cX10_size, some .int), (yX10_trouble, cX10_trouble, some .int), (yX10_refused, cX10_refused, some .int), (yX10_refusedAct, cX10_refusedAct, some .boolean), (yX10_answered, cX10_answered, some .int), (yX10_beginAct, cX10_beginAct, none), (yX10_putNumber, cX10_putNumber, none), (yX10_isTold, cX10_isTold, some .boolean), (yX10_isHearing, cX10_isHearing, some .boolean), (yX10_isWord, cX10_isWord, some .boolean), (yX10_isSlot, cX10_isSlot, some .boolean), (yX10_isWithin, cX10_isWithin, some .boolean), (yX10_costsOfJoined, cX10_costsOfJoined, some .int), (yX10_weightsOfJoined, cX10_weightsOfJoined, some .int)],
  [(yX10_winnersOf, cX10_winnersOf, some .int), (yX10_weightByRight, cX10_weightByRight, some .int), (yX10_nextToJoin, cX10_nextToJoin, some .int), (yX10_placeInHeard, cX10_placeInHeard, some .int), (yX10_leastTime, cX10_leastTime, some .int), (yX10_greatestTime, cX10_greatestTime, some .int), (yX10_writeWord, cX10_writeWord, none), (yX10_putWritten, cX10_putWritten, none), (yX10_lessened, cX10_lessened, some .int), (yX11_thrown, cX11_thrown, some .int), (yX11_refused, cX11_refused, some .int), (yX11_good, cX11_good, some .int), (yX11_done, cX11_done, some .boolean), (yX11_in, cX11_in, some .boolean), (yX11_common, cX11_common, some .int), (yX11_feed, cX11_feed, some .int)],
  [(yX11_flaw, cX11_flaw, none), (yX11_isLetterAt, cX11_isLetterAt, some .boolean), (yX11_isDigitAt, cX11_isDigitAt, some .boolean), (yX11_goOn, cX11_goOn, none), (yX11_isSign, cX11_isSign, some .boolean), (yX11_fault, cX11_fault, some .int), (yX11_where, cX11_where, some .int), (yX11_readWhole, cX11_readWhole, some .int), (yX11_find, cX11_find, some .int), (yX11_readLine, cX11_readLine, none), (yX11_text, cX11_text, some .int), (yX11_holds, cX11_holds, none), (yX11_empties, cX11_empties, none), (yX11_copies, cX11_copies, none), (yX11_acted, cX11_acted, none), (yX11_remembers, cX11_remembers, none)],
  [(yX11_undo, cX11_undo, some .int), (yX11_there, cX11_there, some .int), (yX11_placeOf, cX11_placeOf, some .int), (yX11_apart, cX11_apart, some .int), (yX11_lettersIn, cX11_lettersIn, some .int), (yX11_letterIn, cX11_letterIn, some .int), (yX11_farOf, cX11_farOf, some .int), (yX11_timeOf, cX11_timeOf, some .int), (yX11_match, cX11_match, some .int), (yX11_ways, cX11_ways, some .int), (yX11_joins, cX11_joins, some .int), (yX11_votes, cX11_votes, none), (yX11_gives, cX11_gives, none), (yX11_isAhead, cX11_isAhead, some .boolean), (yX11_swaps, cX11_swaps, none), (yX11_winner, cX11_winner, some .int)],
  [(yX11_doubtOf, cX11_doubtOf, some .int), (yX11_heardBy, cX11_heardBy, some .int), (yX11_slotOf, cX11_slotOf, some .int), (yX11_rightOf, cX11_rightOf, some .int), (yX11_isHearing, cX11_isHearing, some .boolean), (yX11_isSlot, cX11_isSlot, some .boolean), (yX11_costsOf, cX11_costsOf, some .int), (yX11_about, cX11_about, some .int), (yX11_hearing, cX11_hearing, some .int), (yX11_slotWith, cX11_slotWith, some .int), (yX11_word, cX11_word, some .int), (yX11_letter, cX11_letter, some .int), (yX11_far, cX11_far, some .int), (yX11_laysHearing, cX11_laysHearing, some .int), (yX11_between, cX11_between, some .int), (yX11_costs, cX11_costs, some .boolean)],
  [(yX11_puts, cX11_puts, some .boolean), (yX11_window, cX11_window, some .boolean), (yX11_share, cX11_share, some .boolean), (yX11_weight, cX11_weight, some .int), (yX11_join, cX11_join, some .int), (yX11_nextOne, cX11_nextOne, some .int), (yX11_joinAll, cX11_joinAll, some .int), (yX11_dropsOnPaper, cX11_dropsOnPaper, none), (yX11_drop, cX11_drop, some .int), (yX11_weigh, cX11_weigh, some .int), (yX11_endTime, cX11_endTime, some .int), (yX11_wordsThere, cX11_wordsThere, some .int), (yX11_placeHeard, cX11_placeHeard, some .int), (yX11_slot, cX11_slot, some .int), (yX11_at, cX11_at, some .int), (yX11_choice, cX11_choice, some .int)],
  [(yX11_doubt, cX11_doubt, some .int), (yX11_ahead, cX11_ahead, some .int), (yX11_doubtful, cX11_doubtful, some .int), (yX11_heardAt, cX11_heardAt, some .int), (yX11_heard, cX11_heard, some .int), (yX11_errors, cX11_errors, some .int), (yX11_refusesPaper, cX11_refusesPaper, some .int), (yX11_cost, cX11_cost, some .int), (yX11_way, cX11_way, some .int), (yX11_without, cX11_without, some .int), (yX11_isIn, cX11_isIn, some .boolean), (yX11_tries, cX11_tries, none), (yX11_best, cX11_best, some .int), (yX11_inks, cX11_inks, none), (yX11_write, cX11_write, some .int), (yX11_octet, cX11_octet, some .int)],
  [(yX11_size, cX11_size, some .int), (yX11_trouble, cX11_trouble, some .int), (yL_law, cL_law, some .boolean)]]
def mi0 : MethodName × ByteArray × Option FieldType := (yL_law, ⟨#[]⟩, none)
def mi (i : Nat) : MethodName × ByteArray × Option FieldType := nth mi0 (nth [] miL (i / 16)) (i % 16)
def clsN (o : Nat) : String := nth "" [RX0, RX1, RX2, RX3, RX4, RX5, RX6, RX7, RX8, RX9, RX10, RX11, RL, RJ7] o
/-- links of fields, by class: entry, class, field, place in lw_tbl -/
def flT : List (List (Nat × Nat × Nat × Nat)) := [[(13, 0, 0, 233), (19, 0, 1, 235), (22, 0, 2, 236)],
  [(9, 1, 0, 312), (15, 1, 1, 314), (18, 1, 2, 316), (21, 1, 3, 318), (25, 1, 4, 320), (28, 1, 5, 321), (31, 1, 6, 322), (34, 1, 7, 323), (37, 1, 8, 324), (40, 1, 9, 325), (43, 1, 10, 326), (47, 1, 11, 327), (76, 7, 4, 178), (86, 3, 0, 206)],
  [(9, 2, 2, 298), (15, 2, 0, 296), (19, 2, 1, 297), (29, 8, 8, 135)],
  [(11, 3, 0, 203), (15, 3, 1, 207), (18, 3, 2, 210), (22, 3, 3, 211), (25, 3, 4, 212), (28, 3, 5, 213)],
  [(10, 4, 0, 403), (16, 4, 1, 405), (20, 4, 4, 408), (26, 4, 5, 409), (30, 4, 2, 406), (34, 4, 3, 407), (43, 8, 0, 123)],
  [(12, 5, 0, 262), (18, 5, 1, 264), (22, 5, 3, 267), (25, 5, 4, 268), (28, 5, 5, 269), (31, 5, 6, 270), (34, 5, 7, 271), (37, 5, 2, 266)],
  [(9, 6, 0, 250)],
  [(9, 7, 0, 165), (15, 7, 1, 168), (18, 7, 2, 171), (21, 7, 3, 174), (24, 7, 4, 177), (27, 7, 5, 180)],
  [(9, 8, 0, 121), (15, 8, 1, 125), (18, 8, 2, 127), (22, 8, 3, 129), (25, 8, 4, 130), (28, 8, 5, 131), (31, 8, 6, 132), (34, 8, 7, 133), (37, 8, 8, 134), (40, 8, 9, 136)],
  [(11, 9, 4, 363), (15, 9, 5, 364), (18, 9, 6, 365), (21, 9, 7, 366), (25, 9, 8, 367), (28, 9, 9, 368), (31, 9, 10, 369), (34, 9, 0, 359), (38, 9, 1, 360), (42, 9, 2, 361), (46, 9, 3, 362), (56, 3, 0, 204), (70, 7, 1, 169), (75, 7, 0, 166), (94, 7, 2, 172), (105, 7, 3, 175), (108, 8, 0, 124), (139, 3, 1, 209)],
  [(9, 10, 0, 423), (13, 10, 1, 424), (16, 10, 2, 425), (19, 10, 3, 426), (25, 10, 4, 427), (32, 10, 5, 428), (39, 10, 6, 429), (43, 10, 7, 430), (49, 10, 8, 431), (56, 10, 9, 432), (60, 10, 15, 438), (64, 10, 16, 439), (67, 10, 17, 440), (70, 10, 18, 441), (73, 10, 19, 442), (81, 10, 10, 433), (90, 10, 11, 434), (99, 10, 12, 435), (108, 10, 13, 436), (117, 10, 14, 437), (132, 5, 1, 265), (135, 5, 0, 263), (151, 8, 0, 122), (161, 8, 1, 126), (164, 3, 1, 208), (167, 3, 0, 205), (174, 1, 2, 317), (181, 0, 0, 234), (228, 8, 2, 128), (245, 7, 0, 167), (248, 7, 1, 170), (251, 7, 2, 173), (254, 7, 3, 176), (257, 7, 4, 179), (294, 1, 0, 313), (301, 1, 1, 315), (341, 1, 3, 319), (359, 4, 0, 404)],
  [(9, 11, 2, 1144), (13, 11, 3, 1145), (17, 11, 14, 1156), (21, 11, 15, 1157), (24, 11, 16, 1158), (27, 11, 17, 1159), (30, 11, 18, 1160), (33, 11, 19, 1161), (36, 11, 20, 1162), (39, 11, 21, 1163), (42, 11, 22, 1164), (45, 11, 26, 1168), (48, 11, 27, 1169), (51, 11, 28, 1170), (54, 11, 30, 1172), (57, 11, 31, 1173), (60, 11, 32, 1174), (63, 11, 33, 1175), (66, 11, 34, 1176), (69, 11, 35, 1177), (72, 11, 36, 1178), (75, 11, 37, 1179), (78, 11, 40, 1182), (81, 11, 41, 1183), (84, 11, 42, 1184), (87, 11, 43, 1185), (90, 11, 44, 1186), (93, 11, 46, 1188), (96, 11, 0, 1142), (99, 11, 1, 1143), (102, 11, 4, 1146), (105, 11, 7, 1149), (108, 11, 10, 1152), (111, 11, 8, 1150), (114, 11, 5, 1147), (121, 11, 6, 1148), (124, 11, 9, 1151), (131, 11, 13, 1155), (142, 11, 12, 1154), (145, 11, 11, 1153), (165, 11, 23, 1165), (195, 11, 24, 1166), (201, 11, 25, 1167), (208, 11, 29, 1171), (243, 11, 38, 1180), (246, 11, 39, 1181), (349, 11, 45, 1187), (352, 11, 47, 1189)],
  [],
  []]
/-- links of methods, by class: entry, method, place in lw_tbl -/
def mlT : List (List (Nat × Nat × Nat)) := [[(26, 57, 776), (30, 24, 781), (31, 58, 908), (34, 25, 912)],
  [(51, 30, 650), (57, 65, 654), (62, 59, 658), (68, 7, 662), (72, 27, 666), (79, 8, 674), (83, 10, 971), (89, 6, 646), (93, 9, 678), (96, 11, 980), (100, 16, 981), (104, 66, 833)],
  [(23, 0, 295), (34, 68, 744), (38, 55, 748)],
  [(31, 0, 200), (37, 900, 785), (43, 1, 786), (46, 30, 723), (50, 22, 916), (53, 36, 917), (57, 34, 918), (61, 33, 852), (65, 26, 670)],
  [(39, 40, 1023), (48, 41, 1026), (52, 27, 1031), (56, 23, 1032), (60, 81, 1033), (66, 29, 1030)],
  [(41, 61, 504), (44, 44, 508), (47, 49, 530), (51, 43, 512), (54, 47, 516), (58, 45, 519), (61, 48, 523), (64, 46, 526), (67, 51, 534), (71, 50, 546), (75, 52, 551), (78, 53, 559), (81, 54, 579), (84, 69, 538), (87, 70, 542), (90, 71, 555), (94, 72, 563), (97, 73, 583)],
  [],
  [(31, 64, 602), (37, 900, 780)],
  [(43, 900, 595), (49, 63, 567), (53, 74, 571), (56, 66, 587), (60, 75, 575)],
  [(50, 63, 821), (62, 77, 823), (66, 78, 834), (78, 79, 840), (82, 30, 827), (85, 65, 828), (88, 19, 829), (97, 21, 838), (102, 66, 839), (111, 27, 816), (115, 76, 817), (119, 80, 844), (122, 34, 848), (126, 35, 856), (129, 33, 860), (133, 36, 861), (136, 22, 882), (142, 29, 883), (145, 81, 887)],
  [(121, 120, 488), (125, 116, 496), (129, 42, 500), (136, 62, 591), (140, 56, 598), (143, 22, 606), (146, 3, 610), (147, 20, 614), (150, 37, 618), (154, 118, 622), (157, 121, 638), (170, 12, 642), (177, 126, 682), (184, 127, 691), (187, 122, 700), (191, 59, 695), (194, 63, 704), (197, 26, 705), (200, 27, 686), (203, 28, 687), (206, 128, 706), (209, 65, 712), (213, 66, 718), (216, 31, 719), (219, 123, 728), (222, 67, 732), (225, 21, 740), (231, 55, 756), (235, 117, 761), (238, 125, 765), (242, 119, 768), (260, 60, 804), (264, 81, 812), (268, 130, 869), (271, 82, 878), (275, 23, 888), (277, 129, 896), (280, 5, 904), (284, 124, 923), (287, 6, 711), (291, 32, 927), (297, 19, 931), (304, 9, 713), (307, 131, 932), (310, 132, 940), (313, 133, 944), (316, 30, 710), (319, 10, 956), (322, 136, 960), (326, 11, 967), (329, 15, 976), (332, 17, 985), (335, 14, 936), (338, 13, 993), (344, 76, 873), (347, 80, 1009), (350, 900, 1014), (356, 38, 1019), (362, 39, 1034), (365, 135, 1042), (368, 134, 1046), (371, 18, 1050), (381, 4, 772)],
  [(117, 141, 1308), (127, 145, 1319), (139, 146, 1325), (158, 144, 1333), (162, 147, 1315), (168, 152, 1337), (174, 902, 1341), (178, 151, 1392), (182, 148, 1396), (185, 138, 1311), (189, 153, 1329), (192, 155, 1400), (198, 139, 1407), (204, 156, 1404), (211, 159, 1510), (214, 164, 1476), (218, 165, 1479), (222, 163, 1490), (225, 161, 1434), (229, 166, 1486), (232, 167, 1546), (236, 168, 1542), (240, 169, 1538), (249, 162, 1431), (252, 172, 1437), (256, 173, 1441), (260, 174, 1445), (263, 171, 1427), (267, 175, 1423), (270, 177, 1419), (274, 182, 1449), (278, 180, 1456), (281, 179, 1460), (284, 185, 1468), (287, 189, 1498), (291, 140, 1506), (294, 192, 1518), (297, 170, 1534), (300, 197, 1554), (303, 157, 1566), (306, 199, 1562), (309, 158, 1570), (312, 181, 1582), (315, 203, 1586), (318, 204, 1590), (321, 202, 1594), (325, 142, 1606), (328, 176, 1613), (331, 209, 1621), (334, 178, 1629), (337, 211, 1633), (340, 214, 1645), (343, 218, 1665), (346, 219, 1661), (355, 221, 1673)],
  [(19, 83, 484), (23, 143, 1292), (24, 84, 492), (27, 154, 1304), (28, 85, 626), (32, 149, 1296), (33, 86, 630), (36, 150, 1300), (37, 87, 634), (40, 183, 1415), (41, 88, 696), (45, 184, 1452), (46, 89, 714), (50, 186, 1464), (51, 90, 724), (54, 187, 1472), (55, 91, 736), (58, 188, 1482), (59, 92, 752), (62, 190, 1494), (63, 93, 757), (67, 191, 1502), (68, 94, 792), (72, 193, 1514), (73, 95, 796), (76, 194, 1522), (77, 96, 800), (80, 195, 1526), (81, 97, 808), (84, 196, 1530), (85, 98, 865), (88, 198, 1550), (89, 99, 874), (92, 200, 1558), (93, 100, 892), (96, 201, 1574), (97, 101, 900), (100, 160, 1411), (101, 102, 919), (104, 205, 1578), (105, 103, 948), (108, 206, 1598), (109, 104, 952), (112, 207, 1602), (113, 105, 963), (116, 208, 1609), (117, 106, 972), (120, 210, 1617), (121, 107, 989), (124, 212, 1625), (125, 108, 997), (128, 213, 1637), (129, 109, 1001), (132, 215, 1641), (133, 110, 1005), (136, 216, 1649), (137, 111, 1010), (140, 217, 1653), (141, 112, 1015), (144, 220, 1657), (145, 113, 1038), (148, 222, 1669), (149, 901, 1062), (154, 223, 1677), (155, 137, 1288), (158, 114, 1054), (161, 224, 1681), (162, 115, 1058), (165, 225, 1685)],
  [(13, 2, 789)]]
/-- of a method the places of its words: code, initialised, instance and selects (kind 0) or static (kind 1) -/
def cwT : List (List (Nat × Nat × Nat × Nat × Nat)) := [[(202, 89, 201, 0, 1), (788, 89, 787, 0, 1), (791, 89, 790, 0, 1), (613, 90, 611, 612, 0), (775, 90, 773, 774, 0), (907, 90, 905, 906, 0), (649, 94, 647, 648, 0), (665, 94, 664, 16, 0), (677, 94, 676, 17, 0), (681, 94, 679, 680, 0), (959, 94, 957, 958, 0), (970, 94, 968, 969, 0), (645, 94, 643, 644, 0), (996, 94, 994, 995, 0), (939, 94, 937, 938, 0), (979, 94, 977, 978, 0)],
  [(984, 94, 983, 34, 0), (988, 94, 986, 987, 0), (1053, 94, 1051, 1052, 0), (832, 94, 830, 831, 0), (617, 93, 615, 616, 0), (743, 93, 741, 742, 0), (609, 88, 607, 608, 0), (891, 88, 889, 890, 0), (784, 88, 782, 783, 0), (915, 88, 913, 914, 0), (673, 88, 671, 672, 0), (669, 88, 667, 668, 0), (690, 88, 688, 689, 0), (886, 88, 884, 885, 0), (653, 88, 651, 652, 0), (722, 88, 720, 721, 0)],
  [(930, 88, 928, 929, 0), (855, 88, 853, 854, 0), (851, 88, 849, 850, 0), (859, 88, 857, 858, 0), (864, 88, 862, 863, 0), (621, 96, 619, 620, 0), (1022, 96, 1020, 1021, 0), (1037, 96, 1035, 1036, 0), (1025, 96, 1024, 0, 1), (1029, 96, 1028, 35, 0), (503, 92, 501, 502, 0), (515, 92, 514, 3, 0), (511, 92, 510, 2, 0), (522, 92, 521, 4, 0), (529, 92, 528, 5, 0), (518, 92, 517, 0, 1)],
  [(525, 92, 524, 0, 1), (533, 92, 532, 6, 0), (549, 92, 548, 8, 0), (537, 92, 536, 7, 0), (554, 92, 553, 9, 0), (562, 92, 561, 10, 0), (582, 92, 581, 13, 0), (751, 91, 749, 750, 0), (601, 87, 599, 600, 0), (779, 87, 777, 778, 0), (911, 87, 909, 910, 0), (661, 87, 659, 660, 0), (807, 87, 805, 806, 0), (507, 86, 505, 506, 0), (594, 86, 592, 593, 0), (570, 86, 568, 569, 0)],
  [(605, 86, 603, 604, 0), (657, 86, 655, 656, 0), (590, 86, 588, 589, 0), (735, 86, 733, 734, 0), (747, 86, 745, 746, 0), (541, 86, 539, 540, 0), (545, 86, 543, 544, 0), (558, 86, 556, 557, 0), (566, 86, 564, 565, 0), (586, 86, 584, 585, 0), (574, 86, 573, 11, 0), (578, 86, 577, 12, 0), (820, 95, 818, 819, 0), (826, 95, 825, 25, 0), (837, 95, 836, 26, 0), (843, 95, 842, 27, 0)],
  [(847, 95, 845, 846, 0), (815, 95, 813, 814, 0), (881, 95, 879, 880, 0), (487, 85, 485, 486, 0), (495, 85, 493, 494, 0), (629, 85, 627, 628, 0), (633, 85, 631, 632, 0), (637, 85, 635, 636, 0), (699, 85, 697, 698, 0), (717, 85, 715, 716, 0), (727, 85, 725, 726, 0), (739, 85, 737, 738, 0), (755, 85, 753, 754, 0), (760, 85, 758, 759, 0), (795, 85, 793, 794, 0), (799, 85, 797, 798, 0)],
  [(803, 85, 801, 802, 0), (811, 85, 809, 810, 0), (868, 85, 866, 867, 0), (877, 85, 875, 876, 0), (895, 85, 893, 894, 0), (903, 85, 901, 902, 0), (922, 85, 920, 921, 0), (951, 85, 949, 950, 0), (955, 85, 953, 954, 0), (966, 85, 964, 965, 0), (975, 85, 973, 974, 0), (992, 85, 990, 991, 0), (1000, 85, 998, 999, 0), (1004, 85, 1002, 1003, 0), (1008, 85, 1006, 1007, 0), (1013, 85, 1011, 1012, 0)],
  [(1018, 85, 1016, 1017, 0), (1041, 85, 1039, 1040, 0), (1057, 85, 1055, 1056, 0), (1061, 85, 1059, 1060, 0), (499, 85, 498, 1, 0), (764, 85, 763, 23, 0), (625, 85, 624, 14, 0), (771, 85, 770, 24, 0), (491, 85, 490, 0, 0), (641, 85, 640, 15, 0), (703, 85, 702, 20, 0), (731, 85, 730, 22, 0), (926, 85, 925, 30, 0), (767, 85, 766, 0, 1), (685, 85, 684, 18, 0), (694, 85, 693, 19, 0)],
  [(709, 85, 708, 21, 0), (899, 85, 898, 29, 0), (872, 85, 871, 28, 0), (935, 85, 934, 31, 0), (943, 85, 942, 32, 0), (947, 85, 946, 33, 0), (1049, 85, 1048, 37, 0), (1045, 85, 1044, 36, 0), (962, 85, 961, 0, 1), (1291, 97, 1289, 1290, 0), (1314, 97, 1313, 39, 0), (1410, 97, 1409, 48, 0), (1509, 97, 1508, 61, 0), (1310, 97, 1309, 0, 1), (1608, 97, 1607, 0, 1), (1295, 97, 1293, 1294, 0)],
  [(1336, 97, 1335, 44, 0), (1322, 97, 1321, 41, 0), (1328, 97, 1327, 42, 0), (1318, 97, 1317, 40, 0), (1399, 97, 1398, 46, 0), (1299, 97, 1297, 1298, 0), (1303, 97, 1301, 1302, 0), (1395, 97, 1394, 45, 0), (1339, 97, 1338, 0, 1), (1332, 97, 1331, 43, 0), (1307, 97, 1305, 1306, 0), (1403, 97, 1402, 47, 0), (1406, 97, 1405, 0, 1), (1569, 97, 1568, 70, 0), (1573, 97, 1572, 71, 0), (1513, 97, 1512, 62, 0)],
  [(1414, 97, 1412, 1413, 0), (1436, 97, 1435, 0, 1), (1433, 97, 1432, 0, 1), (1493, 97, 1492, 59, 0), (1478, 97, 1477, 0, 1), (1481, 97, 1480, 0, 1), (1489, 97, 1488, 58, 0), (1549, 97, 1548, 67, 0), (1545, 97, 1544, 66, 0), (1541, 97, 1540, 65, 0), (1537, 97, 1536, 64, 0), (1430, 97, 1429, 51, 0), (1440, 97, 1439, 52, 0), (1444, 97, 1443, 53, 0), (1448, 97, 1447, 54, 0), (1426, 97, 1425, 50, 0)],
  [(1616, 97, 1615, 76, 0), (1422, 97, 1421, 49, 0), (1632, 97, 1631, 78, 0), (1463, 97, 1462, 56, 0), (1459, 97, 1458, 55, 0), (1585, 97, 1584, 72, 0), (1451, 97, 1450, 0, 1), (1418, 97, 1416, 1417, 0), (1455, 97, 1453, 1454, 0), (1471, 97, 1470, 57, 0), (1467, 97, 1465, 1466, 0), (1475, 97, 1473, 1474, 0), (1485, 97, 1483, 1484, 0), (1501, 97, 1500, 60, 0), (1497, 97, 1495, 1496, 0), (1505, 97, 1503, 1504, 0)],
  [(1521, 97, 1520, 63, 0), (1517, 97, 1515, 1516, 0), (1525, 97, 1523, 1524, 0), (1529, 97, 1527, 1528, 0), (1533, 97, 1531, 1532, 0), (1557, 97, 1556, 68, 0), (1553, 97, 1551, 1552, 0), (1565, 97, 1564, 69, 0), (1561, 97, 1559, 1560, 0), (1577, 97, 1575, 1576, 0), (1597, 97, 1596, 75, 0), (1589, 97, 1588, 73, 0), (1593, 97, 1592, 74, 0), (1581, 97, 1579, 1580, 0), (1601, 97, 1599, 1600, 0), (1605, 97, 1603, 1604, 0)],
  [(1612, 97, 1610, 1611, 0), (1624, 97, 1623, 77, 0), (1620, 97, 1618, 1619, 0), (1636, 97, 1635, 79, 0), (1628, 97, 1626, 1627, 0), (1640, 97, 1638, 1639, 0), (1648, 97, 1647, 80, 0), (1644, 97, 1642, 1643, 0), (1652, 97, 1650, 1651, 0), (1656, 97, 1654, 1655, 0), (1668, 97, 1667, 82, 0), (1664, 97, 1663, 81, 0), (1660, 97, 1658, 1659, 0), (1676, 97, 1675, 83, 0), (1672, 97, 1670, 1671, 0), (1680, 97, 1678, 1679, 0)],
  [(1684, 97, 1682, 1683, 0), (1688, 97, 1686, 1687, 0), (0, 0, 0, 0, 2)]]
def nrT : List (List Nat) := [[2, 4, 3, 0, 2, 2, 2, 2, 1, 1, 1, 0, 1, 1, 1, 1], [2, 1, 1, 3, 0, 2, 0, 1, 2, 2, 1, 1, 1, 1, 2, 2], [1, 3, 1, 2, 2, 0, 0, 1, 3, 2, 1, 0, 0, 0, 0, 1], [1, 0, 1, 0, 0, 0, 0, 6, 1, 2, 2, 1, 2, 0, 1, 1], [1, 2, 2, 2, 1, 1, 1, 1, 1, 1, 1, 2, 2, 2, 2, 2], [1, 2, 3, 5, 1, 0, 0, 1, 2, 3, 2, 2, 2, 3, 1, 1], [2, 1, 1, 1, 0, 0, 2, 2, 3, 2, 1, 2, 1, 1, 2, 1], [1, 0, 0, 0, 1, 1, 1, 0, 1, 0, 1, 1, 1, 3, 0, 0], [1, 1, 1, 1, 1, 1, 1, 1, 3, 0, 1, 1, 1, 3, 2, 5], [1, 1, 1, 0, 1, 0, 0, 2, 3, 0, 1, 0, 1, 0, 0, 0], [0, 3, 2, 2, 1, 2, 2, 2, 4, 2, 2, 2, 2, 2, 1, 2], [2, 2, 1, 2, 1, 1, 1, 1, 2, 2, 3, 2, 2, 2, 2, 3], [3, 1, 1, 2, 1, 1, 1, 1, 1, 0, 2, 1, 1, 2, 2, 3], [2, 1, 1, 1, 2, 1, 1, 1, 2, 1, 2, 1, 1, 1, 0, 1], [0, 0, 1]]
def Tf (c : Nat) : u_T := match vwCl[c]? with
  | some q => q.2.1
  | none => TX0
def lk {α : Type} : List (Nat × α) → Nat → Option α
  | [], _ => none
  | (j, x) :: l, i => cond (Nat.beq j i) (some x) (lk l i)
def flk (o ix : Nat) : Option (Nat × Nat × Nat) := lk (nth [] flT o) ix
def mlk (o ix : Nat) : Option (Nat × Nat) := lk (nth [] mlT o) ix
def flW (o : Nat) (q : Nat × Nat × Nat × Nat) : Bool := decide (lw_tbl[q.2.2.2]? = some (Cond.fieldLink (clsN o) q.1 (Tf q.2.1 q.2.2.1).1 (Tf q.2.1 q.2.2.1).2.1 (Tf q.2.1 q.2.2.1).2.2.1)) && Nat.ble (q.2.2.1 + 1) (nth [] fkT q.2.1).length && Nat.ble (q.2.1 + 1) 12
def mlY (a : Nat) : MethodName := cond (Nat.beq a 900) arraycopyName (cond (Nat.beq a 901) yL_octet (cond (Nat.beq a 902) yX11_wordOf (mi a).1))
def mlW (o : Nat) (q : Nat × Nat × Nat) : Bool := decide (lw_tbl[q.2.2]? = some (Cond.methodLink (clsN o) q.1 (mlY q.2.1)))
theorem flT_ok : ((List.range 14).all fun o => (nth [] flT o).all (flW o)) = true := by decide +kernel
theorem mlT_ok : ((List.range 14).all fun o => (nth [] mlT o).all (mlW o)) = true := by decide +kernel
def cwd (a : Nat) : Nat × Nat × Nat × Nat × Nat := nth (0, 0, 0, 0, 9) (nth [] cwT (a / 16)) (a % 16)
def nrg (a : Nat) : Nat := nth 0 (nth [] nrT (a / 16)) (a % 16)
def cwW (a : Nat) : Bool := match cwd a with
  | (p0, p1, p2, p3, 0) => decide (lw_tbl[p0]? = some (Cond.code (mi a).1 (mi a).2.1 (inf a).2 (mi a).2.2)) && decide (lw_tbl[p1]? = some (Cond.initialized (mi a).1.cls)) && decide (lw_tbl[p2]? = some (Cond.instanceMethod (mi a).1)) && decide (lw_tbl[p3]? = some (Cond.selects (mi a).1.cls (mi a).1 (mi a).1))
  | (p0, p1, p2, _, 1) => decide (lw_tbl[p0]? = some (Cond.code (mi a).1 (mi a).2.1 (inf a).2 (mi a).2.2)) && decide (lw_tbl[p1]? = some (Cond.initialized (mi a).1.cls)) && decide (lw_tbl[p2]? = some (Cond.static (mi a).1))
  | (_, _, _, _, 2) => true
  | _ => false
/-- of a method: its words, its name, its locals -/
def cwM (a : Nat) : Bool := cwW a && decide ((mi a).1.cls = clsN (inf a).1) && decide ((mi a).1.cls ≠ "java/lang/invoke/MethodHandle") && decide ((mi a).1.cls ≠ "java/lang/invoke/VarHandle") && plainName (mi a).1.cls && decide ((parseMethodDescriptor (mi a).1.desc).map (fun d => d.parameters.length) = some (nrg a)) && Nat.ble (inf a).2 40 && Nat.beq (tab a).2.2 a
def lenI : Instr → Nat
  | .aload _ => 2
  | .iload _ => 2
  | .lload _ => 2
  | .istore _ => 2
  | .astore _ => 2
  | .lstore _ => 2
  | .bipush _ => 2
  | .ldc _ => 2
  | .newarray _ => 2
  | .sipush _ => 3
  | .ldc2_w _ => 3
  | .iinc _ _ => 3
  | .goto _ => 3
  | .if_icmp _ _ => 3
  | .ifCond _ _ => 3
  | .ifnull _ => 3
  | .ifnonnull _ => 3
  | .getfield _ => 3
  | .putfield _ => 3
  | .invokevirtual _ => 3
  | .invokestatic _ => 3
  | .invokespecial _ => 3
  | .new _ => 3
  | _ => 1
def rpc (M : TB) (i : Nat) : Nat := match M.at i with
  | some e => e.2.1
  | none => 0
def isI (r : Except DecodeError (Instr × Nat)) (x : Instr) : Bool := match r with
  | .ok (y, _) => decide (y = x)
  | .error _ => false
def swC (M : TB) (rp : Nat) (lo : Int) : Nat → List (Int32 × Nat) → List Int → Bool
  | _, [], [] => true
  | k, (v, t) :: l, o :: os => decide (v.toInt = lo + k) && decide ((rp : Int) + o = (rpc M t : Int)) && swC M rp lo (k + 1) l os
  | _, _, _ => false
def swD (M : TB) (rp : Nat) : List (Int32 × Nat) → List (Int × Int) → Bool
  | [], [] => true
  | (v, t) :: l, (w, o) :: os => decide (v.toInt = w) && decide ((rp : Int) + o = (rpc M t : Int)) && swD M rp l os
  | _, _ => false
def chT (M : TB) (rp : Nat) (df lo hi : Int) (offs : Array Int) : Option (List (Int32 × Nat) × Nat) → Bool
  | some (l, dt) => decide ((rp : Int) + df = (rpc M dt : Int)) && decide (hi + 1 = lo + (offs.size : Int)) && swC M rp lo 0 l offs.toList
  | none => false
def chU (M : TB) (rp : Nat) (df : Int) (ps : Array (Int × Int)) : Option (List (Int32 × Nat) × Nat) → Bool
  | some (l, dt) => decide ((rp : Int) + df = (rpc M dt : Int)) && (ps.toList.zip (ps.toList.drop 1)).all (fun (a, next) => a.1 < next.1) && swD M rp l ps.toList
  | none => false
def chF (o ix a b : Nat) : Bool := match flk o ix with
  | some (c, j, _) => Nat.beq c a && Nat.beq j b
  | none => false
def chL (o ix a : Nat) : Bool := match mlk o ix with
  | some (t, _) => Nat.beq t a
  | none => false
def chK (o ix : Nat) (z : Int) : Bool := match o, ix with
  | 4, 9 => decide (z = 1000000)
  | 9, 61 => decide (z = 1000000)
  | 5, 70 => decide (z = 679716023)
  | _, _ => false
def chJ (o ix : Nat) (z : Int) : Bool := match o, ix with
  | 11, 135 => decide (z = 32)
  | 11, 137 => decide (z = 97)
  | _, _ => false
def chR (a : Nat) (rt : Option FieldType) : Bool := match a with
  | 0 => decide (rt = some .int)
  | _ => decide (rt = some .boolean)
def chE (o : Nat) (rt : Option FieldType) (bs : ByteArray) (M : TB) (i : Nat) : EN → Bool
  | (ins, rp, nx, a, b, z) => match ins with
    | .tableswitch df lo hi offs => isI (decode bs rp) ins && chT M rp df lo hi offs (swl M.2.1 i)
    | .lookupswitch df ps => isI (decode bs rp) ins && chU M rp df ps (swl M.2.1 i)
    | .ireturn => decide (decode bs rp = .ok (ins, 1)) && chR a rt
    | .return_ => decide (decode bs rp = .ok (ins, 1)) && decide (rt = none)
    | .goto off => decide (decode bs rp = .ok (ins, 3)) && decide ((rp : Int) + off = (rpc M a : Int))
    | .if_icmp _ off => decide (decode bs rp = .ok (ins, 3)) && decide ((rp : Int) + off = (rpc M a : Int)) && Nat.beq (rpc M nx) (rp + 3)
    | .ifCond _ off => decide (decode bs rp = .ok (ins, 3)) && decide ((rp : Int) + off = (rpc M a : Int)) && Nat.beq (rpc M nx) (rp + 3)
    | .ifnonnull off => decide (decode bs rp = .ok (ins, 3)) && decide ((rp : Int) + off = (rpc M a : Int))
    | .getfield ix => decide (decode bs rp = .ok (ins, 3)) && Nat.beq (rpc M nx) (rp + 3) && chF o ix a b
    | .putfield ix => decide (decode bs rp = .ok (ins, 3)) && Nat.beq (rpc M nx) (rp + 3) && chF o ix a b
    | .invokevirtual ix => decide (decode bs rp = .ok (ins, 3)) && Nat.beq (rpc M nx) (rp + 3) && chL o ix a && Nat.beq b (nrg a) && Nat.beq (cwd a).2.2.2.2 0 && Nat.ble (a + 1) 227
    | .invokestatic ix => decide (decode bs rp = .ok (ins, 3)) && Nat.beq (rpc M nx) (rp + 3) && chL o ix a && (Nat.ble 900 a || Nat.beq b (nrg a) && Nat.beq (cwd a).2.2.2.2 1 && Nat.ble (a + 1) 227)
    | .ldc ix => cond (Nat.beq a 0) (decide (decode bs rp = .ok (ins, 2)) && Nat.beq (rpc M nx) (rp + 2) && chK o ix z) (decide (decode bs rp = .ok (ins, 2)) && decide (decode bs (rp + 2) = .ok (.invokestatic 174, 3)) && Nat.beq ix 172 && Nat.beq o 11 && Nat.beq (rpc M nx) (rp + 5) && decide (z = 777297172))
    | .ldc2_w ix => decide (decode bs rp = .ok (ins, 3)) && Nat.beq (rpc M nx) (rp + 3) && chJ o ix z
    | .new _ => true
    | .newarray _ => true
    | .invokespecial _ => true
    | _ => decide (decode bs rp = .ok (ins, lenI ins)) && Nat.beq (rpc M nx) (rp + lenI ins)
def szL {α : Type} : List (List α) → Nat
  | [] => 0
  | l :: r => l.length + szL r
/-- an entry holds -/
def chX (a i : Nat) : Bool := match (tab a).at i with
  | some e => chE (inf a).1 (mi a).2.2 (mi a).2.1 (tab a) i e
  | none => true
def chC (a q : Nat) : Bool := (List.range 16).all (fun r => chX a (16 * q + r))
theorem nth_out {α : Type} (z : α) : ∀ (l : List α) (n : Nat), l.length ≤ n → nth z l n = z
  | [], _, _ => rfl
  | _ :: l, 0, h => absurd h (by simp)
  | _ :: l, n + 1, h => nth_out z l n (by simpa using h)
theorem nthO_out {α : Type} : ∀ (l : List α) (n : Nat), l.length ≤ n → nthO l n = none
  | [], _, _ => rfl
  | _ :: l, 0, h => absurd h (by simp)
  | _ :: l, n + 1, h => nthO_out l n (by simpa using h)
theorem chX_of {a n : Nat} (hn : (tab a).1.length ≤ n) (h : ∀ q, q < n → chC a q = true) (i : Nat) : chX a i = true := by
  by_cases hq : i / 16 < n
  · have h1 := List.all_eq_true.mp (h (i / 16) hq) (i % 16) (List.mem_range.mpr (Nat.mod_lt _ (by decide)))
    rwa [Nat.div_add_mod] at h1
  · have e : (tab a).at i = none := by
      unfold TB.at
      rw [nthO_out _ _ (by omega)]
    unfold chX
    rw [e]
theorem chQ_of {a n : Nat} (h : (List.range n).all (chC a) = true) : ∀ q, q < n → chC a q = true := fun q hq => List.all_eq_true.mp h q (List.mem_range.mpr hq)

