/-- methods by their numbers: name, code, what is answered -/
def miL : List (List (MethodName × ByteArray × Option FieldType)) := [[(yJ7_fill_53178, cJ7_fill_53178, none), (yJ7_fill_fda19, cJ7_fill_fda19, none), (yJ7_rangeCheck_23922, cJ7_rangeCheck_23922, none), (yX0_clear, cX0_clear, none), (yX0_keep, cX0_keep, none), (yX0_takeBack, cX0_takeBack, none), (yX1_tally, cX1_tally, none), (yX1_vote, cX1_vote, none), (yX1_moveAhead, cX1_moveAhead, none), (yX1_wordOfChoice, cX1_wordOfChoice, some .int), (yX1_pointsOfChoice, cX1_pointsOfChoice, some .int), (yX1_doubtPoints, cX1_doubtPoints, some .int), (yX1_listHeard, cX1_listHeard, none), (yX1_heardWord, cX1_heardWord, some .int), (yX1_heardSlot, cX1_heardSlot, some .int), (yX1_listDoubts, cX1_listDoubts, none)],
  [(yX1_isMoreDoubtful, cX1_isMoreDoubtful, some .boolean), (yX1_mostDoubtful, cX1_mostDoubtful, some .int), (yX1_isAboveHalf, cX1_isAboveHalf, some .boolean), (yX1_meanTime, cX1_meanTime, some .int), (yX2_forget, cX2_forget, none), (yX2_apart, cX2_apart, some .int), (yX3_clear, cX3_clear, none), (yX3_copyFrom, cX3_copyFrom, none), (yX3_keepIn, cX3_keepIn, none), (yX3_takeFrom, cX3_takeFrom, none), (yX3_placeOf, cX3_placeOf, some .int), (yX3_holds, cX3_holds, some .boolean), (yX3_costOf, cX3_costOf, some .int), (yX3_joinedAt, cX3_joinedAt, some .int), (yX3_thereOf, cX3_thereOf, some .int), (yX3_slotOf, cX3_slotOf, some .int)],
  [(yX3_wordsThere, cX3_wordsThere, some .int), (yX3_putThere, cX3_putThere, none), (yX3_emptySlot, cX3_emptySlot, none), (yX3_moveSlot, cX3_moveSlot, none), (yX3_addJoined, cX3_addJoined, none), (yX4_forget, cX4_forget, none), (yX4_find, cX4_find, none), (yX4_hearingAt, cX4_hearingAt, some .int), (yX4_goOn, cX4_goOn, none), (yX4_keepOrder, cX4_keepOrder, none), (yX5_read, cX5_read, some .int), (yX5_ahead, cX5_ahead, some .int), (yX5_takeToken, cX5_takeToken, none), (yX5_takeWord, cX5_takeWord, none), (yX5_takeWhole, cX5_takeWhole, none), (yX5_isLetter, cX5_isLetter, some .boolean)],
  [(yX5_isDigit, cX5_isDigit, some .boolean), (yX5_takeIn, cX5_takeIn, some .int), (yX5_goOn, cX5_goOn, some .int), (yX5_takeName, cX5_takeName, some .int), (yX5_takeWeight, cX5_takeWeight, some .int), (yX5_takeHeard, cX5_takeHeard, some .int), (yX5_takeTime, cX5_takeTime, some .int), (yX6_changes, cX6_changes, some .int), (yX7_begin, cX7_begin, none), (yX7_keepIn, cX7_keepIn, none), (yX7_takeFrom, cX7_takeFrom, none), (yX7_weightOf, cX7_weightOf, some .int), (yX7_setWeight, cX7_setWeight, none), (yX8_clear, cX8_clear, none), (yX8_copyFrom, cX8_copyFrom, none), (yX8_countOf, cX8_countOf, some .int)],
  [(yX8_weightTold, cX8_weightTold, some .int), (yX8_wordOf, cX8_wordOf, some .int), (yX8_timeOf, cX8_timeOf, some .int), (yX8_letterOf, cX8_letterOf, some .int), (yX8_lengthOf, cX8_lengthOf, some .int), (yX8_hasName, cX8_hasName, some .boolean), (yX8_addHearing, cX8_addHearing, some .boolean), (yX8_setWeight, cX8_setWeight, none), (yX8_addWord, cX8_addWord, some .boolean), (yX8_setTime, cX8_setTime, some .boolean), (yX8_numberOf, cX8_numberOf, some .int), (yX8_spell, cX8_spell, none), (yX9_plan, cX9_plan, some .int), (yX9_matchCost, cX9_matchCost, some .int), (yX9_followSteps, cX9_followSteps, none), (yX9_stepOf, cX9_stepOf, some .int)],
  [(yX9_weave, cX9_weave, some .int), (yX9_weaveWithout, cX9_weaveWithout, none), (yX10_feed, cX10_feed, some .int), (yX10_text, cX10_text, some .int), (yX10_fault, cX10_fault, some .int), (yX10_where, cX10_where, some .int), (yX10_about, cX10_about, some .int), (yX10_hearing, cX10_hearing, some .int), (yX10_word, cX10_word, some .int), (yX10_letter, cX10_letter, some .int), (yX10_far, cX10_far, some .int), (yX10_between, cX10_between, some .int), (yX10_costs, cX10_costs, some .boolean), (yX10_window, cX10_window, some .boolean), (yX10_share, cX10_share, some .boolean), (yX10_weight, cX10_weight, some .int)],
  [(yX10_join, cX10_join, some .int), (yX10_joinAll, cX10_joinAll, some .int), (yX10_drop, cX10_drop, some .int), (yX10_weigh, cX10_weigh, some .int), (yX10_undo, cX10_undo, some .int), (yX10_slot, cX10_slot, some .int), (yX10_at, cX10_at, some .int), (yX10_choice, cX10_choice, some .int), (yX10_doubt, cX10_doubt, some .int), (yX10_doubtful, cX10_doubtful, some .int), (yX10_heard, cX10_heard, some .int), (yX10_errors, cX10_errors, some .int), (yX10_cost, cX10_cost, some .int), (yX10_way, cX10_way, some .int), (yX10_without, cX10_without, some .int), (yX10_best, cX10_best, some .int)],
  [(yX10_write, cX10_write, some .int), (yX10_size, cX10_size, some .int), (yX10_trouble, cX10_trouble, some .int), (yX10_refused, cX10_refused, some .int), (yX10_refusedAct, cX10_refusedAct, some .boolean), (yX10_answered, cX10_answered, some .int), (yX10_beginAct, cX10_beginAct, none), (yX10_putNumber, cX10_putNumber, none), (yX10_isTold, cX10_isTold, some .boolean), (yX10_isHearing, cX10_isHearing, some .boolean), (yX10_isWord, cX10_isWord, some .boolean), (yX10_isSlot, cX10_isSlot, some .boolean), (yX10_isWithin, cX10_isWithin, some .boolean), (yX10_costsOfJoined, cX10_costsOfJoined, some .int), (yX10_weightsOfJoined, cX10_weightsOfJoined, some .int), (yX10_winnersOf, cX10_winnersOf, some .int)],
  [(yX10_weightByRight, cX10_weightByRight, some .int), (yX10_nextToJoin, cX10_nextToJoin, some .int), (yX10_placeInHeard, cX10_placeInHeard, some .int), (yX10_leastTime, cX10_leastTime, some .int), (yX10_greatestTime, cX10_greatestTime, some .int), (yX10_writeWord, cX10_writeWord, none), (yX10_putWritten, cX10_putWritten, none), (yX10_lessened, cX10_lessened, some .int), (yX11_thrown, cX11_thrown, some .int), (yX11_refused, cX11_refused, some .int), (yX11_good, cX11_good, some .int), (yX11_done, cX11_done, some .boolean), (yX11_in, cX11_in, some .boolean), (yX11_common, cX11_common, some .int), (yX11_feed, cX11_feed, some .int), (yX11_flaw, cX11_flaw, none)],
  [(yX11_isLetterAt, cX11_isLetterAt, some .boolean), (yX11_isDigitAt, cX11_isDigitAt, some .boolean), (yX11_goOn, cX11_goOn, none), (yX11_isSign, cX11_isSign, some .boolean), (yX11_fault, cX11_fault, some .int), (yX11_where, cX11_where, some .int), (yX11_readWhole, cX11_readWhole, some .int), (yX11_find, cX11_find, some .int), (yX11_readLine, cX11_readLine, none), (yX11_text, cX11_text, some .int), (yX11_holds, cX11_holds, none), (yX11_empties, cX11_empties, none), (yX11_copies, cX11_copies, none), (yX11_acted, cX11_acted, none), (yX11_remembers, cX11_remembers, none), (yX11_undo, cX11_undo, some .int)],
  [(yX11_there, cX11_there, some .int), (yX11_placeOf, cX11_placeOf, some .int), (yX11_apart, cX11_apart, some .int), (yX11_lettersIn, cX11_lettersIn, some .int), (yX11_letterIn, cX11_letterIn, some .int), (yX11_farOf, cX11_farOf, some .int), (yX11_timeOf, cX11_timeOf, some .int), (yX11_match, cX11_match, some .int), (yX11_ways, cX11_ways, some .int), (yX11_joins, cX11_joins, some .int), (yX11_votes, cX11_votes, none), (yX11_gives, cX11_gives, none), (yX11_isAhead, cX11_isAhead, some .boolean), (yX11_swaps, cX11_swaps, none), (yX11_winner, cX11_winner, some .int), (yX11_doubtOf, cX11_doubtOf, some .int)],
  [(yX11_heardBy, cX11_heardBy, some .int), (yX11_slotOf, cX11_slotOf, some .int), (yX11_rightOf, cX11_rightOf, some .int), (yX11_isHearing, cX11_isHearing, some .boolean), (yX11_isSlot, cX11_isSlot, some .boolean), (yX11_costsOf, cX11_costsOf, some .int), (yX11_about, cX11_about, some .int), (yX11_hearing, cX11_hearing, some .int), (yX11_slotWith, cX11_slotWith, some .int), (yX11_word, cX11_word, some .int), (yX11_letter, cX11_letter, some .int), (yX11_far, cX11_far, some .int), (yX11_laysHearing, cX11_laysHearing, some .int), (yX11_between, cX11_between, some .int), (yX11_costs, cX11_costs, some .boolean), (yX11_puts, cX11_puts, some .boolean)],
  [(yX11_window, cX11_window, some .boolean), (yX11_share, cX11_share, some .boolean), (yX11_weight, cX11_weight, some .int), (yX11_join, cX11_join, some .int), (yX11_nextOne, cX11_nextOne, some .int), (yX11_joinAll, cX11_joinAll, some .int), (yX11_dropsOnPaper, cX11_dropsOnPaper, none), (yX11_drop, cX11_drop, some .int), (yX11_weigh, cX11_weigh, some .int), (yX11_endTime, cX11_endTime, some .int), (yX11_wordsThere, cX11_wordsThere, some .int), (yX11_placeHeard, cX11_placeHeard, some .int), (yX11_slot, cX11_slot, some .int), (yX11_at, cX11_at, some .int), (yX11_choice, cX11_choice, some .int), (yX11_doubt, cX11_doubt, some .int)],
  [(yX11_ahead, cX11_ahead, some .int), (yX11_doubtful, cX11_doubtful, some .int), (yX11_heardAt, cX11_heardAt, some .int), (yX11_heard, cX11_heard, some .int), (yX11_errors, cX11_errors, some .int), (yX11_refusesPaper, cX11_refusesPaper, some .int), (yX11_cost, cX11_cost, some .int), (yX11_way, cX11_way, some .int), (yX11_without, cX11_without, some .int), (yX11_isIn, cX11_isIn, some .boolean), (yX11_tries, cX11_tries, none), (yX11_best, cX11_best, some .int), (yX11_inks, cX11_inks, none), (yX11_write, cX11_write, some .int), (yX11_octet, cX11_octet, some .int), (yX11_size, cX11_size, some .int)],
  [(yX11_trouble, cX11_trouble, some .int), (yL_law, cL_law, some .boolean)]]
def mi0 : MethodName × ByteArray × Option FieldType := (yL_law, ⟨#[]⟩, none)
def mi (i : Nat) : MethodName × ByteArray × Option FieldType := nth mi0 (nth [] miL (i / 16)) (i % 16)
def clsN (o : Nat) : String := nth "" [RX0, RX1, RX2, RX3, RX4, RX5, RX6, RX7, RX8, RX9, RX10, RX11, RL, RJ7] o
/-- links of fields, by class: entry, class, field, place in lw_tbl -/
def flT : List (List (Nat × Nat × Nat × Nat)) := [[(13, 0, 0, 232), (19, 0, 1, 234), (22, 0, 2, 235)],
  [(9, 1, 0, 311), (15, 1, 1, 313), (18, 1, 2, 315), (21, 1, 3, 317), (25, 1, 4, 319), (28, 1, 5, 320), (31, 1, 6, 321), (34, 1, 7, 322), (37, 1, 8, 323), (40, 1, 9, 324), (43, 1, 10, 325), (47, 1, 11, 326), (76, 7, 4, 177), (86, 3, 0, 205)],
  [(9, 2, 2, 297), (15, 2, 0, 295), (19, 2, 1, 296), (29, 8, 8, 134)],
  [(11, 3, 0, 202), (15, 3, 1, 206), (18, 3, 2, 209), (22, 3, 3, 210), (25, 3, 4, 211), (28, 3, 5, 212)],
  [(10, 4, 0, 396), (16, 4, 1, 398), (20, 4, 4, 401), (26, 4, 5, 402), (30, 4, 2, 399), (34, 4, 3, 400), (43, 8, 0, 122)],
  [(12, 5, 0, 261), (18, 5, 1, 263), (22, 5, 3, 266), (25, 5, 4, 267), (28, 5, 5, 268), (31, 5, 6, 269), (34, 5, 7, 270), (37, 5, 2, 265)],
  [(9, 6, 0, 249)],
  [(9, 7, 0, 164), (15, 7, 1, 167), (18, 7, 2, 170), (21, 7, 3, 173), (24, 7, 4, 176), (27, 7, 5, 179)],
  [(9, 8, 0, 120), (15, 8, 1, 124), (18, 8, 2, 126), (22, 8, 3, 128), (25, 8, 4, 129), (28, 8, 5, 130), (31, 8, 6, 131), (34, 8, 7, 132), (37, 8, 8, 133), (40, 8, 9, 135)],
  [(11, 9, 4, 362), (15, 9, 5, 363), (18, 9, 6, 364), (21, 9, 7, 365), (24, 9, 8, 366), (28, 9, 0, 358), (32, 9, 1, 359), (36, 9, 2, 360), (40, 9, 3, 361), (50, 3, 0, 203), (66, 7, 1, 168), (71, 7, 0, 165), (82, 7, 2, 171), (96, 7, 3, 174), (99, 8, 0, 123), (130, 3, 1, 208)],
  [(9, 10, 0, 416), (13, 10, 1, 417), (16, 10, 2, 418), (19, 10, 3, 419), (25, 10, 4, 420), (32, 10, 5, 421), (39, 10, 6, 422), (43, 10, 7, 423), (49, 10, 8, 424), (56, 10, 9, 425), (60, 10, 15, 431), (64, 10, 16, 432), (67, 10, 17, 433), (70, 10, 18, 434), (73, 10, 19, 435), (81, 10, 10, 426), (90, 10, 11, 427), (99, 10, 12, 428), (108, 10, 13, 429), (117, 10, 14, 430), (132, 5, 1, 264), (135, 5, 0, 262), (151, 8, 0, 121), (161, 8, 1, 125), (164, 3, 1, 207), (167, 3, 0, 204), (174, 1, 2, 316), (181, 0, 0, 233), (228, 8, 2, 127), (245, 7, 0, 166), (248, 7, 1, 169), (251, 7, 2, 172), (254, 7, 3, 175), (257, 7, 4, 178), (294, 1, 0, 312), (301, 1, 1, 314), (341, 1, 3, 318), (359, 4, 0, 397)],
  [(9, 11, 2, 1133), (13, 11, 3, 1134), (17, 11, 14, 1145), (21, 11, 15, 1146), (24, 11, 16, 1147), (27, 11, 17, 1148), (30, 11, 18, 1149), (33, 11, 19, 1150), (36, 11, 20, 1151), (39, 11, 21, 1152), (42, 11, 22, 1153), (45, 11, 26, 1157), (48, 11, 27, 1158), (51, 11, 28, 1159), (54, 11, 30, 1161), (57, 11, 31, 1162), (60, 11, 32, 1163), (63, 11, 33, 1164), (66, 11, 34, 1165), (69, 11, 35, 1166), (72, 11, 36, 1167), (75, 11, 37, 1168), (78, 11, 40, 1171), (81, 11, 41, 1172), (84, 11, 42, 1173), (87, 11, 43, 1174), (90, 11, 44, 1175), (93, 11, 46, 1177), (96, 11, 0, 1131), (99, 11, 1, 1132), (102, 11, 4, 1135), (105, 11, 7, 1138), (108, 11, 10, 1141), (111, 11, 8, 1139), (114, 11, 5, 1136), (121, 11, 6, 1137), (124, 11, 9, 1140), (131, 11, 13, 1144), (142, 11, 12, 1143), (145, 11, 11, 1142), (165, 11, 23, 1154), (195, 11, 24, 1155), (201, 11, 25, 1156), (208, 11, 29, 1160), (243, 11, 38, 1169), (246, 11, 39, 1170), (349, 11, 45, 1176), (352, 11, 47, 1178)],
  [],
  []]
/-- links of methods, by class: entry, method, place in lw_tbl -/
def mlT : List (List (Nat × Nat × Nat)) := [[(26, 57, 769), (30, 24, 774), (31, 58, 897), (34, 25, 901)],
  [(51, 30, 643), (57, 65, 647), (62, 59, 651), (68, 7, 655), (72, 27, 659), (79, 8, 667), (83, 10, 960), (89, 6, 639), (93, 9, 671), (96, 11, 969), (100, 16, 970), (104, 66, 820)],
  [(23, 0, 294), (34, 68, 737), (38, 55, 741)],
  [(31, 0, 199), (37, 900, 778), (43, 1, 779), (46, 30, 716), (50, 22, 905), (53, 36, 906), (57, 34, 907), (61, 33, 841), (65, 26, 663)],
  [(39, 40, 1012), (48, 41, 1015), (52, 27, 1020), (56, 23, 1021), (60, 80, 1022), (66, 29, 1019)],
  [(41, 61, 497), (44, 44, 501), (47, 49, 523), (51, 43, 505), (54, 47, 509), (58, 45, 512), (61, 48, 516), (64, 46, 519), (67, 51, 527), (71, 50, 539), (75, 52, 544), (78, 53, 552), (81, 54, 572), (84, 69, 531), (87, 70, 535), (90, 71, 548), (94, 72, 556), (97, 73, 576)],
  [],
  [(31, 64, 595), (37, 900, 773)],
  [(43, 900, 588), (49, 63, 560), (53, 74, 564), (56, 66, 580), (60, 75, 568)],
  [(44, 63, 814), (56, 19, 816), (62, 77, 821), (74, 78, 829), (78, 65, 825), (85, 30, 826), (88, 21, 827), (93, 66, 828), (102, 27, 809), (106, 76, 810), (110, 79, 833), (113, 34, 837), (117, 35, 845), (120, 33, 849), (124, 36, 850), (127, 22, 871), (133, 29, 872), (136, 80, 876)],
  [(121, 119, 481), (125, 115, 489), (129, 42, 493), (136, 62, 584), (140, 56, 591), (143, 22, 599), (146, 3, 603), (147, 20, 607), (150, 37, 611), (154, 117, 615), (157, 120, 631), (170, 12, 635), (177, 125, 675), (184, 126, 684), (187, 121, 693), (191, 59, 688), (194, 63, 697), (197, 26, 698), (200, 27, 679), (203, 28, 680), (206, 127, 699), (209, 65, 705), (213, 66, 711), (216, 31, 712), (219, 122, 721), (222, 67, 725), (225, 21, 733), (231, 55, 749), (235, 116, 754), (238, 124, 758), (242, 118, 761), (260, 60, 797), (264, 80, 805), (268, 129, 858), (271, 81, 867), (275, 23, 877), (277, 128, 885), (280, 5, 893), (284, 123, 912), (287, 6, 704), (291, 32, 916), (297, 19, 920), (304, 9, 706), (307, 130, 921), (310, 131, 929), (313, 132, 933), (316, 30, 703), (319, 10, 945), (322, 135, 949), (326, 11, 956), (329, 15, 965), (332, 17, 974), (335, 14, 925), (338, 13, 982), (344, 76, 862), (347, 79, 998), (350, 900, 1003), (356, 38, 1008), (362, 39, 1023), (365, 134, 1031), (368, 133, 1035), (371, 18, 1039), (381, 4, 765)],
  [(117, 140, 1297), (127, 144, 1308), (139, 145, 1314), (158, 143, 1322), (162, 146, 1304), (168, 151, 1326), (174, 902, 1330), (178, 150, 1381), (182, 147, 1385), (185, 137, 1300), (189, 152, 1318), (192, 154, 1389), (198, 138, 1396), (204, 155, 1393), (211, 158, 1499), (214, 163, 1465), (218, 164, 1468), (222, 162, 1479), (225, 160, 1423), (229, 165, 1475), (232, 166, 1535), (236, 167, 1531), (240, 168, 1527), (249, 161, 1420), (252, 171, 1426), (256, 172, 1430), (260, 173, 1434), (263, 170, 1416), (267, 174, 1412), (270, 176, 1408), (274, 181, 1438), (278, 179, 1445), (281, 178, 1449), (284, 184, 1457), (287, 188, 1487), (291, 139, 1495), (294, 191, 1507), (297, 169, 1523), (300, 196, 1543), (303, 156, 1555), (306, 198, 1551), (309, 157, 1559), (312, 180, 1571), (315, 202, 1575), (318, 203, 1579), (321, 201, 1583), (325, 141, 1595), (328, 175, 1602), (331, 208, 1610), (334, 177, 1618), (337, 210, 1622), (340, 213, 1634), (343, 217, 1654), (346, 218, 1650), (355, 220, 1662)],
  [(19, 82, 477), (23, 142, 1281), (24, 83, 485), (27, 153, 1293), (28, 84, 619), (32, 148, 1285), (33, 85, 623), (36, 149, 1289), (37, 86, 627), (40, 182, 1404), (41, 87, 689), (45, 183, 1441), (46, 88, 707), (50, 185, 1453), (51, 89, 717), (54, 186, 1461), (55, 90, 729), (58, 187, 1471), (59, 91, 745), (62, 189, 1483), (63, 92, 750), (67, 190, 1491), (68, 93, 785), (72, 192, 1503), (73, 94, 789), (76, 193, 1511), (77, 95, 793), (80, 194, 1515), (81, 96, 801), (84, 195, 1519), (85, 97, 854), (88, 197, 1539), (89, 98, 863), (92, 199, 1547), (93, 99, 881), (96, 200, 1563), (97, 100, 889), (100, 159, 1400), (101, 101, 908), (104, 204, 1567), (105, 102, 937), (108, 205, 1587), (109, 103, 941), (112, 206, 1591), (113, 104, 952), (116, 207, 1598), (117, 105, 961), (120, 209, 1606), (121, 106, 978), (124, 211, 1614), (125, 107, 986), (128, 212, 1626), (129, 108, 990), (132, 214, 1630), (133, 109, 994), (136, 215, 1638), (137, 110, 999), (140, 216, 1642), (141, 111, 1004), (144, 219, 1646), (145, 112, 1027), (148, 221, 1658), (149, 901, 1051), (154, 222, 1666), (155, 136, 1277), (158, 113, 1043), (161, 223, 1670), (162, 114, 1047), (165, 224, 1674)],
  [(13, 2, 782)]]
/-- of a method the places of its words: code, initialised, instance and selects (kind 0) or static (kind 1) -/
def cwT : List (List (Nat × Nat × Nat × Nat × Nat)) := [[(201, 88, 200, 0, 1), (781, 88, 780, 0, 1), (784, 88, 783, 0, 1), (606, 89, 604, 605, 0), (768, 89, 766, 767, 0), (896, 89, 894, 895, 0), (642, 93, 640, 641, 0), (658, 93, 657, 16, 0), (670, 93, 669, 17, 0), (674, 93, 672, 673, 0), (948, 93, 946, 947, 0), (959, 93, 957, 958, 0), (638, 93, 636, 637, 0), (985, 93, 983, 984, 0), (928, 93, 926, 927, 0), (968, 93, 966, 967, 0)],
  [(973, 93, 972, 33, 0), (977, 93, 975, 976, 0), (1042, 93, 1040, 1041, 0), (819, 93, 817, 818, 0), (610, 92, 608, 609, 0), (736, 92, 734, 735, 0), (602, 87, 600, 601, 0), (880, 87, 878, 879, 0), (777, 87, 775, 776, 0), (904, 87, 902, 903, 0), (666, 87, 664, 665, 0), (662, 87, 660, 661, 0), (683, 87, 681, 682, 0), (875, 87, 873, 874, 0), (646, 87, 644, 645, 0), (715, 87, 713, 714, 0)],
  [(919, 87, 917, 918, 0), (844, 87, 842, 843, 0), (840, 87, 838, 839, 0), (848, 87, 846, 847, 0), (853, 87, 851, 852, 0), (614, 95, 612, 613, 0), (1011, 95, 1009, 1010, 0), (1026, 95, 1024, 1025, 0), (1014, 95, 1013, 0, 1), (1018, 95, 1017, 34, 0), (496, 91, 494, 495, 0), (508, 91, 507, 3, 0), (504, 91, 503, 2, 0), (515, 91, 514, 4, 0), (522, 91, 521, 5, 0), (511, 91, 510, 0, 1)],
  [(518, 91, 517, 0, 1), (526, 91, 525, 6, 0), (542, 91, 541, 8, 0), (530, 91, 529, 7, 0), (547, 91, 546, 9, 0), (555, 91, 554, 10, 0), (575, 91, 574, 13, 0), (744, 90, 742, 743, 0), (594, 86, 592, 593, 0), (772, 86, 770, 771, 0), (900, 86, 898, 899, 0), (654, 86, 652, 653, 0), (800, 86, 798, 799, 0), (500, 85, 498, 499, 0), (587, 85, 585, 586, 0), (563, 85, 561, 562, 0)],
  [(598, 85, 596, 597, 0), (650, 85, 648, 649, 0), (583, 85, 581, 582, 0), (728, 85, 726, 727, 0), (740, 85, 738, 739, 0), (534, 85, 532, 533, 0), (538, 85, 536, 537, 0), (551, 85, 549, 550, 0), (559, 85, 557, 558, 0), (579, 85, 577, 578, 0), (567, 85, 566, 11, 0), (571, 85, 570, 12, 0), (813, 94, 811, 812, 0), (824, 94, 823, 25, 0), (832, 94, 831, 26, 0), (836, 94, 834, 835, 0)],
  [(808, 94, 806, 807, 0), (870, 94, 868, 869, 0), (480, 84, 478, 479, 0), (488, 84, 486, 487, 0), (622, 84, 620, 621, 0), (626, 84, 624, 625, 0), (630, 84, 628, 629, 0), (692, 84, 690, 691, 0), (710, 84, 708, 709, 0), (720, 84, 718, 719, 0), (732, 84, 730, 731, 0), (748, 84, 746, 747, 0), (753, 84, 751, 752, 0), (788, 84, 786, 787, 0), (792, 84, 790, 791, 0), (796, 84, 794, 795, 0)],
  [(804, 84, 802, 803, 0), (857, 84, 855, 856, 0), (866, 84, 864, 865, 0), (884, 84, 882, 883, 0), (892, 84, 890, 891, 0), (911, 84, 909, 910, 0), (940, 84, 938, 939, 0), (944, 84, 942, 943, 0), (955, 84, 953, 954, 0), (964, 84, 962, 963, 0), (981, 84, 979, 980, 0), (989, 84, 987, 988, 0), (993, 84, 991, 992, 0), (997, 84, 995, 996, 0), (1002, 84, 1000, 1001, 0), (1007, 84, 1005, 1006, 0)],
  [(1030, 84, 1028, 1029, 0), (1046, 84, 1044, 1045, 0), (1050, 84, 1048, 1049, 0), (492, 84, 491, 1, 0), (757, 84, 756, 23, 0), (618, 84, 617, 14, 0), (764, 84, 763, 24, 0), (484, 84, 483, 0, 0), (634, 84, 633, 15, 0), (696, 84, 695, 20, 0), (724, 84, 723, 22, 0), (915, 84, 914, 29, 0), (760, 84, 759, 0, 1), (678, 84, 677, 18, 0), (687, 84, 686, 19, 0), (702, 84, 701, 21, 0)],
  [(888, 84, 887, 28, 0), (861, 84, 860, 27, 0), (924, 84, 923, 30, 0), (932, 84, 931, 31, 0), (936, 84, 935, 32, 0), (1038, 84, 1037, 36, 0), (1034, 84, 1033, 35, 0), (951, 84, 950, 0, 1), (1280, 96, 1278, 1279, 0), (1303, 96, 1302, 38, 0), (1399, 96, 1398, 47, 0), (1498, 96, 1497, 60, 0), (1299, 96, 1298, 0, 1), (1597, 96, 1596, 0, 1), (1284, 96, 1282, 1283, 0), (1325, 96, 1324, 43, 0)],
  [(1311, 96, 1310, 40, 0), (1317, 96, 1316, 41, 0), (1307, 96, 1306, 39, 0), (1388, 96, 1387, 45, 0), (1288, 96, 1286, 1287, 0), (1292, 96, 1290, 1291, 0), (1384, 96, 1383, 44, 0), (1328, 96, 1327, 0, 1), (1321, 96, 1320, 42, 0), (1296, 96, 1294, 1295, 0), (1392, 96, 1391, 46, 0), (1395, 96, 1394, 0, 1), (1558, 96, 1557, 69, 0), (1562, 96, 1561, 70, 0), (1502, 96, 1501, 61, 0), (1403, 96, 1401, 1402, 0)],
  [(1425, 96, 1424, 0, 1), (1422, 96, 1421, 0, 1), (1482, 96, 1481, 58, 0), (1467, 96, 1466, 0, 1), (1470, 96, 1469, 0, 1), (1478, 96, 1477, 57, 0), (1538, 96, 1537, 66, 0), (1534, 96, 1533, 65, 0), (1530, 96, 1529, 64, 0), (1526, 96, 1525, 63, 0), (1419, 96, 1418, 50, 0), (1429, 96, 1428, 51, 0), (1433, 96, 1432, 52, 0), (1437, 96, 1436, 53, 0), (1415, 96, 1414, 49, 0), (1605, 96, 1604, 75, 0)],
  [(1411, 96, 1410, 48, 0), (1621, 96, 1620, 77, 0), (1452, 96, 1451, 55, 0), (1448, 96, 1447, 54, 0), (1574, 96, 1573, 71, 0), (1440, 96, 1439, 0, 1), (1407, 96, 1405, 1406, 0), (1444, 96, 1442, 1443, 0), (1460, 96, 1459, 56, 0), (1456, 96, 1454, 1455, 0), (1464, 96, 1462, 1463, 0), (1474, 96, 1472, 1473, 0), (1490, 96, 1489, 59, 0), (1486, 96, 1484, 1485, 0), (1494, 96, 1492, 1493, 0), (1510, 96, 1509, 62, 0)],
  [(1506, 96, 1504, 1505, 0), (1514, 96, 1512, 1513, 0), (1518, 96, 1516, 1517, 0), (1522, 96, 1520, 1521, 0), (1546, 96, 1545, 67, 0), (1542, 96, 1540, 1541, 0), (1554, 96, 1553, 68, 0), (1550, 96, 1548, 1549, 0), (1566, 96, 1564, 1565, 0), (1586, 96, 1585, 74, 0), (1578, 96, 1577, 72, 0), (1582, 96, 1581, 73, 0), (1570, 96, 1568, 1569, 0), (1590, 96, 1588, 1589, 0), (1594, 96, 1592, 1593, 0), (1601, 96, 1599, 1600, 0)],
  [(1613, 96, 1612, 76, 0), (1609, 96, 1607, 1608, 0), (1625, 96, 1624, 78, 0), (1617, 96, 1615, 1616, 0), (1629, 96, 1627, 1628, 0), (1637, 96, 1636, 79, 0), (1633, 96, 1631, 1632, 0), (1641, 96, 1639, 1640, 0), (1645, 96, 1643, 1644, 0), (1657, 96, 1656, 81, 0), (1653, 96, 1652, 80, 0), (1649, 96, 1647, 1648, 0), (1665, 96, 1664, 82, 0), (1661, 96, 1659, 1660, 0), (1669, 96, 1667, 1668, 0), (1673, 96, 1671, 1672, 0)],
  [(1677, 96, 1675, 1676, 0), (0, 0, 0, 0, 2)]]
def nrT : List (List Nat) := [[2, 4, 3, 0, 2, 2, 2, 2, 1, 1, 1, 0, 1, 1, 1, 1], [2, 1, 1, 3, 0, 2, 0, 1, 2, 2, 1, 1, 1, 1, 2, 2], [1, 3, 1, 2, 2, 0, 0, 1, 3, 2, 1, 0, 0, 0, 0, 1], [1, 0, 1, 0, 0, 0, 0, 6, 1, 2, 2, 1, 2, 0, 1, 1], [1, 2, 2, 2, 1, 1, 1, 1, 1, 1, 1, 2, 2, 4, 2, 1], [2, 3, 5, 1, 0, 0, 1, 2, 3, 2, 2, 2, 3, 1, 1, 2], [1, 1, 1, 0, 0, 2, 2, 3, 2, 1, 2, 1, 1, 2, 1, 1], [0, 0, 0, 1, 1, 1, 0, 1, 0, 1, 1, 1, 3, 0, 0, 1], [1, 1, 1, 1, 1, 1, 1, 3, 0, 1, 1, 1, 3, 2, 5, 1], [1, 1, 0, 1, 0, 0, 2, 3, 0, 1, 0, 1, 0, 0, 0, 0], [3, 2, 2, 1, 2, 2, 2, 4, 2, 2, 2, 2, 2, 1, 2, 2], [2, 1, 2, 1, 1, 1, 1, 2, 2, 3, 2, 2, 2, 2, 3, 3], [1, 1, 2, 1, 1, 1, 1, 1, 0, 2, 1, 1, 2, 2, 3, 2], [1, 1, 1, 2, 1, 1, 1, 2, 1, 2, 1, 1, 1, 0, 1, 0], [0, 1]]
def Tf (c : Nat) : u_T := match vwCl[c]? with
  | some q => q.2.1
  | none => TX0
def lk {α : Type} : List (Nat × α) → Nat → Option α
  | [], _ => none
  | (j, x) :: l, i => cond (Nat.beq j i) (some x) (lk l i)
def flk (o ix : Nat) : Option (Nat × Nat × Nat) := lk (nth [] flT o) ix
def mlk (o ix : Nat) : Option (Nat × Nat) := lk (nth [] mlT o) ix
def flW (o : Nat) (q : Nat × Nat × Nat × Nat) : Bool := decide (lw_tbl[q.2.2.2]? = some (Cond.fieldLink (clsN o) q.1 (Tf q.2.1 q.2.2.1).1 (Tf q.2.1 q.2.2.1).2.1 (Tf q.2.1 q.2.2.1).2.2.1)) && Nat.ble (q.2.2.1 + 1) (nth [] fkT q.2.1).length && Nat.ble (q.2.1 + 1) 12
def mlY (a : Nat) : MethodName := cond (Nat.beq a 900) arraycopyName (cond (Nat.beq a 901) yL_octet (cond (Nat.beq a 902) yX11_wordOf (mi a).1))
def mlW (o : Nat) (q : Nat × Nat × Nat) : Bool := decide (lw_tbl[q.2.2]? = some (Cond.methodLink (clsN o) q.1 (mlY q.2.1)))
theorem flT_ok : ((List.range 14).all fun o => (nth [] flT o).all (flW o)) = true := by decide +kernel
theorem mlT_ok : ((List.range 14).all fun o => (nth [] mlT o).all (mlW o)) = true := by decide +kernel
def cwd (a : Nat) : Nat × Nat × Nat × Nat × Nat := nth (0, 0, 0, 0, 9) (nth [] cwT (a / 16)) (a % 16)
def nrg (a : Nat) : Nat := nth 0 (nth [] nrT (a / 16)) (a % 16)
def cwW (a : Nat) : Bool := match cwd a with
  | (p0, p1, p2, p3, 0) => decide (lw_tbl[p0]? = some (Cond.code (mi a).1 (mi a).2.1 (inf a).2 (mi a).2.2)) && decide (lw_tbl[p1]? = some (Cond.initialized (mi a).1.cls)) && decide (lw_tbl[p2]? = some (Cond.instanceMethod (mi a).1)) && decide (lw_tbl[p3]? = some (Cond.selects (mi a).1.cls (mi a).1 (mi a).1))
  | (p0, p1, p2, _, 1) => decide (lw_tbl[p0]? = some (Cond.code (mi a).1 (mi a).2.1 (inf a).2 (mi a).2.2)) && decide (lw_tbl[p1]? = some (Cond.initialized (mi a).1.cls)) && decide (lw_tbl[p2]? = some (Cond.static (mi a).1))
  | (_, _, _, _, 2) => true
  | _ => false
/-- of a method: its words, its name, its locals -/
def cwM (a : Nat) : Bool := cwW a && decide ((mi a).1.cls = clsN (inf a).1) && decide ((mi a).1.cls ≠ "java/lang/invoke/MethodHandle") && decide ((mi a).1.cls ≠ "java/lang/invoke/VarHandle") && plainName (mi a).1.cls && decide ((parseMethodDescriptor (mi a).1.desc).map (fun d => d.parameters.length) = some (nrg a)) && Nat.ble (inf a).2 40 && Nat.beq (tab a).2.2 a
def lenI : Instr → Nat
  | .aload _ => 2
  | .iload _ => 2
  | .lload _ => 2
  | .istore _ => 2
  | .astore _ => 2
  | .lstore _ => 2
  | .bipush _ => 2
  | .ldc _ => 2
  | .newarray _ => 2
  | .sipush _ => 3
  | .ldc2_w _ => 3
  | .iinc _ _ => 3
  | .goto _ => 3
  | .if_icmp _ _ => 3
  | .ifCond _ _ => 3
  | .ifnull _ => 3
  | .ifnonnull _ => 3
  | .getfield _ => 3
  | .putfield _ => 3
  | .invokevirtual _ => 3
  | .invokestatic _ => 3
  | .invokespecial _ => 3
  | .new _ => 3
  | _ => 1
def rpc (M : TB) (i : Nat) : Nat := match M.at i with
  | some e => e.2.1
  | none => 0
def isI (r : Except DecodeError (Instr × Nat)) (x : Instr) : Bool := match r with
  | .ok (y, _) => decide (y = x)
  | .error _ => false
def swC (M : TB) (rp : Nat) (lo : Int) : Nat → List (Int32 × Nat) → List Int → Bool
  | _, [], [] => true
  | k, (v, t) :: l, o :: os => decide (v.toInt = lo + k) && decide ((rp : Int) + o = (rpc M t : Int)) && swC M rp lo (k + 1) l os
  | _, _, _ => false
def swD (M : TB) (rp : Nat) : List (Int32 × Nat) → List (Int × Int) → Bool
  | [], [] => true
  | (v, t) :: l, (w, o) :: os => decide (v.toInt = w) && decide ((rp : Int) + o = (rpc M t : Int)) && swD M rp l os
  | _, _ => false
def chT (M : TB) (rp : Nat) (df lo hi : Int) (offs : Array Int) : Option (List (Int32 × Nat) × Nat) → Bool
  | some (l, dt) => decide ((rp : Int) + df = (rpc M dt : Int)) && decide (hi + 1 = lo + (offs.size : Int)) && swC M rp lo 0 l offs.toList
  | none => false
def chU (M : TB) (rp : Nat) (df : Int) (ps : Array (Int × Int)) : Option (List (Int32 × Nat) × Nat) → Bool
  | some (l, dt) => decide ((rp : Int) + df = (rpc M dt : Int)) && (ps.toList.zip (ps.toList.drop 1)).all (fun (a, next) => a.1 < next.1) && swD M rp l ps.toList
  | none => false
def chF (o ix a b : Nat) : Bool := match flk o ix with
  | some (c, j, _) => Nat.beq c a && Nat.beq j b
  | none => false
def chL (o ix a : Nat) : Bool := match mlk o ix with
  | some (t, _) => Nat.beq t a
  | none => false
def chK (o ix : Nat) (z : Int) : Bool := match o, ix with
  | 4, 9 => decide (z = 1000000)
  | 9, 55 => decide (z = 1000000)
  | 5, 70 => decide (z = 679716023)
  | _, _ => false
def chJ (o ix : Nat) (z : Int) : Bool := match o, ix with
  | 11, 135 => decide (z = 32)
  | 11, 137 => decide (z = 97)
  | _, _ => false
def chR (a : Nat) (rt : Option FieldType) : Bool := match a with
  | 0 => decide (rt = some .int)
  | _ => decide (rt = some .boolean)
def chE (o : Nat) (rt : Option FieldType) (bs : ByteArray) (M : TB) (i : Nat) : EN → Bool
  | (ins, rp, nx, a, b, z) => match ins with
    | .tableswitch df lo hi offs => isI (decode bs rp) ins && chT M rp df lo hi offs (swl M.2.1 i)
    | .lookupswitch df ps => isI (decode bs rp) ins && chU M rp df ps (swl M.2.1 i)
    | .ireturn => decide (decode bs rp = .ok (ins, 1)) && chR a rt
    | .return_ => decide (decode bs rp = .ok (ins, 1)) && decide (rt = none)
    | .goto off => decide (decode bs rp = .ok (ins, 3)) && decide ((rp : Int) + off = (rpc M a : Int))
    | .if_icmp _ off => decide (decode bs rp = .ok (ins, 3)) && decide ((rp : Int) + off = (rpc M a : Int)) && Nat.beq (rpc M nx) (rp + 3)
    | .ifCond _ off => decide (decode bs rp = .ok (ins, 3)) && decide ((rp : Int) + off = (rpc M a : Int)) && Nat.beq (rpc M nx) (rp + 3)
    | .ifnonnull off => decide (decode bs rp = .ok (ins, 3)) && decide ((rp : Int) + off = (rpc M a : Int))
    | .getfield ix => decide (decode bs rp = .ok (ins, 3)) && Nat.beq (rpc M nx) (rp + 3) && chF o ix a b
    | .putfield ix => decide (decode bs rp = .ok (ins, 3)) && Nat.beq (rpc M nx) (rp + 3) && chF o ix a b
    | .invokevirtual ix => decide (decode bs rp = .ok (ins, 3)) && Nat.beq (rpc M nx) (rp + 3) && chL o ix a && Nat.beq b (nrg a) && Nat.beq (cwd a).2.2.2.2 0 && Nat.ble (a + 1) 226
    | .invokestatic ix => decide (decode bs rp = .ok (ins, 3)) && Nat.beq (rpc M nx) (rp + 3) && chL o ix a && (Nat.ble 900 a || Nat.beq b (nrg a) && Nat.beq (cwd a).2.2.2.2 1 && Nat.ble (a + 1) 226)
    | .ldc ix => cond (Nat.beq a 0) (decide (decode bs rp = .ok (ins, 2)) && Nat.beq (rpc M nx) (rp + 2) && chK o ix z) (decide (decode bs rp = .ok (ins, 2)) && decide (decode bs (rp + 2) = .ok (.invokestatic 174, 3)) && Nat.beq ix 172 && Nat.beq o 11 && Nat.beq (rpc M nx) (rp + 5) && decide (z = 777297172))
    | .ldc2_w ix => decide (decode bs rp = .ok (ins, 3)) && Nat.beq (rpc M nx) (rp + 3) && chJ o ix z
    | .new _ => true
    | .newarray _ => true
    | .invokespecial _ => true
    | _ => decide (decode bs rp = .ok (ins, lenI ins)) && Nat.beq (rpc M nx) (rp + lenI ins)
def szL {α : Type} : List (List α) → Nat
  | [] => 0
  | l :: r => l.length + szL r
/-- an entry holds -/
def chX (a i : Nat) : Bool := match (tab a).at i with
  | some e => chE (inf a).1 (mi a).2.2 (mi a).2.1 (tab a) i e
  | none => true
def chC (a q : Nat) : Bool := (List.range 16).all (fun r => chX a (16 * q + r))
theorem nth_out {α : Type} (z : α) : ∀ (l : List α) (n : Nat), l.length ≤ n → nth z l n = z
  | [], _, _ => rfl
  | _ :: l, 0, h => absurd h (by simp)
  | _ :: l, n + 1, h => nth_out z l n (by simpa using h)
theorem nthO_out {α : Type} : ∀ (l : List α) (n : Nat), l.length ≤ n → nthO l n = none
  | [], _, _ => rfl
  | _ :: l, 0, h => absurd h (by simp)
  | _ :: l, n + 1, h => nthO_out l n (by simpa using h)
theorem chX_of {a n : Nat} (hn : (tab a).1.length ≤ n) (h : ∀ q, q < n → chC a q = true) (i : Nat) : chX a i = true := by
  by_cases hq : i / 16 < n
  · have h1 := List.all_eq_true.mp (h (i / 16) hq) (i % 16) (List.mem_range.mpr (Nat.mod_lt _ (by decide)))
    rwa [Nat.div_add_mod] at h1
  · have e : (tab a).at i = none := by
      unfold TB.at
      rw [nthO_out _ _ (by omega)]
    unfold chX
    rw [e]
theorem chQ_of {a n : Nat} (h : (List.range n).all (chC a) = true) : ∀ q, q < n → chC a q = true := fun q hq => List.all_eq_true.mp h q (List.mem_range.mpr hq)

