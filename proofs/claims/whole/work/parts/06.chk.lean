/-- methods by their numbers: name, code, what is answered -/
def miL : List (List (MethodName × ByteArray × Option FieldType)) := [[(yJ7_fill_53178, cJ7_fill_53178, none), (yX0_clear, cX0_clear, none), (yX0_keep, cX0_keep, none), (yX0_takeBack, cX0_takeBack, none), (yX1_tally, cX1_tally, none), (yX1_vote, cX1_vote, none), (yX1_moveAhead, cX1_moveAhead, none), (yX1_wordOfChoice, cX1_wordOfChoice, some .int), (yX1_pointsOfChoice, cX1_pointsOfChoice, some .int), (yX1_doubtPoints, cX1_doubtPoints, some .int), (yX1_listHeard, cX1_listHeard, none), (yX1_heardWord, cX1_heardWord, some .int), (yX1_heardSlot, cX1_heardSlot, some .int), (yX1_listDoubts, cX1_listDoubts, none), (yX1_isMoreDoubtful, cX1_isMoreDoubtful, some .boolean), (yX1_mostDoubtful, cX1_mostDoubtful, some .int)],
  [(yX1_isAboveHalf, cX1_isAboveHalf, some .boolean), (yX1_meanTime, cX1_meanTime, some .int), (yX2_forget, cX2_forget, none), (yX2_apart, cX2_apart, some .int), (yX3_clear, cX3_clear, none), (yX3_copyFrom, cX3_copyFrom, none), (yX3_placeOf, cX3_placeOf, some .int), (yX3_holds, cX3_holds, some .boolean), (yX3_costOf, cX3_costOf, some .int), (yX3_joinedAt, cX3_joinedAt, some .int), (yX3_thereOf, cX3_thereOf, some .int), (yX3_slotOf, cX3_slotOf, some .int), (yX3_wordsThere, cX3_wordsThere, some .int), (yX3_putThere, cX3_putThere, none), (yX3_emptySlot, cX3_emptySlot, none), (yX3_moveSlot, cX3_moveSlot, none)],
  [(yX3_addJoined, cX3_addJoined, none), (yX4_forget, cX4_forget, none), (yX4_find, cX4_find, none), (yX4_hearingAt, cX4_hearingAt, some .int), (yX4_goOn, cX4_goOn, none), (yX4_keepOrder, cX4_keepOrder, none), (yX5_read, cX5_read, some .int), (yX5_ahead, cX5_ahead, some .int), (yX5_takeToken, cX5_takeToken, none), (yX5_takeWord, cX5_takeWord, none), (yX5_takeWhole, cX5_takeWhole, none), (yX5_isLetter, cX5_isLetter, some .boolean), (yX5_isDigit, cX5_isDigit, some .boolean), (yX5_takeIn, cX5_takeIn, some .int), (yX5_goOn, cX5_goOn, some .int), (yX5_takeName, cX5_takeName, some .int)],
  [(yX5_takeWeight, cX5_takeWeight, some .int), (yX5_takeHeard, cX5_takeHeard, some .int), (yX5_takeTime, cX5_takeTime, some .int), (yX6_changes, cX6_changes, some .int), (yX6_isPart, cX6_isPart, some .boolean), (yX7_begin, cX7_begin, none), (yX7_copyFrom, cX7_copyFrom, none), (yX7_weightOf, cX7_weightOf, some .int), (yX7_setWeight, cX7_setWeight, none), (yX8_clear, cX8_clear, none), (yX8_copyFrom, cX8_copyFrom, none), (yX8_countOf, cX8_countOf, some .int), (yX8_weightTold, cX8_weightTold, some .int), (yX8_wordOf, cX8_wordOf, some .int), (yX8_timeOf, cX8_timeOf, some .int), (yX8_letterOf, cX8_letterOf, some .int)],
  [(yX8_lengthOf, cX8_lengthOf, some .int), (yX8_hasName, cX8_hasName, some .boolean), (yX8_addHearing, cX8_addHearing, some .boolean), (yX8_setWeight, cX8_setWeight, none), (yX8_addWord, cX8_addWord, some .boolean), (yX8_setTime, cX8_setTime, some .boolean), (yX8_numberOf, cX8_numberOf, some .int), (yX8_spell, cX8_spell, none), (yX9_plan, cX9_plan, some .int), (yX9_matchCost, cX9_matchCost, some .int), (yX9_followSteps, cX9_followSteps, none), (yX9_stepOf, cX9_stepOf, some .int), (yX9_weave, cX9_weave, some .int), (yX9_weaveWithout, cX9_weaveWithout, none), (yX10_feed, cX10_feed, some .int), (yX10_text, cX10_text, some .int)],
  [(yX10_fault, cX10_fault, some .int), (yX10_where, cX10_where, some .int), (yX10_about, cX10_about, some .int), (yX10_hearing, cX10_hearing, some .int), (yX10_word, cX10_word, some .int), (yX10_letter, cX10_letter, some .int), (yX10_far, cX10_far, some .int), (yX10_between, cX10_between, some .int), (yX10_costs, cX10_costs, some .boolean), (yX10_window, cX10_window, some .boolean), (yX10_share, cX10_share, some .boolean), (yX10_weight, cX10_weight, some .int), (yX10_join, cX10_join, some .int), (yX10_joinAll, cX10_joinAll, some .int), (yX10_drop, cX10_drop, some .int), (yX10_weigh, cX10_weigh, some .int)],
  [(yX10_undo, cX10_undo, some .int), (yX10_slot, cX10_slot, some .int), (yX10_at, cX10_at, some .int), (yX10_choice, cX10_choice, some .int), (yX10_doubt, cX10_doubt, some .int), (yX10_doubtful, cX10_doubtful, some .int), (yX10_heard, cX10_heard, some .int), (yX10_errors, cX10_errors, some .int), (yX10_cost, cX10_cost, some .int), (yX10_way, cX10_way, some .int), (yX10_without, cX10_without, some .int), (yX10_best, cX10_best, some .int), (yX10_write, cX10_write, some .int), (yX10_size, cX10_size, some .int), (yX10_trouble, cX10_trouble, some .int), (yX10_refused, cX10_refused, some .int)],
  [(yX10_refusedAct, cX10_refusedAct, some .boolean), (yX10_answered, cX10_answered, some .int), (yX10_beginAct, cX10_beginAct, none), (yX10_putNumber, cX10_putNumber, none), (yX10_isTold, cX10_isTold, some .boolean), (yX10_isHearing, cX10_isHearing, some .boolean), (yX10_isWord, cX10_isWord, some .boolean), (yX10_isSlot, cX10_isSlot, some .boolean), (yX10_isWithin, cX10_isWithin, some .boolean), (yX10_costsOfJoined, cX10_costsOfJoined, some .int), (yX10_weightsOfJoined, cX10_weightsOfJoined, some .int), (yX10_winnersOf, cX10_winnersOf, some .int), (yX10_weightByRight, cX10_weightByRight, some .int), (yX10_nextToJoin, cX10_nextToJoin, some .int), (yX10_placeInHeard, cX10_placeInHeard, some .int), (yX10_leastTime, cX10_leastTime, some .int)],
  [(yX10_greatestTime, cX10_greatestTime, some .int), (yX10_writeWord, cX10_writeWord, none), (yX10_putWritten, cX10_putWritten, none), (yX10_commonPart, cX10_commonPart, some .int), (yX11_thrown, cX11_thrown, some .int), (yX11_refused, cX11_refused, some .int), (yX11_good, cX11_good, some .int), (yX11_done, cX11_done, some .boolean), (yX11_in, cX11_in, some .boolean), (yX11_common, cX11_common, some .int), (yX11_feed, cX11_feed, some .int), (yX11_flaw, cX11_flaw, none), (yX11_isLetterAt, cX11_isLetterAt, some .boolean), (yX11_isDigitAt, cX11_isDigitAt, some .boolean), (yX11_goOn, cX11_goOn, none), (yX11_isSign, cX11_isSign, some .boolean)],
  [(yX11_fault, cX11_fault, some .int), (yX11_where, cX11_where, some .int), (yX11_readWhole, cX11_readWhole, some .int), (yX11_find, cX11_find, some .int), (yX11_readLine, cX11_readLine, none), (yX11_text, cX11_text, some .int), (yX11_holds, cX11_holds, none), (yX11_empties, cX11_empties, none), (yX11_copies, cX11_copies, none), (yX11_acted, cX11_acted, none), (yX11_remembers, cX11_remembers, none), (yX11_undo, cX11_undo, some .int), (yX11_there, cX11_there, some .int), (yX11_placeOf, cX11_placeOf, some .int), (yX11_apart, cX11_apart, some .int), (yX11_lettersIn, cX11_lettersIn, some .int)],
  [(yX11_letterIn, cX11_letterIn, some .int), (yX11_farOf, cX11_farOf, some .int), (yX11_timeOf, cX11_timeOf, some .int), (yX11_match, cX11_match, some .int), (yX11_ways, cX11_ways, some .int), (yX11_joins, cX11_joins, some .int), (yX11_votes, cX11_votes, none), (yX11_gives, cX11_gives, none), (yX11_isAhead, cX11_isAhead, some .boolean), (yX11_swaps, cX11_swaps, none), (yX11_winner, cX11_winner, some .int), (yX11_doubtOf, cX11_doubtOf, some .int), (yX11_heardBy, cX11_heardBy, some .int), (yX11_slotOf, cX11_slotOf, some .int), (yX11_rightOf, cX11_rightOf, some .int), (yX11_isHearing, cX11_isHearing, some .boolean)],
  [(yX11_isSlot, cX11_isSlot, some .boolean), (yX11_costsOf, cX11_costsOf, some .int), (yX11_about, cX11_about, some .int), (yX11_hearing, cX11_hearing, some .int), (yX11_slotWith, cX11_slotWith, some .int), (yX11_word, cX11_word, some .int), (yX11_letter, cX11_letter, some .int), (yX11_far, cX11_far, some .int), (yX11_laysHearing, cX11_laysHearing, some .int), (yX11_between, cX11_between, some .int), (yX11_costs, cX11_costs, some .boolean), (yX11_puts, cX11_puts, some .boolean), (yX11_window, cX11_window, some .boolean), (yX11_share, cX11_share, some .boolean), (yX11_weight, cX11_weight, some .int), (yX11_join, cX11_join, some .int)],
  [(yX11_nextOne, cX11_nextOne, some .int), (yX11_joinAll, cX11_joinAll, some .int), (yX11_dropsOnPaper, cX11_dropsOnPaper, none), (yX11_drop, cX11_drop, some .int), (yX11_weigh, cX11_weigh, some .int), (yX11_endTime, cX11_endTime, some .int), (yX11_wordsThere, cX11_wordsThere, some .int), (yX11_placeHeard, cX11_placeHeard, some .int), (yX11_slot, cX11_slot, some .int), (yX11_at, cX11_at, some .int), (yX11_choice, cX11_choice, some .int), (yX11_doubt, cX11_doubt, some .int), (yX11_ahead, cX11_ahead, some .int), (yX11_doubtful, cX11_doubtful, some .int), (yX11_heardAt, cX11_heardAt, some .int), (yX11_heard, cX11_heard, some .int)],
  [(yX11_errors, cX11_errors, some .int), (yX11_refusesPaper, cX11_refusesPaper, some .int), (yX11_cost, cX11_cost, some .int), (yX11_way, cX11_way, some .int), (yX11_without, cX11_without, some .int), (yX11_isIn, cX11_isIn, some .boolean), (yX11_tries, cX11_tries, none), (yX11_best, cX11_best, some .int), (yX11_inks, cX11_inks, none), (yX11_write, cX11_write, some .int), (yX11_octet, cX11_octet, some .int), (yX11_size, cX11_size, some .int), (yX11_trouble, cX11_trouble, some .int), (yL_law, cL_law, some .boolean)]]
def mi0 : MethodName × ByteArray × Option FieldType := (yL_law, ⟨#[]⟩, none)
def mi (i : Nat) : MethodName × ByteArray × Option FieldType := nth mi0 (nth [] miL (i / 16)) (i % 16)
def clsN (o : Nat) : String := nth "" [RX0, RX1, RX2, RX3, RX4, RX5, RX6, RX7, RX8, RX9, RX10, RX11, RL, RJ7] o
/-- links of fields, by class: entry, class, field, place in lw_tbl -/
def flT : List (List (Nat × Nat × Nat × Nat)) := [[(9, 0, 0, 238), (15, 0, 1, 240), (20, 0, 2, 241), (26, 0, 3, 242)],
  [(9, 1, 0, 320), (15, 1, 1, 322), (18, 1, 2, 324), (21, 1, 3, 326), (25, 1, 4, 328), (28, 1, 5, 329), (31, 1, 6, 330), (34, 1, 7, 331), (37, 1, 8, 332), (40, 1, 9, 333), (43, 1, 10, 334), (47, 1, 11, 335), (76, 7, 4, 177), (86, 3, 0, 205)],
  [(9, 2, 2, 306), (15, 2, 0, 304), (19, 2, 1, 305), (29, 8, 8, 134)],
  [(9, 3, 0, 202), (15, 3, 1, 206), (18, 3, 2, 209), (22, 3, 3, 210), (25, 3, 4, 211), (28, 3, 5, 212)],
  [(10, 4, 0, 404), (16, 4, 1, 406), (20, 4, 4, 409), (26, 4, 5, 410), (30, 4, 2, 407), (34, 4, 3, 408), (43, 8, 0, 122)],
  [(12, 5, 0, 270), (18, 5, 1, 272), (22, 5, 3, 275), (25, 5, 4, 276), (28, 5, 5, 277), (31, 5, 6, 278), (34, 5, 7, 279), (37, 5, 2, 274)],
  [(9, 6, 0, 258)],
  [(9, 7, 0, 164), (15, 7, 1, 167), (18, 7, 2, 170), (21, 7, 3, 173), (24, 7, 4, 176), (27, 7, 5, 179)],
  [(9, 8, 0, 120), (15, 8, 1, 124), (18, 8, 2, 126), (22, 8, 3, 128), (25, 8, 4, 129), (28, 8, 5, 130), (31, 8, 6, 131), (34, 8, 7, 132), (37, 8, 8, 133), (40, 8, 9, 135)],
  [(11, 9, 4, 371), (15, 9, 5, 372), (18, 9, 6, 373), (21, 9, 7, 374), (24, 9, 8, 375), (28, 9, 0, 367), (32, 9, 1, 368), (36, 9, 2, 369), (40, 9, 3, 370), (50, 3, 0, 203), (66, 7, 1, 168), (71, 7, 0, 165), (82, 7, 2, 171), (96, 7, 3, 174), (99, 8, 0, 123), (130, 3, 1, 208)],
  [(9, 10, 0, 424), (13, 10, 1, 425), (16, 10, 2, 426), (19, 10, 3, 427), (25, 10, 4, 428), (32, 10, 5, 429), (39, 10, 6, 430), (43, 10, 7, 431), (49, 10, 8, 432), (56, 10, 9, 433), (60, 10, 15, 439), (64, 10, 16, 440), (67, 10, 17, 441), (70, 10, 18, 442), (73, 10, 19, 443), (81, 10, 10, 434), (90, 10, 11, 435), (99, 10, 12, 436), (108, 10, 13, 437), (117, 10, 14, 438), (132, 5, 1, 273), (135, 5, 0, 271), (151, 8, 0, 121), (161, 8, 1, 125), (164, 3, 1, 207), (167, 3, 0, 204), (174, 1, 2, 325), (181, 0, 0, 239), (228, 8, 2, 127), (245, 7, 0, 166), (248, 7, 1, 169), (251, 7, 2, 172), (254, 7, 3, 175), (257, 7, 4, 178), (294, 1, 0, 321), (301, 1, 1, 323), (340, 1, 3, 327), (358, 4, 0, 405)],
  [(9, 11, 2, 1124), (13, 11, 3, 1125), (17, 11, 14, 1136), (21, 11, 15, 1137), (24, 11, 16, 1138), (27, 11, 17, 1139), (30, 11, 18, 1140), (33, 11, 19, 1141), (36, 11, 20, 1142), (39, 11, 21, 1143), (42, 11, 22, 1144), (45, 11, 26, 1148), (48, 11, 27, 1149), (51, 11, 28, 1150), (54, 11, 30, 1152), (57, 11, 31, 1153), (60, 11, 32, 1154), (63, 11, 33, 1155), (66, 11, 34, 1156), (69, 11, 35, 1157), (72, 11, 36, 1158), (75, 11, 37, 1159), (78, 11, 40, 1162), (81, 11, 41, 1163), (84, 11, 42, 1164), (87, 11, 43, 1165), (90, 11, 44, 1166), (93, 11, 46, 1168), (96, 11, 0, 1122), (99, 11, 1, 1123), (102, 11, 4, 1126), (105, 11, 7, 1129), (108, 11, 10, 1132), (111, 11, 8, 1130), (114, 11, 5, 1127), (121, 11, 6, 1128), (124, 11, 9, 1131), (131, 11, 13, 1135), (142, 11, 12, 1134), (145, 11, 11, 1133), (165, 11, 23, 1145), (195, 11, 24, 1146), (201, 11, 25, 1147), (208, 11, 29, 1151), (243, 11, 38, 1160), (246, 11, 39, 1161), (349, 11, 45, 1167), (352, 11, 47, 1169)],
  [],
  []]
/-- links of methods, by class: entry, method, place in lw_tbl -/
def mlT : List (List (Nat × Nat × Nat)) := [[(32, 54, 780), (36, 21, 785)],
  [(51, 26, 651), (57, 61, 655), (62, 55, 659), (68, 5, 663), (72, 23, 667), (79, 6, 675), (83, 8, 951), (89, 4, 647), (93, 7, 679), (96, 9, 960), (100, 14, 961), (104, 62, 825)],
  [(23, 0, 303), (34, 64, 745), (38, 51, 749)],
  [(31, 0, 199), (37, 900, 789), (43, 22, 671), (47, 26, 724), (51, 29, 846)],
  [(39, 36, 1003), (48, 37, 1006), (52, 23, 1011), (56, 21, 1012), (60, 76, 1013), (66, 25, 1010)],
  [(41, 57, 505), (44, 40, 509), (47, 45, 531), (51, 39, 513), (54, 43, 517), (58, 41, 520), (61, 44, 524), (64, 42, 527), (67, 47, 535), (71, 46, 547), (75, 48, 552), (78, 49, 560), (81, 50, 580), (84, 65, 539), (87, 66, 543), (90, 67, 556), (94, 68, 564), (97, 69, 584)],
  [(15, 52, 753)],
  [(31, 60, 603), (37, 900, 784)],
  [(43, 900, 596), (49, 59, 568), (53, 70, 572), (56, 62, 588), (60, 71, 576)],
  [(44, 59, 819), (56, 17, 821), (62, 73, 826), (74, 74, 834), (78, 61, 830), (85, 26, 831), (88, 19, 832), (93, 62, 833), (102, 23, 814), (106, 72, 815), (110, 75, 838), (113, 30, 842), (117, 31, 850), (120, 29, 854), (124, 32, 855), (127, 20, 876), (133, 25, 877), (136, 76, 881)],
  [(121, 115, 489), (125, 111, 497), (129, 38, 501), (136, 58, 592), (140, 53, 599), (143, 20, 607), (146, 1, 611), (147, 18, 615), (150, 33, 619), (154, 113, 623), (157, 116, 639), (170, 10, 643), (177, 121, 683), (184, 122, 692), (187, 117, 701), (191, 55, 696), (194, 59, 705), (197, 22, 706), (200, 23, 687), (203, 24, 688), (206, 123, 707), (209, 61, 713), (213, 62, 719), (216, 27, 720), (219, 118, 729), (222, 63, 733), (225, 19, 741), (231, 51, 760), (235, 112, 765), (238, 120, 769), (242, 114, 772), (260, 56, 802), (264, 76, 810), (268, 125, 863), (271, 77, 872), (275, 21, 882), (277, 124, 887), (280, 3, 895), (284, 119, 903), (287, 4, 712), (291, 28, 907), (297, 17, 911), (304, 7, 714), (307, 126, 912), (310, 127, 920), (313, 128, 924), (316, 26, 711), (319, 8, 936), (322, 131, 940), (325, 9, 947), (328, 13, 956), (331, 15, 965), (334, 12, 916), (337, 11, 973), (343, 72, 867), (346, 75, 989), (349, 900, 994), (355, 34, 999), (361, 35, 1014), (364, 130, 1022), (367, 129, 1026), (370, 16, 1030), (380, 2, 776)],
  [(117, 136, 1288), (127, 140, 1299), (139, 141, 1305), (158, 139, 1313), (162, 142, 1295), (168, 147, 1317), (174, 902, 1321), (178, 146, 1372), (182, 143, 1376), (185, 133, 1291), (189, 148, 1309), (192, 150, 1380), (198, 134, 1387), (204, 151, 1384), (211, 154, 1490), (214, 159, 1456), (218, 160, 1459), (222, 158, 1470), (225, 156, 1414), (229, 161, 1466), (232, 162, 1526), (236, 163, 1522), (240, 164, 1518), (249, 157, 1411), (252, 167, 1417), (256, 168, 1421), (260, 169, 1425), (263, 166, 1407), (267, 170, 1403), (270, 172, 1399), (274, 177, 1429), (278, 175, 1436), (281, 174, 1440), (284, 180, 1448), (287, 184, 1478), (291, 135, 1486), (294, 187, 1498), (297, 165, 1514), (300, 192, 1534), (303, 152, 1546), (306, 194, 1542), (309, 153, 1550), (312, 176, 1562), (315, 198, 1566), (318, 199, 1570), (321, 197, 1574), (325, 137, 1586), (328, 171, 1593), (331, 204, 1601), (334, 173, 1609), (337, 206, 1613), (340, 209, 1625), (343, 213, 1645), (346, 214, 1641), (355, 216, 1653)],
  [(19, 78, 485), (23, 138, 1272), (24, 79, 493), (27, 149, 1284), (28, 80, 627), (32, 144, 1276), (33, 81, 631), (36, 145, 1280), (37, 82, 635), (40, 178, 1395), (41, 83, 697), (45, 179, 1432), (46, 84, 715), (50, 181, 1444), (51, 85, 725), (54, 182, 1452), (55, 86, 737), (58, 183, 1462), (59, 87, 756), (62, 185, 1474), (63, 88, 761), (67, 186, 1482), (68, 89, 790), (72, 188, 1494), (73, 90, 794), (76, 189, 1502), (77, 91, 798), (80, 190, 1506), (81, 92, 806), (84, 191, 1510), (85, 93, 859), (88, 193, 1530), (89, 94, 868), (92, 195, 1538), (93, 95, 883), (96, 196, 1554), (97, 96, 891), (100, 155, 1391), (101, 97, 899), (104, 200, 1558), (105, 98, 928), (108, 201, 1578), (109, 99, 932), (112, 202, 1582), (113, 100, 943), (116, 203, 1589), (117, 101, 952), (120, 205, 1597), (121, 102, 969), (124, 207, 1605), (125, 103, 977), (128, 208, 1617), (129, 104, 981), (132, 210, 1621), (133, 105, 985), (136, 211, 1629), (137, 106, 990), (140, 212, 1633), (141, 107, 995), (144, 215, 1637), (145, 108, 1018), (148, 217, 1649), (149, 901, 1042), (154, 218, 1657), (155, 132, 1268), (158, 109, 1034), (161, 219, 1661), (162, 110, 1038), (165, 220, 1665)],
  []]
/-- of a method the places of its words: code, initialised, instance and selects (kind 0) or static (kind 1) -/
def cwT : List (List (Nat × Nat × Nat × Nat × Nat)) := [[(201, 88, 200, 0, 1), (614, 89, 612, 613, 0), (779, 89, 777, 778, 0), (898, 89, 896, 897, 0), (650, 93, 648, 649, 0), (666, 93, 665, 16, 0), (678, 93, 677, 17, 0), (682, 93, 680, 681, 0), (939, 93, 937, 938, 0), (950, 93, 948, 949, 0), (646, 93, 644, 645, 0), (976, 93, 974, 975, 0), (919, 93, 917, 918, 0), (959, 93, 957, 958, 0), (964, 93, 963, 33, 0), (968, 93, 966, 967, 0)],
  [(1033, 93, 1031, 1032, 0), (824, 93, 822, 823, 0), (618, 92, 616, 617, 0), (744, 92, 742, 743, 0), (610, 87, 608, 609, 0), (788, 87, 786, 787, 0), (674, 87, 672, 673, 0), (670, 87, 668, 669, 0), (691, 87, 689, 690, 0), (880, 87, 878, 879, 0), (654, 87, 652, 653, 0), (723, 87, 721, 722, 0), (910, 87, 908, 909, 0), (849, 87, 847, 848, 0), (845, 87, 843, 844, 0), (853, 87, 851, 852, 0)],
  [(858, 87, 856, 857, 0), (622, 95, 620, 621, 0), (1002, 95, 1000, 1001, 0), (1017, 95, 1015, 1016, 0), (1005, 95, 1004, 0, 1), (1009, 95, 1008, 34, 0), (504, 91, 502, 503, 0), (516, 91, 515, 3, 0), (512, 91, 511, 2, 0), (523, 91, 522, 4, 0), (530, 91, 529, 5, 0), (519, 91, 518, 0, 1), (526, 91, 525, 0, 1), (534, 91, 533, 6, 0), (550, 91, 549, 8, 0), (538, 91, 537, 7, 0)],
  [(555, 91, 554, 9, 0), (563, 91, 562, 10, 0), (583, 91, 582, 13, 0), (752, 90, 750, 751, 0), (755, 90, 754, 0, 1), (602, 86, 600, 601, 0), (783, 86, 781, 782, 0), (662, 86, 660, 661, 0), (805, 86, 803, 804, 0), (508, 85, 506, 507, 0), (595, 85, 593, 594, 0), (571, 85, 569, 570, 0), (606, 85, 604, 605, 0), (658, 85, 656, 657, 0), (591, 85, 589, 590, 0), (736, 85, 734, 735, 0)],
  [(748, 85, 746, 747, 0), (542, 85, 540, 541, 0), (546, 85, 544, 545, 0), (559, 85, 557, 558, 0), (567, 85, 565, 566, 0), (587, 85, 585, 586, 0), (575, 85, 574, 11, 0), (579, 85, 578, 12, 0), (818, 94, 816, 817, 0), (829, 94, 828, 25, 0), (837, 94, 836, 26, 0), (841, 94, 839, 840, 0), (813, 94, 811, 812, 0), (875, 94, 873, 874, 0), (488, 84, 486, 487, 0), (496, 84, 494, 495, 0)],
  [(630, 84, 628, 629, 0), (634, 84, 632, 633, 0), (638, 84, 636, 637, 0), (700, 84, 698, 699, 0), (718, 84, 716, 717, 0), (728, 84, 726, 727, 0), (740, 84, 738, 739, 0), (759, 84, 757, 758, 0), (764, 84, 762, 763, 0), (793, 84, 791, 792, 0), (797, 84, 795, 796, 0), (801, 84, 799, 800, 0), (809, 84, 807, 808, 0), (862, 84, 860, 861, 0), (871, 84, 869, 870, 0), (886, 84, 884, 885, 0)],
  [(894, 84, 892, 893, 0), (902, 84, 900, 901, 0), (931, 84, 929, 930, 0), (935, 84, 933, 934, 0), (946, 84, 944, 945, 0), (955, 84, 953, 954, 0), (972, 84, 970, 971, 0), (980, 84, 978, 979, 0), (984, 84, 982, 983, 0), (988, 84, 986, 987, 0), (993, 84, 991, 992, 0), (998, 84, 996, 997, 0), (1021, 84, 1019, 1020, 0), (1037, 84, 1035, 1036, 0), (1041, 84, 1039, 1040, 0), (500, 84, 499, 1, 0)],
  [(768, 84, 767, 23, 0), (626, 84, 625, 14, 0), (775, 84, 774, 24, 0), (492, 84, 491, 0, 0), (642, 84, 641, 15, 0), (704, 84, 703, 20, 0), (732, 84, 731, 22, 0), (906, 84, 905, 29, 0), (771, 84, 770, 0, 1), (686, 84, 685, 18, 0), (695, 84, 694, 19, 0), (710, 84, 709, 21, 0), (890, 84, 889, 28, 0), (866, 84, 865, 27, 0), (915, 84, 914, 30, 0), (923, 84, 922, 31, 0)],
  [(927, 84, 926, 32, 0), (1029, 84, 1028, 36, 0), (1025, 84, 1024, 35, 0), (942, 84, 941, 0, 1), (1271, 96, 1269, 1270, 0), (1294, 96, 1293, 38, 0), (1390, 96, 1389, 47, 0), (1489, 96, 1488, 60, 0), (1290, 96, 1289, 0, 1), (1588, 96, 1587, 0, 1), (1275, 96, 1273, 1274, 0), (1316, 96, 1315, 43, 0), (1302, 96, 1301, 40, 0), (1308, 96, 1307, 41, 0), (1298, 96, 1297, 39, 0), (1379, 96, 1378, 45, 0)],
  [(1279, 96, 1277, 1278, 0), (1283, 96, 1281, 1282, 0), (1375, 96, 1374, 44, 0), (1319, 96, 1318, 0, 1), (1312, 96, 1311, 42, 0), (1287, 96, 1285, 1286, 0), (1383, 96, 1382, 46, 0), (1386, 96, 1385, 0, 1), (1549, 96, 1548, 69, 0), (1553, 96, 1552, 70, 0), (1493, 96, 1492, 61, 0), (1394, 96, 1392, 1393, 0), (1416, 96, 1415, 0, 1), (1413, 96, 1412, 0, 1), (1473, 96, 1472, 58, 0), (1458, 96, 1457, 0, 1)],
  [(1461, 96, 1460, 0, 1), (1469, 96, 1468, 57, 0), (1529, 96, 1528, 66, 0), (1525, 96, 1524, 65, 0), (1521, 96, 1520, 64, 0), (1517, 96, 1516, 63, 0), (1410, 96, 1409, 50, 0), (1420, 96, 1419, 51, 0), (1424, 96, 1423, 52, 0), (1428, 96, 1427, 53, 0), (1406, 96, 1405, 49, 0), (1596, 96, 1595, 75, 0), (1402, 96, 1401, 48, 0), (1612, 96, 1611, 77, 0), (1443, 96, 1442, 55, 0), (1439, 96, 1438, 54, 0)],
  [(1565, 96, 1564, 71, 0), (1431, 96, 1430, 0, 1), (1398, 96, 1396, 1397, 0), (1435, 96, 1433, 1434, 0), (1451, 96, 1450, 56, 0), (1447, 96, 1445, 1446, 0), (1455, 96, 1453, 1454, 0), (1465, 96, 1463, 1464, 0), (1481, 96, 1480, 59, 0), (1477, 96, 1475, 1476, 0), (1485, 96, 1483, 1484, 0), (1501, 96, 1500, 62, 0), (1497, 96, 1495, 1496, 0), (1505, 96, 1503, 1504, 0), (1509, 96, 1507, 1508, 0), (1513, 96, 1511, 1512, 0)],
  [(1537, 96, 1536, 67, 0), (1533, 96, 1531, 1532, 0), (1545, 96, 1544, 68, 0), (1541, 96, 1539, 1540, 0), (1557, 96, 1555, 1556, 0), (1577, 96, 1576, 74, 0), (1569, 96, 1568, 72, 0), (1573, 96, 1572, 73, 0), (1561, 96, 1559, 1560, 0), (1581, 96, 1579, 1580, 0), (1585, 96, 1583, 1584, 0), (1592, 96, 1590, 1591, 0), (1604, 96, 1603, 76, 0), (1600, 96, 1598, 1599, 0), (1616, 96, 1615, 78, 0), (1608, 96, 1606, 1607, 0)],
  [(1620, 96, 1618, 1619, 0), (1628, 96, 1627, 79, 0), (1624, 96, 1622, 1623, 0), (1632, 96, 1630, 1631, 0), (1636, 96, 1634, 1635, 0), (1648, 96, 1647, 81, 0), (1644, 96, 1643, 80, 0), (1640, 96, 1638, 1639, 0), (1656, 96, 1655, 82, 0), (1652, 96, 1650, 1651, 0), (1660, 96, 1658, 1659, 0), (1664, 96, 1662, 1663, 0), (1668, 96, 1666, 1667, 0), (0, 0, 0, 0, 2)]]
def nrT : List (List Nat) := [[2, 0, 2, 2, 2, 2, 1, 1, 1, 0, 1, 1, 1, 1, 2, 1], [1, 3, 0, 2, 0, 1, 1, 1, 1, 1, 2, 2, 1, 3, 1, 2], [2, 0, 0, 1, 3, 2, 1, 0, 0, 0, 0, 1, 1, 0, 1, 0], [0, 0, 0, 6, 3, 1, 1, 1, 2, 0, 1, 1, 1, 2, 2, 2], [1, 1, 1, 1, 1, 1, 1, 2, 2, 4, 2, 1, 2, 3, 5, 1], [0, 0, 1, 2, 3, 2, 2, 2, 3, 1, 1, 2, 1, 1, 1, 0], [0, 2, 2, 3, 2, 1, 2, 1, 1, 2, 1, 1, 0, 0, 0, 1], [1, 1, 0, 1, 0, 1, 1, 1, 3, 0, 0, 1, 1, 1, 1, 1], [1, 1, 1, 2, 0, 1, 1, 1, 3, 2, 5, 1, 1, 1, 0, 1], [0, 0, 2, 3, 0, 1, 0, 1, 0, 0, 0, 0, 3, 2, 2, 1], [2, 2, 2, 4, 2, 2, 2, 2, 2, 1, 2, 2, 2, 1, 2, 1], [1, 1, 1, 2, 2, 3, 2, 2, 2, 2, 3, 3, 1, 1, 2, 1], [1, 1, 1, 1, 0, 2, 1, 1, 2, 2, 3, 2, 1, 1, 1, 2], [1, 1, 1, 2, 1, 2, 1, 1, 1, 0, 1, 0, 0, 1]]
def Tf (c : Nat) : u_T := match vwCl[c]? with
  | some q => q.2.1
  | none => TX0
def lk {α : Type} : List (Nat × α) → Nat → Option α
  | [], _ => none
  | (j, x) :: l, i => cond (Nat.beq j i) (some x) (lk l i)
def flk (o ix : Nat) : Option (Nat × Nat × Nat) := lk (nth [] flT o) ix
def mlk (o ix : Nat) : Option (Nat × Nat) := lk (nth [] mlT o) ix
def flW (o : Nat) (q : Nat × Nat × Nat × Nat) : Bool := decide (lw_tbl[q.2.2.2]? = some (Cond.fieldLink (clsN o) q.1 (Tf q.2.1 q.2.2.1).1 (Tf q.2.1 q.2.2.1).2.1 (Tf q.2.1 q.2.2.1).2.2.1)) && Nat.ble (q.2.2.1 + 1) (nth [] fkT q.2.1).length && Nat.ble (q.2.1 + 1) 12
def mlY (a : Nat) : MethodName := cond (Nat.beq a 900) arraycopyName (cond (Nat.beq a 901) yL_octet (cond (Nat.beq a 902) yX11_wordOf (mi a).1))
def mlW (o : Nat) (q : Nat × Nat × Nat) : Bool := decide (lw_tbl[q.2.2]? = some (Cond.methodLink (clsN o) q.1 (mlY q.2.1)))
theorem flT_ok : ((List.range 14).all fun o => (nth [] flT o).all (flW o)) = true := by decide +kernel
theorem mlT_ok : ((List.range 14).all fun o => (nth [] mlT o).all (mlW o)) = true := by decide +kernel
def cwd (a : Nat) : Nat × Nat × Nat × Nat × Nat := nth (0, 0, 0, 0, 9) (nth [] cwT (a / 16)) (a % 16)
def nrg (a : Nat) : Nat := nth 0 (nth [] nrT (a / 16)) (a % 16)
def cwW (a : Nat) : Bool := match cwd a with
  | (p0, p1, p2, p3, 0) => decide (lw_tbl[p0]? = some (Cond.code (mi a).1 (mi a).2.1 (inf a).2 (mi a).2.2)) && decide (lw_tbl[p1]? = some (Cond.initialized (mi a).1.cls)) && decide (lw_tbl[p2]? = some (Cond.instanceMethod (mi a).1)) && decide (lw_tbl[p3]? = some (Cond.selects (mi a).1.cls (mi a).1 (mi a).1))
  | (p0, p1, p2, _, 1) => decide (lw_tbl[p0]? = some (Cond.code (mi a).1 (mi a).2.1 (inf a).2 (mi a).2.2)) && decide (lw_tbl[p1]? = some (Cond.initialized (mi a).1.cls)) && decide (lw_tbl[p2]? = some (Cond.static (mi a).1))
  | (_, _, _, _, 2) => true
  | _ => false
/-- of a method: its words, its name, its locals -/
def cwM (a : Nat) : Bool := cwW a && decide ((mi a).1.cls = clsN (inf a).1) && decide ((mi a).1.cls ≠ "java/lang/invoke/MethodHandle") && decide ((mi a).1.cls ≠ "java/lang/invoke/VarHandle") && plainName (mi a).1.cls && decide ((parseMethodDescriptor (mi a).1.desc).map (fun d => d.parameters.length) = some (nrg a)) && Nat.ble (inf a).2 40 && Nat.beq (tab a).2.2 a
def lenI : Instr → Nat
  | .aload _ => 2
  | .iload _ => 2
  | .lload _ => 2
  | .istore _ => 2
  | .astore _ => 2
  | .lstore _ => 2
  | .bipush _ => 2
  | .ldc _ => 2
  | .newarray _ => 2
  | .sipush _ => 3
  | .ldc2_w _ => 3
  | .iinc _ _ => 3
  | .goto _ => 3
  | .if_icmp _ _ => 3
  | .ifCond _ _ => 3
  | .ifnull _ => 3
  | .ifnonnull _ => 3
  | .getfield _ => 3
  | .putfield _ => 3
  | .invokevirtual _ => 3
  | .invokestatic _ => 3
  | .invokespecial _ => 3
  | .new _ => 3
  | _ => 1
def rpc (M : TB) (i : Nat) : Nat := match M.at i with
  | some e => e.2.1
  | none => 0
def isI (r : Except DecodeError (Instr × Nat)) (x : Instr) : Bool := match r with
  | .ok (y, _) => decide (y = x)
  | .error _ => false
def swC (M : TB) (rp : Nat) (lo : Int) : Nat → List (Int32 × Nat) → List Int → Bool
  | _, [], [] => true
  | k, (v, t) :: l, o :: os => decide (v.toInt = lo + k) && decide ((rp : Int) + o = (rpc M t : Int)) && swC M rp lo (k + 1) l os
  | _, _, _ => false
def swD (M : TB) (rp : Nat) : List (Int32 × Nat) → List (Int × Int) → Bool
  | [], [] => true
  | (v, t) :: l, (w, o) :: os => decide (v.toInt = w) && decide ((rp : Int) + o = (rpc M t : Int)) && swD M rp l os
  | _, _ => false
def chT (M : TB) (rp : Nat) (df lo hi : Int) (offs : Array Int) : Option (List (Int32 × Nat) × Nat) → Bool
  | some (l, dt) => decide ((rp : Int) + df = (rpc M dt : Int)) && decide (hi + 1 = lo + (offs.size : Int)) && swC M rp lo 0 l offs.toList
  | none => false
def chU (M : TB) (rp : Nat) (df : Int) (ps : Array (Int × Int)) : Option (List (Int32 × Nat) × Nat) → Bool
  | some (l, dt) => decide ((rp : Int) + df = (rpc M dt : Int)) && (ps.toList.zip (ps.toList.drop 1)).all (fun (a, next) => a.1 < next.1) && swD M rp l ps.toList
  | none => false
def chF (o ix a b : Nat) : Bool := match flk o ix with
  | some (c, j, _) => Nat.beq c a && Nat.beq j b
  | none => false
def chL (o ix a : Nat) : Bool := match mlk o ix with
  | some (t, _) => Nat.beq t a
  | none => false
def chK (o ix : Nat) (z : Int) : Bool := match o, ix with
  | 4, 9 => decide (z = 1000000)
  | 9, 55 => decide (z = 1000000)
  | 5, 70 => decide (z = 679716023)
  | _, _ => false
def chJ (o ix : Nat) (z : Int) : Bool := match o, ix with
  | 11, 135 => decide (z = 32)
  | 11, 137 => decide (z = 97)
  | _, _ => false
def chR (a : Nat) (rt : Option FieldType) : Bool := match a with
  | 0 => decide (rt = some .int)
  | _ => decide (rt = some .boolean)
def chE (o : Nat) (rt : Option FieldType) (bs : ByteArray) (M : TB) (i : Nat) : EN → Bool
  | (ins, rp, nx, a, b, z) => match ins with
    | .tableswitch df lo hi offs => isI (decode bs rp) ins && chT M rp df lo hi offs (swl M.2.1 i)
    | .lookupswitch df ps => isI (decode bs rp) ins && chU M rp df ps (swl M.2.1 i)
    | .ireturn => decide (decode bs rp = .ok (ins, 1)) && chR a rt
    | .return_ => decide (decode bs rp = .ok (ins, 1)) && decide (rt = none)
    | .goto off => decide (decode bs rp = .ok (ins, 3)) && decide ((rp : Int) + off = (rpc M a : Int))
    | .if_icmp _ off => decide (decode bs rp = .ok (ins, 3)) && decide ((rp : Int) + off = (rpc M a : Int)) && Nat.beq (rpc M nx) (rp + 3)
    | .ifCond _ off => decide (decode bs rp = .ok (ins, 3)) && decide ((rp : Int) + off = (rpc M a : Int)) && Nat.beq (rpc M nx) (rp + 3)
    | .ifnonnull off => decide (decode bs rp = .ok (ins, 3)) && decide ((rp : Int) + off = (rpc M a : Int))
    | .getfield ix => decide (decode bs rp = .ok (ins, 3)) && Nat.beq (rpc M nx) (rp + 3) && chF o ix a b
    | .putfield ix => decide (decode bs rp = .ok (ins, 3)) && Nat.beq (rpc M nx) (rp + 3) && chF o ix a b
    | .invokevirtual ix => decide (decode bs rp = .ok (ins, 3)) && Nat.beq (rpc M nx) (rp + 3) && chL o ix a && Nat.beq b (nrg a) && Nat.beq (cwd a).2.2.2.2 0 && Nat.ble (a + 1) 222
    | .invokestatic ix => decide (decode bs rp = .ok (ins, 3)) && Nat.beq (rpc M nx) (rp + 3) && chL o ix a && (Nat.ble 900 a || Nat.beq b (nrg a) && Nat.beq (cwd a).2.2.2.2 1 && Nat.ble (a + 1) 222)
    | .ldc ix => cond (Nat.beq a 0) (decide (decode bs rp = .ok (ins, 2)) && Nat.beq (rpc M nx) (rp + 2) && chK o ix z) (decide (decode bs rp = .ok (ins, 2)) && decide (decode bs (rp + 2) = .ok (.invokestatic 174, 3)) && Nat.beq ix 172 && Nat.beq o 11 && Nat.beq (rpc M nx) (rp + 5) && decide (z = 777297172))
    | .ldc2_w ix => decide (decode bs rp = .ok (ins, 3)) && Nat.beq (rpc M nx) (rp + 3) && chJ o ix z
    | .new _ => true
    | .newarray _ => true
    | .invokespecial _ => true
    | _ => decide (decode bs rp = .ok (ins, lenI ins)) && Nat.beq (rpc M nx) (rp + lenI ins)
def szL {α : Type} : List (List α) → Nat
  | [] => 0
  | l :: r => l.length + szL r
/-- an entry holds -/
def chX (a i : Nat) : Bool := match (tab a).at i with
  | some e => chE (inf a).1 (mi a).2.2 (mi a).2.1 (tab a) i e
  | none => true
def chC (a q : Nat) : Bool := (List.range 16).all (fun r => chX a (16 * q + r))
theorem nth_out {α : Type} (z : α) : ∀ (l : List α) (n : Nat), l.length ≤ n → nth z l n = z
  | [], _, _ => rfl
  | _ :: l, 0, h => absurd h (by simp)
  | _ :: l, n + 1, h => nth_out z l n (by simpa using h)
theorem nthO_out {α : Type} : ∀ (l : List α) (n : Nat), l.length ≤ n → nthO l n = none
  | [], _, _ => rfl
  | _ :: l, 0, h => absurd h (by simp)
  | _ :: l, n + 1, h => nthO_out l n (by simpa using h)
theorem chX_of {a n : Nat} (hn : (tab a).1.length ≤ n) (h : ∀ q, q < n → chC a q = true) (i : Nat) : chX a i = true := by
  by_cases hq : i / 16 < n
  · have h1 := List.all_eq_true.mp (h (i / 16) hq) (i % 16) (List.mem_range.mpr (Nat.mod_lt _ (by decide)))
    rwa [Nat.div_add_mod] at h1
  · have e : (tab a).at i = none := by
      unfold TB.at
      rw [nthO_out _ _ (by omega)]
    unfold chX
    rw [e]
theorem chQ_of {a n : Nat} (h : (List.range n).all (chC a) = true) : ∀ q, q < n → chC a q = true := fun q hq => List.all_eq_true.mp h q (List.mem_range.mpr hq)

