theorem lkV_WithOneHandLaw_13_X8_link : LKV "WithOneHandLaw" 13 "WithOneHand" m_X8_link 2 := ⟨good_ws (tb 359 (by decide +kernel)) (memb [356, 357, 358, 102] (by decide +kernel)), by decide +kernel, by decide⟩
theorem lkV_WithOneHandLaw_17_X9_link : LKV "WithOneHandLaw" 17 "WithOneHandModel" m_X9_link 2 := ⟨good_ws (tb 1056 (by decide +kernel)) (memb [1053, 1054, 1055, 112] (by decide +kernel)), by decide +kernel, by decide⟩
theorem lkV_WithOneHandLaw_18_X8_cuff : LKV "WithOneHandLaw" 18 "WithOneHand" m_X8_cuff 2 := ⟨good_ws (tb 370 (by decide +kernel)) (memb [367, 368, 369, 102] (by decide +kernel)), by decide +kernel, by decide⟩
theorem lkV_WithOneHandLaw_21_X9_cuff : LKV "WithOneHandLaw" 21 "WithOneHandModel" m_X9_cuff 2 := ⟨good_ws (tb 1064 (by decide +kernel)) (memb [1061, 1062, 1063, 112] (by decide +kernel)), by decide +kernel, by decide⟩
theorem lkV_WithOneHandLaw_22_X8_cuffs : LKV "WithOneHandLaw" 22 "WithOneHand" m_X8_cuffs 3 := ⟨good_ws (tb 378 (by decide +kernel)) (memb [375, 376, 377, 102] (by decide +kernel)), by decide +kernel, by decide⟩
theorem lkV_WithOneHandLaw_26_X9_cuffs : LKV "WithOneHandLaw" 26 "WithOneHandModel" m_X9_cuffs 3 := ⟨good_ws (tb 1072 (by decide +kernel)) (memb [1069, 1070, 1071, 112] (by decide +kernel)), by decide +kernel, by decide⟩
theorem lkV_WithOneHandLaw_27_X8_spot : LKV "WithOneHandLaw" 27 "WithOneHand" m_X8_spot 2 := ⟨good_ws (tb 404 (by decide +kernel)) (memb [401, 402, 403, 102] (by decide +kernel)), by decide +kernel, by decide⟩
theorem lkV_WithOneHandLaw_30_X9_spot : LKV "WithOneHandLaw" 30 "WithOneHandModel" m_X9_spot 2 := ⟨good_ws (tb 1084 (by decide +kernel)) (memb [1081, 1082, 1083, 112] (by decide +kernel)), by decide +kernel, by decide⟩
theorem lkV_WithOneHandLaw_31_X8_mend : LKV "WithOneHandLaw" 31 "WithOneHand" m_X8_mend 3 := ⟨good_ws (tb 408 (by decide +kernel)) (memb [405, 406, 407, 102] (by decide +kernel)), by decide +kernel, by decide⟩
theorem lkV_WithOneHandLaw_34_X9_mend : LKV "WithOneHandLaw" 34 "WithOneHandModel" m_X9_mend 3 := ⟨good_ws (tb 1088 (by decide +kernel)) (memb [1085, 1086, 1087, 112] (by decide +kernel)), by decide +kernel, by decide⟩
theorem lkV_WithOneHandLaw_35_X8_of : LKV "WithOneHandLaw" 35 "WithOneHand" m_X8_of 2 := ⟨good_ws (tb 431 (by decide +kernel)) (memb [428, 429, 430, 102] (by decide +kernel)), by decide +kernel, by decide⟩
theorem lkV_WithOneHandLaw_38_X9_of : LKV "WithOneHandLaw" 38 "WithOneHandModel" m_X9_of 2 := ⟨good_ws (tb 1132 (by decide +kernel)) (memb [1129, 1130, 1131, 112] (by decide +kernel)), by decide +kernel, by decide⟩
theorem lkV_WithOneHandLaw_39_X8_feed : LKV "WithOneHandLaw" 39 "WithOneHand" m_X8_feed 1 := ⟨good_ws (tb 439 (by decide +kernel)) (memb [436, 437, 438, 102] (by decide +kernel)), by decide +kernel, by decide⟩
theorem lkV_WithOneHandLaw_43_X9_feed : LKV "WithOneHandLaw" 43 "WithOneHandModel" m_X9_feed 1 := ⟨good_ws (tb 1136 (by decide +kernel)) (memb [1133, 1134, 1135, 112] (by decide +kernel)), by decide +kernel, by decide⟩
theorem lkV_WithOneHandLaw_44_X8_law : LKV "WithOneHandLaw" 44 "WithOneHand" m_X8_law 0 := ⟨good_ws (tb 443 (by decide +kernel)) (memb [440, 441, 442, 102] (by decide +kernel)), by decide +kernel, by decide⟩
theorem lkV_WithOneHandLaw_48_X9_law : LKV "WithOneHandLaw" 48 "WithOneHandModel" m_X9_law 0 := ⟨good_ws (tb 1140 (by decide +kernel)) (memb [1137, 1138, 1139, 112] (by decide +kernel)), by decide +kernel, by decide⟩
theorem lkV_WithOneHandLaw_49_X8_seconds : LKV "WithOneHandLaw" 49 "WithOneHand" m_X8_seconds 2 := ⟨good_ws (tb 488 (by decide +kernel)) (memb [485, 486, 487, 102] (by decide +kernel)), by decide +kernel, by decide⟩
theorem lkV_WithOneHandLaw_52_X9_seconds : LKV "WithOneHandLaw" 52 "WithOneHandModel" m_X9_seconds 2 := ⟨good_ws (tb 1188 (by decide +kernel)) (memb [1185, 1186, 1187, 112] (by decide +kernel)), by decide +kernel, by decide⟩
theorem lkV_WithOneHandLaw_53_X8_best : LKV "WithOneHandLaw" 53 "WithOneHand" m_X8_best 1 := ⟨good_ws (tb 549 (by decide +kernel)) (memb [546, 547, 548, 102] (by decide +kernel)), by decide +kernel, by decide⟩
theorem lkV_WithOneHandLaw_56_X9_best : LKV "WithOneHandLaw" 56 "WithOneHandModel" m_X9_best 1 := ⟨good_ws (tb 1256 (by decide +kernel)) (memb [1253, 1254, 1255, 112] (by decide +kernel)), by decide +kernel, by decide⟩
theorem lkV_WithOneHandLaw_57_X8_paired : LKV "WithOneHandLaw" 57 "WithOneHand" m_X8_paired 2 := ⟨good_ws (tb 553 (by decide +kernel)) (memb [550, 551, 552, 102] (by decide +kernel)), by decide +kernel, by decide⟩
theorem lkV_WithOneHandLaw_60_X9_paired : LKV "WithOneHandLaw" 60 "WithOneHandModel" m_X9_paired 2 := ⟨good_ws (tb 1260 (by decide +kernel)) (memb [1257, 1258, 1259, 112] (by decide +kernel)), by decide +kernel, by decide⟩
theorem lkV_WithOneHandLaw_61_X8_order : LKV "WithOneHandLaw" 61 "WithOneHand" m_X8_order 1 := ⟨good_ws (tb 602 (by decide +kernel)) (memb [599, 600, 601, 102] (by decide +kernel)), by decide +kernel, by decide⟩
theorem lkV_WithOneHandLaw_64_X9_order : LKV "WithOneHandLaw" 64 "WithOneHandModel" m_X9_order 1 := ⟨good_ws (tb 1272 (by decide +kernel)) (memb [1269, 1270, 1271, 112] (by decide +kernel)), by decide +kernel, by decide⟩
theorem lkV_WithOneHandLaw_65_X8_dropped : LKV "WithOneHandLaw" 65 "WithOneHand" m_X8_dropped 2 := ⟨good_ws (tb 634 (by decide +kernel)) (memb [631, 632, 633, 102] (by decide +kernel)), by decide +kernel, by decide⟩
theorem lkV_WithOneHandLaw_69_X9_dropped : LKV "WithOneHandLaw" 69 "WithOneHandModel" m_X9_dropped 2 := ⟨good_ws (tb 1288 (by decide +kernel)) (memb [1285, 1286, 1287, 112] (by decide +kernel)), by decide +kernel, by decide⟩
theorem lkV_WithOneHandLaw_70_X8_by : LKV "WithOneHandLaw" 70 "WithOneHand" m_X8_by 3 := ⟨good_ws (tb 645 (by decide +kernel)) (memb [642, 643, 644, 102] (by decide +kernel)), by decide +kernel, by decide⟩
theorem lkV_WithOneHandLaw_74_X9_by : LKV "WithOneHandLaw" 74 "WithOneHandModel" m_X9_by 3 := ⟨good_ws (tb 1302 (by decide +kernel)) (memb [1299, 1300, 1301, 112] (by decide +kernel)), by decide +kernel, by decide⟩
theorem lkV_WithOneHandLaw_75_X8_practice : LKV "WithOneHandLaw" 75 "WithOneHand" m_X8_practice 3 := ⟨good_ws (tb 650 (by decide +kernel)) (memb [647, 648, 649, 102] (by decide +kernel)), by decide +kernel, by decide⟩
theorem lkV_WithOneHandLaw_78_X9_practice : LKV "WithOneHandLaw" 78 "WithOneHandModel" m_X9_practice 3 := ⟨good_ws (tb 1306 (by decide +kernel)) (memb [1303, 1304, 1305, 112] (by decide +kernel)), by decide +kernel, by decide⟩
theorem lkV_WithOneHandLaw_79_X8_search : LKV "WithOneHandLaw" 79 "WithOneHand" m_X8_search 1 := ⟨good_ws (tb 666 (by decide +kernel)) (memb [663, 664, 665, 102] (by decide +kernel)), by decide +kernel, by decide⟩
theorem lkV_WithOneHandLaw_83_X9_search : LKV "WithOneHandLaw" 83 "WithOneHandModel" m_X9_search 1 := ⟨good_ws (tb 1310 (by decide +kernel)) (memb [1307, 1308, 1309, 112] (by decide +kernel)), by decide +kernel, by decide⟩
theorem lkV_WithOneHandLaw_84_X8_told : LKV "WithOneHandLaw" 84 "WithOneHand" m_X8_told 2 := ⟨good_ws (tb 683 (by decide +kernel)) (memb [680, 681, 682, 102] (by decide +kernel)), by decide +kernel, by decide⟩
theorem lkV_WithOneHandLaw_87_X9_told : LKV "WithOneHandLaw" 87 "WithOneHandModel" m_X9_told 2 := ⟨good_ws (tb 1319 (by decide +kernel)) (memb [1316, 1317, 1318, 112] (by decide +kernel)), by decide +kernel, by decide⟩
theorem lkV_WithOneHandLaw_88_X8_asked : LKV "WithOneHandLaw" 88 "WithOneHand" m_X8_asked 3 := ⟨good_ws (tb 691 (by decide +kernel)) (memb [688, 689, 690, 102] (by decide +kernel)), by decide +kernel, by decide⟩
theorem lkV_WithOneHandLaw_91_X9_asked : LKV "WithOneHandLaw" 91 "WithOneHandModel" m_X9_asked 3 := ⟨good_ws (tb 1324 (by decide +kernel)) (memb [1321, 1322, 1323, 112] (by decide +kernel)), by decide +kernel, by decide⟩
theorem lkV_WithOneHandLaw_92_X8_two : LKV "WithOneHandLaw" 92 "WithOneHand" m_X8_two 3 := ⟨good_ws (tb 696 (by decide +kernel)) (memb [693, 694, 695, 102] (by decide +kernel)), by decide +kernel, by decide⟩
theorem lkV_WithOneHandLaw_95_X9_two : LKV "WithOneHandLaw" 95 "WithOneHandModel" m_X9_two 3 := ⟨good_ws (tb 1329 (by decide +kernel)) (memb [1326, 1327, 1328, 112] (by decide +kernel)), by decide +kernel, by decide⟩
theorem lkV_WithOneHandLaw_96_X8_judge : LKV "WithOneHandLaw" 96 "WithOneHand" m_X8_judge 2 := ⟨good_ws (tb 708 (by decide +kernel)) (memb [705, 706, 707, 102] (by decide +kernel)), by decide +kernel, by decide⟩
theorem lkV_WithOneHandLaw_99_X9_judge : LKV "WithOneHandLaw" 99 "WithOneHandModel" m_X9_judge 2 := ⟨good_ws (tb 1341 (by decide +kernel)) (memb [1338, 1339, 1340, 112] (by decide +kernel)), by decide +kernel, by decide⟩
theorem lkV_WithOneHandLaw_100_X8_which : LKV "WithOneHandLaw" 100 "WithOneHand" m_X8_which 2 := ⟨good_ws (tb 722 (by decide +kernel)) (memb [719, 720, 721, 102] (by decide +kernel)), by decide +kernel, by decide⟩
theorem lkV_WithOneHandLaw_103_X9_which : LKV "WithOneHandLaw" 103 "WithOneHandModel" m_X9_which 2 := ⟨good_ws (tb 1353 (by decide +kernel)) (memb [1350, 1351, 1352, 112] (by decide +kernel)), by decide +kernel, by decide⟩
theorem lkV_WithOneHandLaw_104_X8_how : LKV "WithOneHandLaw" 104 "WithOneHand" m_X8_how 3 := ⟨good_ws (tb 726 (by decide +kernel)) (memb [723, 724, 725, 102] (by decide +kernel)), by decide +kernel, by decide⟩
theorem lkV_WithOneHandLaw_107_X9_how : LKV "WithOneHandLaw" 107 "WithOneHandModel" m_X9_how 3 := ⟨good_ws (tb 1357 (by decide +kernel)) (memb [1354, 1355, 1356, 112] (by decide +kernel)), by decide +kernel, by decide⟩
theorem lkV_WithOneHandLaw_108_X8_drawn : LKV "WithOneHandLaw" 108 "WithOneHand" m_X8_drawn 4 := ⟨good_ws (tb 738 (by decide +kernel)) (memb [735, 736, 737, 102] (by decide +kernel)), by decide +kernel, by decide⟩
theorem lkV_WithOneHandLaw_112_X9_drawn : LKV "WithOneHandLaw" 112 "WithOneHandModel" m_X9_drawn 4 := ⟨good_ws (tb 1361 (by decide +kernel)) (memb [1358, 1359, 1360, 112] (by decide +kernel)), by decide +kernel, by decide⟩
theorem lkV_WithOneHandLaw_113_X8_puts : LKV "WithOneHandLaw" 113 "WithOneHand" m_X8_puts 1 := ⟨good_ws (tb 743 (by decide +kernel)) (memb [740, 741, 742, 102] (by decide +kernel)), by decide +kernel, by decide⟩
theorem lkV_WithOneHandLaw_116_X9_puts : LKV "WithOneHandLaw" 116 "WithOneHandModel" m_X9_puts 1 := ⟨good_ws (tb 1366 (by decide +kernel)) (memb [1363, 1364, 1365, 112] (by decide +kernel)), by decide +kernel, by decide⟩
theorem lkV_WithOneHandLaw_117_X8_out : LKV "WithOneHandLaw" 117 "WithOneHand" m_X8_out 1 := ⟨good_ws (tb 751 (by decide +kernel)) (memb [748, 749, 750, 102] (by decide +kernel)), by decide +kernel, by decide⟩
theorem lkV_WithOneHandLaw_120_X9_out : LKV "WithOneHandLaw" 120 "WithOneHandModel" m_X9_out 1 := ⟨good_ws (tb 1374 (by decide +kernel)) (memb [1371, 1372, 1373, 112] (by decide +kernel)), by decide +kernel, by decide⟩
theorem lkV_WithOneHandLaw_121_X8_night : LKV "WithOneHandLaw" 121 "WithOneHand" m_X8_night 0 := ⟨good_ws (tb 755 (by decide +kernel)) (memb [752, 753, 754, 102] (by decide +kernel)), by decide +kernel, by decide⟩
theorem lkV_WithOneHandLaw_124_X9_night : LKV "WithOneHandLaw" 124 "WithOneHandModel" m_X9_night 0 := ⟨good_ws (tb 1378 (by decide +kernel)) (memb [1375, 1376, 1377, 112] (by decide +kernel)), by decide +kernel, by decide⟩
theorem lkV_WithOneHandLaw_125_X8_led : LKV "WithOneHandLaw" 125 "WithOneHand" m_X8_led 1 := ⟨good_ws (tb 763 (by decide +kernel)) (memb [760, 761, 762, 102] (by decide +kernel)), by decide +kernel, by decide⟩
theorem lkV_WithOneHandLaw_128_X9_led : LKV "WithOneHandLaw" 128 "WithOneHandModel" m_X9_led 1 := ⟨good_ws (tb 1382 (by decide +kernel)) (memb [1379, 1380, 1381, 112] (by decide +kernel)), by decide +kernel, by decide⟩
theorem lkV_WithOneHandLaw_129_X8_image : LKV "WithOneHandLaw" 129 "WithOneHand" m_X8_image 0 := ⟨good_ws (tb 767 (by decide +kernel)) (memb [764, 765, 766, 102] (by decide +kernel)), by decide +kernel, by decide⟩
theorem lkV_WithOneHandLaw_132_X9_image : LKV "WithOneHandLaw" 132 "WithOneHandModel" m_X9_image 0 := ⟨good_ws (tb 1386 (by decide +kernel)) (memb [1383, 1384, 1385, 112] (by decide +kernel)), by decide +kernel, by decide⟩
theorem lkV_WithOneHandLaw_133_X8_back : LKV "WithOneHandLaw" 133 "WithOneHand" m_X8_back 0 := ⟨good_ws (tb 777 (by decide +kernel)) (memb [774, 775, 776, 102] (by decide +kernel)), by decide +kernel, by decide⟩
theorem lkV_WithOneHandLaw_136_X9_back : LKV "WithOneHandLaw" 136 "WithOneHandModel" m_X9_back 0 := ⟨good_ws (tb 1390 (by decide +kernel)) (memb [1387, 1388, 1389, 112] (by decide +kernel)), by decide +kernel, by decide⟩
theorem lkV_WithOneHandLaw_137_X8_undo : LKV "WithOneHandLaw" 137 "WithOneHand" m_X8_undo 0 := ⟨good_ws (tb 781 (by decide +kernel)) (memb [778, 779, 780, 102] (by decide +kernel)), by decide +kernel, by decide⟩
theorem lkV_WithOneHandLaw_140_X9_undo : LKV "WithOneHandLaw" 140 "WithOneHandModel" m_X9_undo 0 := ⟨good_ws (tb 1124 (by decide +kernel)) (memb [1121, 1122, 1123, 112] (by decide +kernel)), by decide +kernel, by decide⟩
theorem lkV_WithOneHandLaw_141_X8_redo : LKV "WithOneHandLaw" 141 "WithOneHand" m_X8_redo 0 := ⟨good_ws (tb 785 (by decide +kernel)) (memb [782, 783, 784, 102] (by decide +kernel)), by decide +kernel, by decide⟩
theorem lkV_WithOneHandLaw_144_X9_redo : LKV "WithOneHandLaw" 144 "WithOneHandModel" m_X9_redo 0 := ⟨good_ws (tb 1128 (by decide +kernel)) (memb [1125, 1126, 1127, 112] (by decide +kernel)), by decide +kernel, by decide⟩
theorem lkV_WithOneHandLaw_145_X8_body : LKV "WithOneHandLaw" 145 "WithOneHand" m_X8_body 1 := ⟨good_ws (tb 789 (by decide +kernel)) (memb [786, 787, 788, 102] (by decide +kernel)), by decide +kernel, by decide⟩
theorem lkV_WithOneHandLaw_148_X9_body : LKV "WithOneHandLaw" 148 "WithOneHandModel" m_X9_body 1 := ⟨good_ws (tb 1394 (by decide +kernel)) (memb [1391, 1392, 1393, 112] (by decide +kernel)), by decide +kernel, by decide⟩
theorem lkV_WithOneHandLaw_149_X8_act : LKV "WithOneHandLaw" 149 "WithOneHand" m_X8_act 3 := ⟨good_ws (tb 798 (by decide +kernel)) (memb [795, 796, 797, 102] (by decide +kernel)), by decide +kernel, by decide⟩
theorem lkV_WithOneHandLaw_152_X9_act : LKV "WithOneHandLaw" 152 "WithOneHandModel" m_X9_act 3 := ⟨good_ws (tb 1398 (by decide +kernel)) (memb [1395, 1396, 1397, 112] (by decide +kernel)), by decide +kernel, by decide⟩
theorem lkV_WithOneHandLaw_153_X8_trace : LKV "WithOneHandLaw" 153 "WithOneHand" m_X8_trace 1 := ⟨good_ws (tb 829 (by decide +kernel)) (memb [826, 827, 828, 102] (by decide +kernel)), by decide +kernel, by decide⟩
theorem lkV_WithOneHandLaw_156_X9_trace : LKV "WithOneHandLaw" 156 "WithOneHandModel" m_X9_trace 1 := ⟨good_ws (tb 1426 (by decide +kernel)) (memb [1423, 1424, 1425, 112] (by decide +kernel)), by decide +kernel, by decide⟩
theorem lkV_WithOneHandLaw_157_X8_keep : LKV "WithOneHandLaw" 157 "WithOneHand" m_X8_keep 2 := ⟨good_ws (tb 833 (by decide +kernel)) (memb [830, 831, 832, 102] (by decide +kernel)), by decide +kernel, by decide⟩
theorem lkV_WithOneHandLaw_160_X9_keep : LKV "WithOneHandLaw" 160 "WithOneHandModel" m_X9_keep 2 := ⟨good_ws (tb 1430 (by decide +kernel)) (memb [1427, 1428, 1429, 112] (by decide +kernel)), by decide +kernel, by decide⟩
theorem lkV_WithOneHandLaw_161_X8_row : LKV "WithOneHandLaw" 161 "WithOneHand" m_X8_row 3 := ⟨good_ws (tb 845 (by decide +kernel)) (memb [842, 843, 844, 102] (by decide +kernel)), by decide +kernel, by decide⟩
theorem lkV_WithOneHandLaw_164_X9_row : LKV "WithOneHandLaw" 164 "WithOneHandModel" m_X9_row 3 := ⟨good_ws (tb 1434 (by decide +kernel)) (memb [1431, 1432, 1433, 112] (by decide +kernel)), by decide +kernel, by decide⟩
theorem lkV_WithOneHandLaw_167_X8_put : LKV "WithOneHandLaw" 167 "WithOneHand" m_X8_put 3 := ⟨good_ws (tb 859 (by decide +kernel)) (memb [856, 857, 858, 102] (by decide +kernel)), by decide +kernel, by decide⟩
theorem lkV_WithOneHandLaw_171_X9_put : LKV "WithOneHandLaw" 171 "WithOneHandModel" m_X9_put 3 := ⟨good_ws (tb 1438 (by decide +kernel)) (memb [1435, 1436, 1437, 112] (by decide +kernel)), by decide +kernel, by decide⟩
theorem lkV_WithOneHandLaw_172_X8_element : LKV "WithOneHandLaw" 172 "WithOneHand" m_X8_element 2 := ⟨good_ws (tb 875 (by decide +kernel)) (memb [872, 873, 874, 102] (by decide +kernel)), by decide +kernel, by decide⟩
theorem lkV_WithOneHandLaw_175_X9_element : LKV "WithOneHandLaw" 175 "WithOneHandModel" m_X9_element 2 := ⟨good_ws (tb 1450 (by decide +kernel)) (memb [1447, 1448, 1449, 112] (by decide +kernel)), by decide +kernel, by decide⟩
theorem lkV_WithOneHandLaw_176_X8_shift : LKV "WithOneHandLaw" 176 "WithOneHand" m_X8_shift 5 := ⟨good_ws (tb 879 (by decide +kernel)) (memb [876, 877, 878, 102] (by decide +kernel)), by decide +kernel, by decide⟩
theorem lkV_WithOneHandLaw_180_X9_shift : LKV "WithOneHandLaw" 180 "WithOneHandModel" m_X9_shift 5 := ⟨good_ws (tb 1454 (by decide +kernel)) (memb [1451, 1452, 1453, 112] (by decide +kernel)), by decide +kernel, by decide⟩
theorem lkV_WithOneHandLaw_181_X8_taken : LKV "WithOneHandLaw" 181 "WithOneHand" m_X8_taken 2 := ⟨good_ws (tb 884 (by decide +kernel)) (memb [881, 882, 883, 102] (by decide +kernel)), by decide +kernel, by decide⟩
theorem lkV_WithOneHandLaw_184_X9_taken : LKV "WithOneHandLaw" 184 "WithOneHandModel" m_X9_taken 2 := ⟨good_ws (tb 1458 (by decide +kernel)) (memb [1455, 1456, 1457, 112] (by decide +kernel)), by decide +kernel, by decide⟩
theorem lkV_WithOneHandLaw_185_X8_count : LKV "WithOneHandLaw" 185 "WithOneHand" m_X8_count 1 := ⟨good_ws (tb 892 (by decide +kernel)) (memb [889, 890, 891, 102] (by decide +kernel)), by decide +kernel, by decide⟩
theorem lkV_WithOneHandLaw_188_X9_count : LKV "WithOneHandLaw" 188 "WithOneHandModel" m_X9_count 1 := ⟨good_ws (tb 1462 (by decide +kernel)) (memb [1459, 1460, 1461, 112] (by decide +kernel)), by decide +kernel, by decide⟩
def B_L_law_18 (Ns : Nat) (Xs : Nat → Int32) (K18 : Int32 → MX → MM → Option Bool) (v3 : Int32) (x : MX) (m : MM) : Option Bool :=
  if ((Int32.ofNat Ns) - 6) < v3 then
  some true
  else
  if inb v3 Ns = true then
  if ((Xs (ix v3)) &&& 63) = 0 then
  if inb (v3 + 1) Ns = true then
  if inb (v3 + 2) Ns = true then
  ob2 (f_X8_link (Xs (ix (v3 + 1))) (Xs (ix (v3 + 2))) x) (fun r6 x7 =>
  ob2 (f_X9_link (Xs (ix (v3 + 1))) (Xs (ix (v3 + 2))) m) (fun r9 m10 =>
  if r6 = r9 then
  K18 (v3 + 6) x7 m10
  else
  some false))
  else none
  else none
  else
  if ((Xs (ix v3)) &&& 63) = 1 then
  if inb (v3 + 1) Ns = true then
  if inb (v3 + 2) Ns = true then
  ob2 (f_X8_cuff (Xs (ix (v3 + 1))) (Xs (ix (v3 + 2))) x) (fun r16 x17 =>
  ob2 (f_X9_cuff (Xs (ix (v3 + 1))) (Xs (ix (v3 + 2))) m) (fun r19 m20 =>
  if r16 = r19 then
  K18 (v3 + 6) x17 m20
  else
  some false))
  else none
  else none
  else
  if ((Xs (ix v3)) &&& 63) = 2 then
  if inb (v3 + 1) Ns = true then
  if inb (v3 + 2) Ns = true then
  if inb (v3 + 3) Ns = true then
  ob2 (f_X8_cuffs (Xs (ix (v3 + 1))) (Xs (ix (v3 + 2))) (Xs (ix (v3 + 3))) x) (fun r27 x28 =>
  ob2 (f_X9_cuffs (Xs (ix (v3 + 1))) (Xs (ix (v3 + 2))) (Xs (ix (v3 + 3))) m) (fun r30 m31 =>
  if r27 = r30 then
  K18 (v3 + 6) x28 m31
  else
  some false))
  else none
  else none
  else none
  else
  if ((Xs (ix v3)) &&& 63) = 3 then
  if inb (v3 + 1) Ns = true then
  if inb (v3 + 2) Ns = true then
  ob2 (f_X8_spot (Xs (ix (v3 + 1))) (Xs (ix (v3 + 2))) x) (fun r37 x38 =>
  ob2 (f_X9_spot (Xs (ix (v3 + 1))) (Xs (ix (v3 + 2))) m) (fun r40 m41 =>
  if r37 = r40 then
  K18 (v3 + 6) x38 m41
  else
  some false))
  else none
  else none
  else
  if ((Xs (ix v3)) &&& 63) = 4 then
  if inb (v3 + 1) Ns = true then
  if inb (v3 + 2) Ns = true then
  if inb (v3 + 3) Ns = true then
  ob2 (f_X8_mend (Xs (ix (v3 + 1))) (Xs (ix (v3 + 2))) (Xs (ix (v3 + 3))) x) (fun r48 x49 =>
  ob2 (f_X9_mend (Xs (ix (v3 + 1))) (Xs (ix (v3 + 2))) (Xs (ix (v3 + 3))) m) (fun r51 m52 =>
  if r48 = r51 then
  K18 (v3 + 6) x49 m52
  else
  some false))
  else none
  else none
  else none
  else
  if ((Xs (ix v3)) &&& 63) = 5 then
  if inb (v3 + 1) Ns = true then
  if inb (v3 + 2) Ns = true then
  ob (f_X8_of (Xs (ix (v3 + 1))) (Xs (ix (v3 + 2))) x) (fun r58 =>
  ob (f_X9_of (Xs (ix (v3 + 1))) (Xs (ix (v3 + 2))) m) (fun r60 =>
  if r58 = r60 then
  K18 (v3 + 6) x m
  else
  some false))
  else none
  else none
  else
  if ((Xs (ix v3)) &&& 63) = 6 then
  if inb (v3 + 1) Ns = true then
  ob2 (f_X8_feed (Xs (ix (v3 + 1))) x) (fun r65 x66 =>
  ob2 (f_X9_feed (Xs (ix (v3 + 1))) m) (fun r68 m69 =>
  if r65 = r68 then
  K18 (v3 + 6) x66 m69
  else
  some false))
  else none
  else
  if ((Xs (ix v3)) &&& 63) = 7 then
  ob2 (f_X8_law x) (fun r73 x74 =>
  ob2 (f_X9_law m) (fun r76 m77 =>
  if r73 = r76 then
  K18 (v3 + 6) x74 m77
  else
  some false))
  else
  if ((Xs (ix v3)) &&& 63) = 8 then
  if inb (v3 + 1) Ns = true then
  if inb (v3 + 2) Ns = true then
  ob2 (f_X8_seconds (Xs (ix (v3 + 1))) (Xs (ix (v3 + 2))) x) (fun r83 x84 =>
  ob2 (f_X9_seconds (Xs (ix (v3 + 1))) (Xs (ix (v3 + 2))) m) (fun r86 m87 =>
  if r83 = r86 then
  K18 (v3 + 6) x84 m87
  else
  some false))
  else none
  else none
  else
  if ((Xs (ix v3)) &&& 63) = 9 then
  if inb (v3 + 1) Ns = true then
  ob2 (f_X8_best (Xs (ix (v3 + 1))) x) (fun r92 x93 =>
  ob2 (f_X9_best (Xs (ix (v3 + 1))) m) (fun r95 m96 =>
  if r92 = r95 then
  K18 (v3 + 6) x93 m96
  else
  some false))
  else none
  else
  if ((Xs (ix v3)) &&& 63) = 10 then
  if inb (v3 + 1) Ns = true then
  if inb (v3 + 2) Ns = true then
  ob2 (f_X8_paired (Xs (ix (v3 + 1))) (Xs (ix (v3 + 2))) x) (fun r102 x103 =>
  ob2 (f_X9_paired (Xs (ix (v3 + 1))) (Xs (ix (v3 + 2))) m) (fun r105 m106 =>
  if r102 = r105 then
  K18 (v3 + 6) x103 m106
  else
  some false))
  else none
  else none
  else
  if ((Xs (ix v3)) &&& 63) = 11 then
  if inb (v3 + 1) Ns = true then
  ob2 (f_X8_order (Xs (ix (v3 + 1))) x) (fun r111 x112 =>
  ob2 (f_X9_order (Xs (ix (v3 + 1))) m) (fun r114 m115 =>
  if r111 = r114 then
  K18 (v3 + 6) x112 m115
  else
  some false))
  else none
  else
  if ((Xs (ix v3)) &&& 63) = 12 then
  if inb (v3 + 1) Ns = true then
  if inb (v3 + 2) Ns = true then
  ob2 (f_X8_dropped (Xs (ix (v3 + 1))) (Xs (ix (v3 + 2))) x) (fun r121 x122 =>
  ob2 (f_X9_dropped (Xs (ix (v3 + 1))) (Xs (ix (v3 + 2))) m) (fun r124 m125 =>
  if (lg_cmp r121 r124) = 0 then
  K18 (v3 + 6) x122 m125
  else
  some false))
  else none
  else none
  else
  if ((Xs (ix v3)) &&& 63) = 13 then
  if inb (v3 + 1) Ns = true then
  if inb (v3 + 2) Ns = true then
  if inb (v3 + 3) Ns = true then
  ob2 (f_X8_by (Xs (ix (v3 + 1))) (Xs (ix (v3 + 2))) (Xs (ix (v3 + 3))) x) (fun r132 x133 =>
  ob2 (f_X9_by (Xs (ix (v3 + 1))) (Xs (ix (v3 + 2))) (Xs (ix (v3 + 3))) m) (fun r135 m136 =>
  if (lg_cmp r132 r135) = 0 then
  K18 (v3 + 6) x133 m136
  else
  some false))
  else none
  else none
  else none
  else
  if ((Xs (ix v3)) &&& 63) = 14 then
  if inb (v3 + 1) Ns = true then
  if inb (v3 + 2) Ns = true then
  if inb (v3 + 3) Ns = true then
  ob2 (f_X8_practice (Xs (ix (v3 + 1))) (Xs (ix (v3 + 2))) (Xs (ix (v3 + 3))) x) (fun r143 x144 =>
  ob2 (f_X9_practice (Xs (ix (v3 + 1))) (Xs (ix (v3 + 2))) (Xs (ix (v3 + 3))) m) (fun r146 m147 =>
  if r143 = r146 then
  K18 (v3 + 6) x144 m147
  else
  some false))
  else none
  else none
  else none
  else
  if ((Xs (ix v3)) &&& 63) = 15 then
  if inb (v3 + 1) Ns = true then
  ob2 (f_X8_search (Xs (ix (v3 + 1))) x) (fun r152 x153 =>
  ob (f_X9_search (Xs (ix (v3 + 1))) m) (fun r155 =>
  if (lg_cmp r152 r155) = 0 then
  K18 (v3 + 6) x153 m
  else
  some false))
  else none
  else
  if ((Xs (ix v3)) &&& 63) = 16 then
  if inb (v3 + 1) Ns = true then
  if inb (v3 + 2) Ns = true then
  ob2 (f_X8_told (Xs (ix (v3 + 1))) (Xs (ix (v3 + 2))) x) (fun r161 x162 =>
  ob (f_X9_told (Xs (ix (v3 + 1))) (Xs (ix (v3 + 2))) m) (fun r164 =>
  if (lg_cmp r161 r164) = 0 then
  K18 (v3 + 6) x162 m
  else
  some false))
  else none
  else none
  else
  if ((Xs (ix v3)) &&& 63) = 17 then
  if inb (v3 + 1) Ns = true then
  if inb (v3 + 2) Ns = true then
  if inb (v3 + 3) Ns = true then
  ob2 (f_X8_asked (Xs (ix (v3 + 1))) (Xs (ix (v3 + 2))) (Xs (ix (v3 + 3))) x) (fun r171 x172 =>
  ob2 (f_X9_asked (Xs (ix (v3 + 1))) (Xs (ix (v3 + 2))) (Xs (ix (v3 + 3))) m) (fun r174 m175 =>
  if r171 = r174 then
  K18 (v3 + 6) x172 m175
  else
  some false))
  else none
  else none
  else none
  else
  if ((Xs (ix v3)) &&& 63) = 18 then
  if inb (v3 + 1) Ns = true then
  if inb (v3 + 2) Ns = true then
  if inb (v3 + 3) Ns = true then
  ob2 (f_X8_two (Xs (ix (v3 + 1))) (Xs (ix (v3 + 2))) (Xs (ix (v3 + 3))) x) (fun r182 x183 =>
  ob2 (f_X9_two (Xs (ix (v3 + 1))) (Xs (ix (v3 + 2))) (Xs (ix (v3 + 3))) m) (fun r185 m186 =>
  if r182 = r185 then
  K18 (v3 + 6) x183 m186
  else
  some false))
  else none
  else none
  else none
  else
  if ((Xs (ix v3)) &&& 63) = 19 then
  if inb (v3 + 1) Ns = true then
  if inb (v3 + 2) Ns = true then
  ob2 (f_X8_judge (Xs (ix (v3 + 1))) (Xs (ix (v3 + 2))) x) (fun r192 x193 =>
  ob2 (f_X9_judge (Xs (ix (v3 + 1))) (Xs (ix (v3 + 2))) m) (fun r195 m196 =>
  if r192 = r195 then
  K18 (v3 + 6) x193 m196
  else
  some false))
  else none
  else none
  else
  if ((Xs (ix v3)) &&& 63) = 20 then
  if inb (v3 + 1) Ns = true then
  if inb (v3 + 2) Ns = true then
  ob2 (f_X8_which (Xs (ix (v3 + 1))) (Xs (ix (v3 + 2))) x) (fun r202 x203 =>
  ob2 (f_X9_which (Xs (ix (v3 + 1))) (Xs (ix (v3 + 2))) m) (fun r205 m206 =>
  if r202 = r205 then
  K18 (v3 + 6) x203 m206
  else
  some false))
  else none
  else none
  else
  if ((Xs (ix v3)) &&& 63) = 21 then
  if inb (v3 + 1) Ns = true then
  if inb (v3 + 2) Ns = true then
  if inb (v3 + 3) Ns = true then
  ob2 (f_X8_how (Xs (ix (v3 + 1))) (Xs (ix (v3 + 2))) (Xs (ix (v3 + 3))) x) (fun r213 x214 =>
  ob2 (f_X9_how (Xs (ix (v3 + 1))) (Xs (ix (v3 + 2))) (Xs (ix (v3 + 3))) m) (fun r216 m217 =>
  if r213 = r216 then
  K18 (v3 + 6) x214 m217
  else
  some false))
  else none
  else none
  else none
  else
  if ((Xs (ix v3)) &&& 63) = 22 then
  if inb (v3 + 1) Ns = true then
  if inb (v3 + 2) Ns = true then
  if inb (v3 + 3) Ns = true then
  if inb (v3 + 4) Ns = true then
  ob2 (f_X8_drawn (Xs (ix (v3 + 1))) (Xs (ix (v3 + 2))) (Xs (ix (v3 + 3))) (Xs (ix (v3 + 4))) x) (fun r225 x226 =>
  ob2 (f_X9_drawn (Xs (ix (v3 + 1))) (Xs (ix (v3 + 2))) (Xs (ix (v3 + 3))) (Xs (ix (v3 + 4))) m) (fun r228 m229 =>
  if r225 = r228 then
  K18 (v3 + 6) x226 m229
  else
  some false))
  else none
  else none
  else none
  else none
  else
  if ((Xs (ix v3)) &&& 63) = 23 then
  if inb (v3 + 1) Ns = true then
  ob2 (f_X8_puts (Xs (ix (v3 + 1))) x) (fun r234 x235 =>
  ob2 (f_X9_puts (Xs (ix (v3 + 1))) m) (fun r237 m238 =>
  if r234 = r237 then
  K18 (v3 + 6) x235 m238
  else
  some false))
  else none
  else
  if ((Xs (ix v3)) &&& 63) = 24 then
  if inb (v3 + 1) Ns = true then
  ob2 (f_X8_out (Xs (ix (v3 + 1))) x) (fun r243 x244 =>
  ob2 (f_X9_out (Xs (ix (v3 + 1))) m) (fun r246 m247 =>
  if r243 = r246 then
  K18 (v3 + 6) x244 m247
  else
  some false))
  else none
  else
  if ((Xs (ix v3)) &&& 63) = 25 then
  ob2 (f_X8_night x) (fun r251 x252 =>
  ob2 (f_X9_night m) (fun r254 m255 =>
  if r251 = r254 then
  K18 (v3 + 6) x252 m255
  else
  some false))
  else
  if ((Xs (ix v3)) &&& 63) = 26 then
  if inb (v3 + 1) Ns = true then
  ob (f_X8_led (Xs (ix (v3 + 1))) x) (fun r260 =>
  if r260 = (f_X9_led (Xs (ix (v3 + 1))) m) then
  K18 (v3 + 6) x m
  else
  some false)
  else none
  else
  if ((Xs (ix v3)) &&& 63) = 27 then
  ob2 (f_X8_image x) (fun r264 x265 =>
  ob2 (f_X9_image m) (fun r267 m268 =>
  if r264 = r267 then
  K18 (v3 + 6) x265 m268
  else
  some false))
  else
  if ((Xs (ix v3)) &&& 63) = 28 then
  ob2 (f_X8_back x) (fun r272 x273 =>
  ob2 (f_X9_back m) (fun r275 m276 =>
  if r272 = r275 then
  K18 (v3 + 6) x273 m276
  else
  some false))
  else
  if ((Xs (ix v3)) &&& 63) = 29 then
  ob2 (f_X8_undo x) (fun r280 x281 =>
  ob2 (f_X9_undo m) (fun r283 m284 =>
  if r280 = r283 then
  K18 (v3 + 6) x281 m284
  else
  some false))
  else
  if ((Xs (ix v3)) &&& 63) = 30 then
  ob2 (f_X8_redo x) (fun r288 x289 =>
  ob2 (f_X9_redo m) (fun r291 m292 =>
  if r288 = r291 then
  K18 (v3 + 6) x289 m292
  else
  some false))
  else
  if ((Xs (ix v3)) &&& 63) = 31 then
  if inb (v3 + 1) Ns = true then
  ob2 (f_X8_body (Xs (ix (v3 + 1))) x) (fun r297 x298 =>
  ob2 (f_X9_body (Xs (ix (v3 + 1))) m) (fun r300 m301 =>
  if r297 = r300 then
  K18 (v3 + 6) x298 m301
  else
  some false))
  else none
  else
  if ((Xs (ix v3)) &&& 63) = 32 then
  if inb (v3 + 1) Ns = true then
  if inb (v3 + 2) Ns = true then
  if inb (v3 + 3) Ns = true then
  ob2 (f_X8_act (Xs (ix (v3 + 1))) (Xs (ix (v3 + 2))) (Xs (ix (v3 + 3))) x) (fun r308 x309 =>
  ob2 (f_X9_act (Xs (ix (v3 + 1))) (Xs (ix (v3 + 2))) (Xs (ix (v3 + 3))) m) (fun r311 m312 =>
  if r308 = r311 then
  K18 (v3 + 6) x309 m312
  else
  some false))
  else none
  else none
  else none
  else
  if ((Xs (ix v3)) &&& 63) = 33 then
  if inb (v3 + 1) Ns = true then
  ob (f_X8_trace (Xs (ix (v3 + 1))) x) (fun r317 =>
  ob (f_X9_trace (Xs (ix (v3 + 1))) m) (fun r319 =>
  if r317 = r319 then
  K18 (v3 + 6) x m
  else
  some false))
  else none
  else
  if ((Xs (ix v3)) &&& 63) = 34 then
  if inb (v3 + 1) Ns = true then
  if inb (v3 + 2) Ns = true then
  ob2 (f_X8_keep (Xs (ix (v3 + 1))) (Xs (ix (v3 + 2))) x) (fun r325 x326 =>
  ob2 (f_X9_keep (Xs (ix (v3 + 1))) (Xs (ix (v3 + 2))) m) (fun r328 m329 =>
  if r325 = r328 then
  K18 (v3 + 6) x326 m329
  else
  some false))
  else none
  else none
  else
  if ((Xs (ix v3)) &&& 63) = 35 then
  if inb (v3 + 1) Ns = true then
  if inb (v3 + 2) Ns = true then
  if inb (v3 + 3) Ns = true then
  ob2 (f_X8_row (Xs (ix (v3 + 1))) (Xs (ix (v3 + 2))) (Xs (ix (v3 + 3))) x) (fun r336 x337 =>
  ob2 (f_X9_row (Xs (ix (v3 + 1))) (Xs (ix (v3 + 2))) (Xs (ix (v3 + 3))) m) (fun r339 m340 =>
  if r336 = r339 then
  K18 (v3 + 6) x337 m340
  else
  some false))
  else none
  else none
  else none
  else
  if ((Xs (ix v3)) &&& 63) = 36 then
  if inb (v3 + 1) Ns = true then
  if inb (v3 + 2) Ns = true then
  if inb (v3 + 3) Ns = true then
  if inb (v3 + 4) Ns = true then
  ob2 (f_X8_put (Xs (ix (v3 + 1))) (Xs (ix (v3 + 2))) ((lsh (Int32.toInt64 (Xs (ix (v3 + 3)))) 32) ||| ((Int32.toInt64 (Xs (ix (v3 + 4)))) &&& 4294967295)) x) (fun r348 x349 =>
  ob2 (f_X9_put (Xs (ix (v3 + 1))) (Xs (ix (v3 + 2))) ((lsh (Int32.toInt64 (Xs (ix (v3 + 3)))) 32) ||| ((Int32.toInt64 (Xs (ix (v3 + 4)))) &&& 4294967295)) m) (fun r351 m352 =>
  if r348 = r351 then
  K18 (v3 + 6) x349 m352
  else
  some false))
  else none
  else none
  else none
  else none
  else
  if ((Xs (ix v3)) &&& 63) = 37 then
  if inb (v3 + 1) Ns = true then
  if inb (v3 + 2) Ns = true then
  ob (f_X8_element (Xs (ix (v3 + 1))) (Xs (ix (v3 + 2))) x) (fun r358 =>
  ob (f_X9_element (Xs (ix (v3 + 1))) (Xs (ix (v3 + 2))) m) (fun r360 =>
  if (lg_cmp r358 r360) = 0 then
  K18 (v3 + 6) x m
  else
  some false))
  else none
  else none
  else
  if ((Xs (ix v3)) &&& 63) = 38 then
  if inb (v3 + 1) Ns = true then
  if inb (v3 + 2) Ns = true then
  if inb (v3 + 3) Ns = true then
  if inb (v3 + 4) Ns = true then
  if inb (v3 + 5) Ns = true then
  ob2 (f_X8_shift (Xs (ix (v3 + 1))) (Xs (ix (v3 + 2))) (Xs (ix (v3 + 3))) (Xs (ix (v3 + 4))) (Xs (ix (v3 + 5))) x) (fun r369 x370 =>
  ob2 (f_X9_shift (Xs (ix (v3 + 1))) (Xs (ix (v3 + 2))) (Xs (ix (v3 + 3))) (Xs (ix (v3 + 4))) (Xs (ix (v3 + 5))) m) (fun r372 m373 =>
  if r369 = r372 then
  K18 (v3 + 6) x370 m373
  else
  some false))
  else none
  else none
  else none
  else none
  else none
  else
  if ((Xs (ix v3)) &&& 63) = 39 then
  if inb (v3 + 1) Ns = true then
  if inb (v3 + 2) Ns = true then
  ob (f_X8_taken (Xs (ix (v3 + 1))) (Xs (ix (v3 + 2))) x) (fun r379 =>
  ob (f_X9_taken (Xs (ix (v3 + 1))) (Xs (ix (v3 + 2))) m) (fun r381 =>
  if r379 = r381 then
  K18 (v3 + 6) x m
  else
  some false))
  else none
  else none
  else
  if ((Xs (ix v3)) &&& 63) = 40 then
  if inb (v3 + 1) Ns = true then
  ob (f_X8_count (Xs (ix (v3 + 1))) x) (fun r386 =>
  if r386 = (f_X9_count (Xs (ix (v3 + 1))) m) then
  K18 (v3 + 6) x m
  else
  some false)
  else none
  else
  K18 (v3 + 6) x m
  else none
theorem SB_L_law_18 {g : GC} {d K N k w Ns : Nat} {Xs : Nat → Int32} (hNs : gN g = Ns) (hXs : gX g = Xs) {K18 : Int32 → MX → MM → Option Bool} {v3 : Int32} {x : MX} {m : MM} (hd : 407 ≤ d)
  (hK18 : ∀ (v3 : Int32) (x : MX) (m : MM), K18 v3 x m = some true → J g m_L_law d K N 18 [(0, .ref 4), (1, .ref 5), (2, .ref 80), (3, .int v3)] [] (ST x m) k w (fun v _ => v = some (.int 1)))
  (hF : B_L_law_18 Ns Xs K18 v3 x m = some true) : J g m_L_law d K N 18 [(0, .ref 4), (1, .ref 5), (2, .ref 80), (3, .int v3)] [] (ST x m) k w (fun v _ => v = some (.int 1)) := by
  unfold B_L_law_18 at hF
  refine J_iload_n (j := 3) dL_law_18 rfl rfl ?_
  refine J_aload_n (j := 0) dL_law_19 rfl rfl ?_
  refine J_alenX (v := Int32.ofNat Ns) dL_law_20 (by rw [hNs]) ?_
  refine J_bipush (v := 6) dL_law_21 (by decide) ?_
  refine J_isub dL_law_23 ?_
  refine J_icmp_gt (tgt := 1536) dL_law_24 (by decide) (fun q1 => ?_) (fun q1 => ?_)
  · rw [if_pos q1] at hF
    refine J_iconst (v := 1) dL_law_1536 (by decide) ?_
    exact J_ireturn rfl rfl dL_law_1537 rfl
  · rw [if_neg q1] at hF
    refine J_aload_n (j := 0) dL_law_27 rfl rfl ?_
    refine J_iload_n (j := 3) dL_law_28 rfl rfl ?_
    obtain ⟨b2, hF⟩ := chk hF
    refine J_ialdX (v := Xs (ix v3)) dL_law_29 (by rw [hNs]; exact inb_vp b2) (by rw [hXs]; rfl) ?_
    refine J_bipush (v := 63) dL_law_30 (by decide) ?_
    refine J_iand dL_law_32 ?_
    refine J_tsw (n := 40) (td := 1530) (cs := [(0, 212), (1, 245), (2, 278), (3, 321), (4, 354), (5, 397), (6, 430), (7, 453), (8, 466), (9, 499), (10, 522), (11, 555), (12, 578), (13, 612), (14, 656), (15, 699), (16, 723), (17, 757), (18, 800), (19, 843), (20, 876), (21, 909), (22, 952), (23, 1005), (24, 1028), (25, 1051), (26, 1064), (27, 1087), (28, 1100), (29, 1113), (30, 1126), (31, 1139), (32, 1162), (33, 1205), (34, 1228), (35, 1261), (36, 1304), (37, 1377), (38, 1411), (39, 1474), (40, 1507)]) dL_law_33 (by decide) (by decide) (by decide +kernel) (by decide +kernel) ?_
    refine J_sw (fun q3 => ?_) (fun q3 => ?_)
    · rw [if_pos q3] at hF
      refine J_aload_n (j := 1) dL_law_212 rfl rfl ?_
      refine J_aload_n (j := 0) dL_law_213 rfl rfl ?_
      refine J_iload_n (j := 3) dL_law_214 rfl rfl ?_
      refine J_iconst (v := 1) dL_law_215 (by decide) ?_
      refine J_iadd dL_law_216 ?_
      obtain ⟨b4, hF⟩ := chk hF
      refine J_ialdX (v := Xs (ix (v3 + 1))) dL_law_217 (by rw [hNs]; exact inb_vp b4) (by rw [hXs]; rfl) ?_
      refine J_aload_n (j := 0) dL_law_218 rfl rfl ?_
      refine J_iload_n (j := 3) dL_law_219 rfl rfl ?_
      refine J_iconst (v := 2) dL_law_220 (by decide) ?_
      refine J_iadd dL_law_221 ?_
      obtain ⟨b5, hF⟩ := chk hF
      refine J_ialdX (v := Xs (ix (v3 + 2))) dL_law_222 (by rw [hNs]; exact inb_vp b5) (by rw [hXs]; rfl) ?_
      obtain ⟨r6, x7, h8, hF⟩ := ob2_some hF
      refine JX_callVi (As := [.int (Xs (ix (v3 + 1))), .int (Xs (ix (v3 + 2)))]) (S := []) lkV_WithOneHandLaw_13_X8_link rfl (by decide) dL_law_223 c_5 (S_X8_link (by omega) h8) (by omega) rfl rfl (Nat.le_of_ble_eq_true rfl) rfl ?_
      refine J_aload_n (j := 2) dL_law_226 rfl rfl ?_
      refine J_aload_n (j := 0) dL_law_227 rfl rfl ?_
      refine J_iload_n (j := 3) dL_law_228 rfl rfl ?_
      refine J_iconst (v := 1) dL_law_229 (by decide) ?_
      refine J_iadd dL_law_230 ?_
      refine J_ialdX (v := Xs (ix (v3 + 1))) dL_law_231 (by rw [hNs]; exact inb_vp b4) (by rw [hXs]; rfl) ?_
      refine J_aload_n (j := 0) dL_law_232 rfl rfl ?_
      refine J_iload_n (j := 3) dL_law_233 rfl rfl ?_
      refine J_iconst (v := 2) dL_law_234 (by decide) ?_
      refine J_iadd dL_law_235 ?_
      refine J_ialdX (v := Xs (ix (v3 + 2))) dL_law_236 (by rw [hNs]; exact inb_vp b5) (by rw [hXs]; rfl) ?_
      obtain ⟨r9, m10, h11, hF⟩ := ob2_some hF
      refine JM_callVi (As := [.int (Xs (ix (v3 + 1))), .int (Xs (ix (v3 + 2)))]) (S := [.int r6]) lkV_WithOneHandLaw_17_X9_link rfl (by decide) dL_law_237 c_80 (S_X9_link (by omega) h11) (by omega) rfl rfl (Nat.le_of_ble_eq_true rfl) rfl ?_
      refine J_icmp_eq (tgt := 1530) dL_law_240 (by decide) (fun q12 => ?_) (fun q12 => ?_)
      · rw [if_pos q12] at hF
        refine J_iinc (j := 3) (v := v3 + 6) (L' := [(3, .int (v3 + 6)), (0, .ref 4), (1, .ref 5), (2, .ref 80)]) dL_law_1530 rfl rfl (by decide) rfl ?_
        refine J_goto (tgt := 18) dL_law_1533 (by decide) ?_
        refine J_sub [1, 2, 3, 0] rfl ?_
        exact hK18 _ _ _ hF
      · rw [if_neg q12] at hF
        refine J_iconst (v := 0) dL_law_243 (by decide) ?_
        cases hF
    rw [if_neg q3] at hF
    refine J_sw (fun q13 => ?_) (fun q13 => ?_)
    · rw [if_pos q13] at hF
      refine J_aload_n (j := 1) dL_law_245 rfl rfl ?_
      refine J_aload_n (j := 0) dL_law_246 rfl rfl ?_
      refine J_iload_n (j := 3) dL_law_247 rfl rfl ?_
      refine J_iconst (v := 1) dL_law_248 (by decide) ?_
      refine J_iadd dL_law_249 ?_
      obtain ⟨b14, hF⟩ := chk hF
      refine J_ialdX (v := Xs (ix (v3 + 1))) dL_law_250 (by rw [hNs]; exact inb_vp b14) (by rw [hXs]; rfl) ?_
      refine J_aload_n (j := 0) dL_law_251 rfl rfl ?_
      refine J_iload_n (j := 3) dL_law_252 rfl rfl ?_
      refine J_iconst (v := 2) dL_law_253 (by decide) ?_
      refine J_iadd dL_law_254 ?_
      obtain ⟨b15, hF⟩ := chk hF
      refine J_ialdX (v := Xs (ix (v3 + 2))) dL_law_255 (by rw [hNs]; exact inb_vp b15) (by rw [hXs]; rfl) ?_
      obtain ⟨r16, x17, h18, hF⟩ := ob2_some hF
      refine JX_callVi (As := [.int (Xs (ix (v3 + 1))), .int (Xs (ix (v3 + 2)))]) (S := []) lkV_WithOneHandLaw_18_X8_cuff rfl (by decide) dL_law_256 c_5 (S_X8_cuff (by omega) h18) (by omega) rfl rfl (Nat.le_of_ble_eq_true rfl) rfl ?_
      refine J_aload_n (j := 2) dL_law_259 rfl rfl ?_
      refine J_aload_n (j := 0) dL_law_260 rfl rfl ?_
      refine J_iload_n (j := 3) dL_law_261 rfl rfl ?_
      refine J_iconst (v := 1) dL_law_262 (by decide) ?_
      refine J_iadd dL_law_263 ?_
      refine J_ialdX (v := Xs (ix (v3 + 1))) dL_law_264 (by rw [hNs]; exact inb_vp b14) (by rw [hXs]; rfl) ?_
      refine J_aload_n (j := 0) dL_law_265 rfl rfl ?_
      refine J_iload_n (j := 3) dL_law_266 rfl rfl ?_
      refine J_iconst (v := 2) dL_law_267 (by decide) ?_
      refine J_iadd dL_law_268 ?_
      refine J_ialdX (v := Xs (ix (v3 + 2))) dL_law_269 (by rw [hNs]; exact inb_vp b15) (by rw [hXs]; rfl) ?_
      obtain ⟨r19, m20, h21, hF⟩ := ob2_some hF
      refine JM_callVi (As := [.int (Xs (ix (v3 + 1))), .int (Xs (ix (v3 + 2)))]) (S := [.int r16]) lkV_WithOneHandLaw_21_X9_cuff rfl (by decide) dL_law_270 c_80 (S_X9_cuff (by omega) h21) (by omega) rfl rfl (Nat.le_of_ble_eq_true rfl) rfl ?_
      refine J_icmp_eq (tgt := 1530) dL_law_273 (by decide) (fun q22 => ?_) (fun q22 => ?_)
      · rw [if_pos q22] at hF
        refine J_iinc (j := 3) (v := v3 + 6) (L' := [(3, .int (v3 + 6)), (0, .ref 4), (1, .ref 5), (2, .ref 80)]) dL_law_1530 rfl rfl (by decide) rfl ?_
        refine J_goto (tgt := 18) dL_law_1533 (by decide) ?_
        refine J_sub [1, 2, 3, 0] rfl ?_
        exact hK18 _ _ _ hF
      · rw [if_neg q22] at hF
        refine J_iconst (v := 0) dL_law_276 (by decide) ?_
        cases hF
    rw [if_neg q13] at hF
    refine J_sw (fun q23 => ?_) (fun q23 => ?_)
    · rw [if_pos q23] at hF
      refine J_aload_n (j := 1) dL_law_278 rfl rfl ?_
      refine J_aload_n (j := 0) dL_law_279 rfl rfl ?_
      refine J_iload_n (j := 3) dL_law_280 rfl rfl ?_
      refine J_iconst (v := 1) dL_law_281 (by decide) ?_
      refine J_iadd dL_law_282 ?_
      obtain ⟨b24, hF⟩ := chk hF
      refine J_ialdX (v := Xs (ix (v3 + 1))) dL_law_283 (by rw [hNs]; exact inb_vp b24) (by rw [hXs]; rfl) ?_
      refine J_aload_n (j := 0) dL_law_284 rfl rfl ?_
      refine J_iload_n (j := 3) dL_law_285 rfl rfl ?_
      refine J_iconst (v := 2) dL_law_286 (by decide) ?_
      refine J_iadd dL_law_287 ?_
      obtain ⟨b25, hF⟩ := chk hF
      refine J_ialdX (v := Xs (ix (v3 + 2))) dL_law_288 (by rw [hNs]; exact inb_vp b25) (by rw [hXs]; rfl) ?_
      refine J_aload_n (j := 0) dL_law_289 rfl rfl ?_
      refine J_iload_n (j := 3) dL_law_290 rfl rfl ?_
      refine J_iconst (v := 3) dL_law_291 (by decide) ?_
      refine J_iadd dL_law_292 ?_
      obtain ⟨b26, hF⟩ := chk hF
      refine J_ialdX (v := Xs (ix (v3 + 3))) dL_law_293 (by rw [hNs]; exact inb_vp b26) (by rw [hXs]; rfl) ?_
      obtain ⟨r27, x28, h29, hF⟩ := ob2_some hF
      refine JX_callVi (As := [.int (Xs (ix (v3 + 1))), .int (Xs (ix (v3 + 2))), .int (Xs (ix (v3 + 3)))]) (S := []) lkV_WithOneHandLaw_22_X8_cuffs rfl (by decide) dL_law_294 c_5 (S_X8_cuffs (by omega) h29) (by omega) rfl rfl (Nat.le_of_ble_eq_true rfl) rfl ?_
      refine J_aload_n (j := 2) dL_law_297 rfl rfl ?_
      refine J_aload_n (j := 0) dL_law_298 rfl rfl ?_
      refine J_iload_n (j := 3) dL_law_299 rfl rfl ?_
      refine J_iconst (v := 1) dL_law_300 (by decide) ?_
      refine J_iadd dL_law_301 ?_
      refine J_ialdX (v := Xs (ix (v3 + 1))) dL_law_302 (by rw [hNs]; exact inb_vp b24) (by rw [hXs]; rfl) ?_
      refine J_aload_n (j := 0) dL_law_303 rfl rfl ?_
      refine J_iload_n (j := 3) dL_law_304 rfl rfl ?_
      refine J_iconst (v := 2) dL_law_305 (by decide) ?_
      refine J_iadd dL_law_306 ?_
      refine J_ialdX (v := Xs (ix (v3 + 2))) dL_law_307 (by rw [hNs]; exact inb_vp b25) (by rw [hXs]; rfl) ?_
      refine J_aload_n (j := 0) dL_law_308 rfl rfl ?_
      refine J_iload_n (j := 3) dL_law_309 rfl rfl ?_
      refine J_iconst (v := 3) dL_law_310 (by decide) ?_
      refine J_iadd dL_law_311 ?_
      refine J_ialdX (v := Xs (ix (v3 + 3))) dL_law_312 (by rw [hNs]; exact inb_vp b26) (by rw [hXs]; rfl) ?_
      obtain ⟨r30, m31, h32, hF⟩ := ob2_some hF
      refine JM_callVi (As := [.int (Xs (ix (v3 + 1))), .int (Xs (ix (v3 + 2))), .int (Xs (ix (v3 + 3)))]) (S := [.int r27]) lkV_WithOneHandLaw_26_X9_cuffs rfl (by decide) dL_law_313 c_80 (S_X9_cuffs (by omega) h32) (by omega) rfl rfl (Nat.le_of_ble_eq_true rfl) rfl ?_
      refine J_icmp_eq (tgt := 1530) dL_law_316 (by decide) (fun q33 => ?_) (fun q33 => ?_)
      · rw [if_pos q33] at hF
        refine J_iinc (j := 3) (v := v3 + 6) (L' := [(3, .int (v3 + 6)), (0, .ref 4), (1, .ref 5), (2, .ref 80)]) dL_law_1530 rfl rfl (by decide) rfl ?_
        refine J_goto (tgt := 18) dL_law_1533 (by decide) ?_
        refine J_sub [1, 2, 3, 0] rfl ?_
        exact hK18 _ _ _ hF
      · rw [if_neg q33] at hF
        refine J_iconst (v := 0) dL_law_319 (by decide) ?_
        cases hF
    rw [if_neg q23] at hF
    refine J_sw (fun q34 => ?_) (fun q34 => ?_)
    · rw [if_pos q34] at hF
      refine J_aload_n (j := 1) dL_law_321 rfl rfl ?_
      refine J_aload_n (j := 0) dL_law_322 rfl rfl ?_
      refine J_iload_n (j := 3) dL_law_323 rfl rfl ?_
      refine J_iconst (v := 1) dL_law_324 (by decide) ?_
      refine J_iadd dL_law_325 ?_
      obtain ⟨b35, hF⟩ := chk hF
      refine J_ialdX (v := Xs (ix (v3 + 1))) dL_law_326 (by rw [hNs]; exact inb_vp b35) (by rw [hXs]; rfl) ?_
      refine J_aload_n (j := 0) dL_law_327 rfl rfl ?_
      refine J_iload_n (j := 3) dL_law_328 rfl rfl ?_
      refine J_iconst (v := 2) dL_law_329 (by decide) ?_
      refine J_iadd dL_law_330 ?_
      obtain ⟨b36, hF⟩ := chk hF
      refine J_ialdX (v := Xs (ix (v3 + 2))) dL_law_331 (by rw [hNs]; exact inb_vp b36) (by rw [hXs]; rfl) ?_
      obtain ⟨r37, x38, h39, hF⟩ := ob2_some hF
      refine JX_callVi (As := [.int (Xs (ix (v3 + 1))), .int (Xs (ix (v3 + 2)))]) (S := []) lkV_WithOneHandLaw_27_X8_spot rfl (by decide) dL_law_332 c_5 (S_X8_spot (by omega) h39) (by omega) rfl rfl (Nat.le_of_ble_eq_true rfl) rfl ?_
      refine J_aload_n (j := 2) dL_law_335 rfl rfl ?_
      refine J_aload_n (j := 0) dL_law_336 rfl rfl ?_
      refine J_iload_n (j := 3) dL_law_337 rfl rfl ?_
      refine J_iconst (v := 1) dL_law_338 (by decide) ?_
      refine J_iadd dL_law_339 ?_
      refine J_ialdX (v := Xs (ix (v3 + 1))) dL_law_340 (by rw [hNs]; exact inb_vp b35) (by rw [hXs]; rfl) ?_
      refine J_aload_n (j := 0) dL_law_341 rfl rfl ?_
      refine J_iload_n (j := 3) dL_law_342 rfl rfl ?_
      refine J_iconst (v := 2) dL_law_343 (by decide) ?_
      refine J_iadd dL_law_344 ?_
      refine J_ialdX (v := Xs (ix (v3 + 2))) dL_law_345 (by rw [hNs]; exact inb_vp b36) (by rw [hXs]; rfl) ?_
      obtain ⟨r40, m41, h42, hF⟩ := ob2_some hF
      refine JM_callVi (As := [.int (Xs (ix (v3 + 1))), .int (Xs (ix (v3 + 2)))]) (S := [.int r37]) lkV_WithOneHandLaw_30_X9_spot rfl (by decide) dL_law_346 c_80 (S_X9_spot (by omega) h42) (by omega) rfl rfl (Nat.le_of_ble_eq_true rfl) rfl ?_
      refine J_icmp_eq (tgt := 1530) dL_law_349 (by decide) (fun q43 => ?_) (fun q43 => ?_)
      · rw [if_pos q43] at hF
        refine J_iinc (j := 3) (v := v3 + 6) (L' := [(3, .int (v3 + 6)), (0, .ref 4), (1, .ref 5), (2, .ref 80)]) dL_law_1530 rfl rfl (by decide) rfl ?_
        refine J_goto (tgt := 18) dL_law_1533 (by decide) ?_
        refine J_sub [1, 2, 3, 0] rfl ?_
        exact hK18 _ _ _ hF
      · rw [if_neg q43] at hF
        refine J_iconst (v := 0) dL_law_352 (by decide) ?_
        cases hF
    rw [if_neg q34] at hF
    refine J_sw (fun q44 => ?_) (fun q44 => ?_)
    · rw [if_pos q44] at hF
      refine J_aload_n (j := 1) dL_law_354 rfl rfl ?_
      refine J_aload_n (j := 0) dL_law_355 rfl rfl ?_
      refine J_iload_n (j := 3) dL_law_356 rfl rfl ?_
      refine J_iconst (v := 1) dL_law_357 (by decide) ?_
      refine J_iadd dL_law_358 ?_
      obtain ⟨b45, hF⟩ := chk hF
      refine J_ialdX (v := Xs (ix (v3 + 1))) dL_law_359 (by rw [hNs]; exact inb_vp b45) (by rw [hXs]; rfl) ?_
      refine J_aload_n (j := 0) dL_law_360 rfl rfl ?_
      refine J_iload_n (j := 3) dL_law_361 rfl rfl ?_
      refine J_iconst (v := 2) dL_law_362 (by decide) ?_
      refine J_iadd dL_law_363 ?_
      obtain ⟨b46, hF⟩ := chk hF
      refine J_ialdX (v := Xs (ix (v3 + 2))) dL_law_364 (by rw [hNs]; exact inb_vp b46) (by rw [hXs]; rfl) ?_
      refine J_aload_n (j := 0) dL_law_365 rfl rfl ?_
      refine J_iload_n (j := 3) dL_law_366 rfl rfl ?_
      refine J_iconst (v := 3) dL_law_367 (by decide) ?_
      refine J_iadd dL_law_368 ?_
      obtain ⟨b47, hF⟩ := chk hF
      refine J_ialdX (v := Xs (ix (v3 + 3))) dL_law_369 (by rw [hNs]; exact inb_vp b47) (by rw [hXs]; rfl) ?_
      obtain ⟨r48, x49, h50, hF⟩ := ob2_some hF
      refine JX_callVi (As := [.int (Xs (ix (v3 + 1))), .int (Xs (ix (v3 + 2))), .int (Xs (ix (v3 + 3)))]) (S := []) lkV_WithOneHandLaw_31_X8_mend rfl (by decide) dL_law_370 c_5 (S_X8_mend (by omega) h50) (by omega) rfl rfl (Nat.le_of_ble_eq_true rfl) rfl ?_
      refine J_aload_n (j := 2) dL_law_373 rfl rfl ?_
      refine J_aload_n (j := 0) dL_law_374 rfl rfl ?_
      refine J_iload_n (j := 3) dL_law_375 rfl rfl ?_
      refine J_iconst (v := 1) dL_law_376 (by decide) ?_
      refine J_iadd dL_law_377 ?_
      refine J_ialdX (v := Xs (ix (v3 + 1))) dL_law_378 (by rw [hNs]; exact inb_vp b45) (by rw [hXs]; rfl) ?_
      refine J_aload_n (j := 0) dL_law_379 rfl rfl ?_
      refine J_iload_n (j := 3) dL_law_380 rfl rfl ?_
      refine J_iconst (v := 2) dL_law_381 (by decide) ?_
      refine J_iadd dL_law_382 ?_
      refine J_ialdX (v := Xs (ix (v3 + 2))) dL_law_383 (by rw [hNs]; exact inb_vp b46) (by rw [hXs]; rfl) ?_
      refine J_aload_n (j := 0) dL_law_384 rfl rfl ?_
      refine J_iload_n (j := 3) dL_law_385 rfl rfl ?_
      refine J_iconst (v := 3) dL_law_386 (by decide) ?_
      refine J_iadd dL_law_387 ?_
      refine J_ialdX (v := Xs (ix (v3 + 3))) dL_law_388 (by rw [hNs]; exact inb_vp b47) (by rw [hXs]; rfl) ?_
      obtain ⟨r51, m52, h53, hF⟩ := ob2_some hF
      refine JM_callVi (As := [.int (Xs (ix (v3 + 1))), .int (Xs (ix (v3 + 2))), .int (Xs (ix (v3 + 3)))]) (S := [.int r48]) lkV_WithOneHandLaw_34_X9_mend rfl (by decide) dL_law_389 c_80 (S_X9_mend (by omega) h53) (by omega) rfl rfl (Nat.le_of_ble_eq_true rfl) rfl ?_
      refine J_icmp_eq (tgt := 1530) dL_law_392 (by decide) (fun q54 => ?_) (fun q54 => ?_)
      · rw [if_pos q54] at hF
        refine J_iinc (j := 3) (v := v3 + 6) (L' := [(3, .int (v3 + 6)), (0, .ref 4), (1, .ref 5), (2, .ref 80)]) dL_law_1530 rfl rfl (by decide) rfl ?_
        refine J_goto (tgt := 18) dL_law_1533 (by decide) ?_
        refine J_sub [1, 2, 3, 0] rfl ?_
        exact hK18 _ _ _ hF
      · rw [if_neg q54] at hF
        refine J_iconst (v := 0) dL_law_395 (by decide) ?_
        cases hF
    rw [if_neg q44] at hF
    refine J_sw (fun q55 => ?_) (fun q55 => ?_)
    · rw [if_pos q55] at hF
      refine J_aload_n (j := 1) dL_law_397 rfl rfl ?_
      refine J_aload_n (j := 0) dL_law_398 rfl rfl ?_
      refine J_iload_n (j := 3) dL_law_399 rfl rfl ?_
      refine J_iconst (v := 1) dL_law_400 (by decide) ?_
      refine J_iadd dL_law_401 ?_
      obtain ⟨b56, hF⟩ := chk hF
      refine J_ialdX (v := Xs (ix (v3 + 1))) dL_law_402 (by rw [hNs]; exact inb_vp b56) (by rw [hXs]; rfl) ?_
      refine J_aload_n (j := 0) dL_law_403 rfl rfl ?_
      refine J_iload_n (j := 3) dL_law_404 rfl rfl ?_
      refine J_iconst (v := 2) dL_law_405 (by decide) ?_
      refine J_iadd dL_law_406 ?_
      obtain ⟨b57, hF⟩ := chk hF
      refine J_ialdX (v := Xs (ix (v3 + 2))) dL_law_407 (by rw [hNs]; exact inb_vp b57) (by rw [hXs]; rfl) ?_
      obtain ⟨r58, h59, hF⟩ := ob_some hF
      refine JX_callVi (As := [.int (Xs (ix (v3 + 1))), .int (Xs (ix (v3 + 2)))]) (S := []) lkV_WithOneHandLaw_35_X8_of rfl (by decide) dL_law_408 c_5 (S_X8_of (by omega) h59) (by omega) rfl rfl (Nat.le_of_ble_eq_true rfl) rfl ?_
      refine J_aload_n (j := 2) dL_law_411 rfl rfl ?_
      refine J_aload_n (j := 0) dL_law_412 rfl rfl ?_
      refine J_iload_n (j := 3) dL_law_413 rfl rfl ?_
      refine J_iconst (v := 1) dL_law_414 (by decide) ?_
      refine J_iadd dL_law_415 ?_
      refine J_ialdX (v := Xs (ix (v3 + 1))) dL_law_416 (by rw [hNs]; exact inb_vp b56) (by rw [hXs]; rfl) ?_
      refine J_aload_n (j := 0) dL_law_417 rfl rfl ?_
      refine J_iload_n (j := 3) dL_law_418 rfl rfl ?_
      refine J_iconst (v := 2) dL_law_419 (by decide) ?_
      refine J_iadd dL_law_420 ?_
      refine J_ialdX (v := Xs (ix (v3 + 2))) dL_law_421 (by rw [hNs]; exact inb_vp b57) (by rw [hXs]; rfl) ?_
      obtain ⟨r60, h61, hF⟩ := ob_some hF
      refine JM_callVi (As := [.int (Xs (ix (v3 + 1))), .int (Xs (ix (v3 + 2)))]) (S := [.int r58]) lkV_WithOneHandLaw_38_X9_of rfl (by decide) dL_law_422 c_80 (S_X9_of (by omega) h61) (by omega) rfl rfl (Nat.le_of_ble_eq_true rfl) rfl ?_
      refine J_icmp_eq (tgt := 1530) dL_law_425 (by decide) (fun q62 => ?_) (fun q62 => ?_)
      · rw [if_pos q62] at hF
        refine J_iinc (j := 3) (v := v3 + 6) (L' := [(3, .int (v3 + 6)), (0, .ref 4), (1, .ref 5), (2, .ref 80)]) dL_law_1530 rfl rfl (by decide) rfl ?_
        refine J_goto (tgt := 18) dL_law_1533 (by decide) ?_
        refine J_sub [1, 2, 3, 0] rfl ?_
        exact hK18 _ _ _ hF
      · rw [if_neg q62] at hF
        refine J_iconst (v := 0) dL_law_428 (by decide) ?_
        cases hF
    rw [if_neg q55] at hF
    refine J_sw (fun q63 => ?_) (fun q63 => ?_)
    · rw [if_pos q63] at hF
      refine J_aload_n (j := 1) dL_law_430 rfl rfl ?_
      refine J_aload_n (j := 0) dL_law_431 rfl rfl ?_
      refine J_iload_n (j := 3) dL_law_432 rfl rfl ?_
      refine J_iconst (v := 1) dL_law_433 (by decide) ?_
      refine J_iadd dL_law_434 ?_
      obtain ⟨b64, hF⟩ := chk hF
      refine J_ialdX (v := Xs (ix (v3 + 1))) dL_law_435 (by rw [hNs]; exact inb_vp b64) (by rw [hXs]; rfl) ?_
      obtain ⟨r65, x66, h67, hF⟩ := ob2_some hF
      refine JX_callVi (As := [.int (Xs (ix (v3 + 1)))]) (S := []) lkV_WithOneHandLaw_39_X8_feed rfl (by decide) dL_law_436 c_5 (S_X8_feed (by omega) h67) (by omega) rfl rfl (Nat.le_of_ble_eq_true rfl) rfl ?_
      refine J_aload_n (j := 2) dL_law_439 rfl rfl ?_
      refine J_aload_n (j := 0) dL_law_440 rfl rfl ?_
      refine J_iload_n (j := 3) dL_law_441 rfl rfl ?_
      refine J_iconst (v := 1) dL_law_442 (by decide) ?_
      refine J_iadd dL_law_443 ?_
      refine J_ialdX (v := Xs (ix (v3 + 1))) dL_law_444 (by rw [hNs]; exact inb_vp b64) (by rw [hXs]; rfl) ?_
      obtain ⟨r68, m69, h70, hF⟩ := ob2_some hF
      refine JM_callVi (As := [.int (Xs (ix (v3 + 1)))]) (S := [.int r65]) lkV_WithOneHandLaw_43_X9_feed rfl (by decide) dL_law_445 c_80 (S_X9_feed (by omega) h70) (by omega) rfl rfl (Nat.le_of_ble_eq_true rfl) rfl ?_
      refine J_icmp_eq (tgt := 1530) dL_law_448 (by decide) (fun q71 => ?_) (fun q71 => ?_)
      · rw [if_pos q71] at hF
        refine J_iinc (j := 3) (v := v3 + 6) (L' := [(3, .int (v3 + 6)), (0, .ref 4), (1, .ref 5), (2, .ref 80)]) dL_law_1530 rfl rfl (by decide) rfl ?_
        refine J_goto (tgt := 18) dL_law_1533 (by decide) ?_
        refine J_sub [1, 2, 3, 0] rfl ?_
        exact hK18 _ _ _ hF
      · rw [if_neg q71] at hF
        refine J_iconst (v := 0) dL_law_451 (by decide) ?_
        cases hF
    rw [if_neg q63] at hF
    refine J_sw (fun q72 => ?_) (fun q72 => ?_)
    · rw [if_pos q72] at hF
      refine J_aload_n (j := 1) dL_law_453 rfl rfl ?_
      obtain ⟨r73, x74, h75, hF⟩ := ob2_some hF
      refine JX_callVi (As := []) (S := []) lkV_WithOneHandLaw_44_X8_law rfl (by decide) dL_law_454 c_5 (S_X8_law (by omega) h75) (by omega) rfl rfl (Nat.le_of_ble_eq_true rfl) rfl ?_
      refine J_aload_n (j := 2) dL_law_457 rfl rfl ?_
      obtain ⟨r76, m77, h78, hF⟩ := ob2_some hF
      refine JM_callVi (As := []) (S := [.int r73]) lkV_WithOneHandLaw_48_X9_law rfl (by decide) dL_law_458 c_80 (S_X9_law (by omega) h78) (by omega) rfl rfl (Nat.le_of_ble_eq_true rfl) rfl ?_
      refine J_icmp_eq (tgt := 1530) dL_law_461 (by decide) (fun q79 => ?_) (fun q79 => ?_)
      · rw [if_pos q79] at hF
        refine J_iinc (j := 3) (v := v3 + 6) (L' := [(3, .int (v3 + 6)), (0, .ref 4), (1, .ref 5), (2, .ref 80)]) dL_law_1530 rfl rfl (by decide) rfl ?_
        refine J_goto (tgt := 18) dL_law_1533 (by decide) ?_
        refine J_sub [1, 2, 3, 0] rfl ?_
        exact hK18 _ _ _ hF
      · rw [if_neg q79] at hF
        refine J_iconst (v := 0) dL_law_464 (by decide) ?_
        cases hF
    rw [if_neg q72] at hF
    refine J_sw (fun q80 => ?_) (fun q80 => ?_)
    · rw [if_pos q80] at hF
      refine J_aload_n (j := 1) dL_law_466 rfl rfl ?_
      refine J_aload_n (j := 0) dL_law_467 rfl rfl ?_
      refine J_iload_n (j := 3) dL_law_468 rfl rfl ?_
      refine J_iconst (v := 1) dL_law_469 (by decide) ?_
      refine J_iadd dL_law_470 ?_
      obtain ⟨b81, hF⟩ := chk hF
      refine J_ialdX (v := Xs (ix (v3 + 1))) dL_law_471 (by rw [hNs]; exact inb_vp b81) (by rw [hXs]; rfl) ?_
      refine J_aload_n (j := 0) dL_law_472 rfl rfl ?_
      refine J_iload_n (j := 3) dL_law_473 rfl rfl ?_
      refine J_iconst (v := 2) dL_law_474 (by decide) ?_
      refine J_iadd dL_law_475 ?_
      obtain ⟨b82, hF⟩ := chk hF
      refine J_ialdX (v := Xs (ix (v3 + 2))) dL_law_476 (by rw [hNs]; exact inb_vp b82) (by rw [hXs]; rfl) ?_
      obtain ⟨r83, x84, h85, hF⟩ := ob2_some hF
      refine JX_callVi (As := [.int (Xs (ix (v3 + 1))), .int (Xs (ix (v3 + 2)))]) (S := []) lkV_WithOneHandLaw_49_X8_seconds rfl (by decide) dL_law_477 c_5 (S_X8_seconds (by omega) h85) (by omega) rfl rfl (Nat.le_of_ble_eq_true rfl) rfl ?_
      refine J_aload_n (j := 2) dL_law_480 rfl rfl ?_
      refine J_aload_n (j := 0) dL_law_481 rfl rfl ?_
      refine J_iload_n (j := 3) dL_law_482 rfl rfl ?_
      refine J_iconst (v := 1) dL_law_483 (by decide) ?_
      refine J_iadd dL_law_484 ?_
      refine J_ialdX (v := Xs (ix (v3 + 1))) dL_law_485 (by rw [hNs]; exact inb_vp b81) (by rw [hXs]; rfl) ?_
      refine J_aload_n (j := 0) dL_law_486 rfl rfl ?_
      refine J_iload_n (j := 3) dL_law_487 rfl rfl ?_
      refine J_iconst (v := 2) dL_law_488 (by decide) ?_
      refine J_iadd dL_law_489 ?_
      refine J_ialdX (v := Xs (ix (v3 + 2))) dL_law_490 (by rw [hNs]; exact inb_vp b82) (by rw [hXs]; rfl) ?_
      obtain ⟨r86, m87, h88, hF⟩ := ob2_some hF
      refine JM_callVi (As := [.int (Xs (ix (v3 + 1))), .int (Xs (ix (v3 + 2)))]) (S := [.int r83]) lkV_WithOneHandLaw_52_X9_seconds rfl (by decide) dL_law_491 c_80 (S_X9_seconds (by omega) h88) (by omega) rfl rfl (Nat.le_of_ble_eq_true rfl) rfl ?_
      refine J_icmp_eq (tgt := 1530) dL_law_494 (by decide) (fun q89 => ?_) (fun q89 => ?_)
      · rw [if_pos q89] at hF
        refine J_iinc (j := 3) (v := v3 + 6) (L' := [(3, .int (v3 + 6)), (0, .ref 4), (1, .ref 5), (2, .ref 80)]) dL_law_1530 rfl rfl (by decide) rfl ?_
        refine J_goto (tgt := 18) dL_law_1533 (by decide) ?_
        refine J_sub [1, 2, 3, 0] rfl ?_
        exact hK18 _ _ _ hF
      · rw [if_neg q89] at hF
        refine J_iconst (v := 0) dL_law_497 (by decide) ?_
        cases hF
    rw [if_neg q80] at hF
    refine J_sw (fun q90 => ?_) (fun q90 => ?_)
    · rw [if_pos q90] at hF
      refine J_aload_n (j := 1) dL_law_499 rfl rfl ?_
      refine J_aload_n (j := 0) dL_law_500 rfl rfl ?_
      refine J_iload_n (j := 3) dL_law_501 rfl rfl ?_
      refine J_iconst (v := 1) dL_law_502 (by decide) ?_
      refine J_iadd dL_law_503 ?_
      obtain ⟨b91, hF⟩ := chk hF
      refine J_ialdX (v := Xs (ix (v3 + 1))) dL_law_504 (by rw [hNs]; exact inb_vp b91) (by rw [hXs]; rfl) ?_
      obtain ⟨r92, x93, h94, hF⟩ := ob2_some hF
      refine JX_callVi (As := [.int (Xs (ix (v3 + 1)))]) (S := []) lkV_WithOneHandLaw_53_X8_best rfl (by decide) dL_law_505 c_5 (S_X8_best (by omega) h94) (by omega) rfl rfl (Nat.le_of_ble_eq_true rfl) rfl ?_
      refine J_aload_n (j := 2) dL_law_508 rfl rfl ?_
      refine J_aload_n (j := 0) dL_law_509 rfl rfl ?_
      refine J_iload_n (j := 3) dL_law_510 rfl rfl ?_
      refine J_iconst (v := 1) dL_law_511 (by decide) ?_
      refine J_iadd dL_law_512 ?_
      refine J_ialdX (v := Xs (ix (v3 + 1))) dL_law_513 (by rw [hNs]; exact inb_vp b91) (by rw [hXs]; rfl) ?_
      obtain ⟨r95, m96, h97, hF⟩ := ob2_some hF
      refine JM_callVi (As := [.int (Xs (ix (v3 + 1)))]) (S := [.int r92]) lkV_WithOneHandLaw_56_X9_best rfl (by decide) dL_law_514 c_80 (S_X9_best (by omega) h97) (by omega) rfl rfl (Nat.le_of_ble_eq_true rfl) rfl ?_
      refine J_icmp_eq (tgt := 1530) dL_law_517 (by decide) (fun q98 => ?_) (fun q98 => ?_)
      · rw [if_pos q98] at hF
        refine J_iinc (j := 3) (v := v3 + 6) (L' := [(3, .int (v3 + 6)), (0, .ref 4), (1, .ref 5), (2, .ref 80)]) dL_law_1530 rfl rfl (by decide) rfl ?_
        refine J_goto (tgt := 18) dL_law_1533 (by decide) ?_
        refine J_sub [1, 2, 3, 0] rfl ?_
        exact hK18 _ _ _ hF
      · rw [if_neg q98] at hF
        refine J_iconst (v := 0) dL_law_520 (by decide) ?_
        cases hF
    rw [if_neg q90] at hF
    refine J_sw (fun q99 => ?_) (fun q99 => ?_)
    · rw [if_pos q99] at hF
      refine J_aload_n (j := 1) dL_law_522 rfl rfl ?_
      refine J_aload_n (j := 0) dL_law_523 rfl rfl ?_
      refine J_iload_n (j := 3) dL_law_524 rfl rfl ?_
      refine J_iconst (v := 1) dL_law_525 (by decide) ?_
      refine J_iadd dL_law_526 ?_
      obtain ⟨b100, hF⟩ := chk hF
      refine J_ialdX (v := Xs (ix (v3 + 1))) dL_law_527 (by rw [hNs]; exact inb_vp b100) (by rw [hXs]; rfl) ?_
      refine J_aload_n (j := 0) dL_law_528 rfl rfl ?_
      refine J_iload_n (j := 3) dL_law_529 rfl rfl ?_
      refine J_iconst (v := 2) dL_law_530 (by decide) ?_
      refine J_iadd dL_law_531 ?_
      obtain ⟨b101, hF⟩ := chk hF
      refine J_ialdX (v := Xs (ix (v3 + 2))) dL_law_532 (by rw [hNs]; exact inb_vp b101) (by rw [hXs]; rfl) ?_
      obtain ⟨r102, x103, h104, hF⟩ := ob2_some hF
      refine JX_callVi (As := [.int (Xs (ix (v3 + 1))), .int (Xs (ix (v3 + 2)))]) (S := []) lkV_WithOneHandLaw_57_X8_paired rfl (by decide) dL_law_533 c_5 (S_X8_paired (by omega) h104) (by omega) rfl rfl (Nat.le_of_ble_eq_true rfl) rfl ?_
      refine J_aload_n (j := 2) dL_law_536 rfl rfl ?_
      refine J_aload_n (j := 0) dL_law_537 rfl rfl ?_
      refine J_iload_n (j := 3) dL_law_538 rfl rfl ?_
      refine J_iconst (v := 1) dL_law_539 (by decide) ?_
      refine J_iadd dL_law_540 ?_
      refine J_ialdX (v := Xs (ix (v3 + 1))) dL_law_541 (by rw [hNs]; exact inb_vp b100) (by rw [hXs]; rfl) ?_
      refine J_aload_n (j := 0) dL_law_542 rfl rfl ?_
      refine J_iload_n (j := 3) dL_law_543 rfl rfl ?_
      refine J_iconst (v := 2) dL_law_544 (by decide) ?_
      refine J_iadd dL_law_545 ?_
      refine J_ialdX (v := Xs (ix (v3 + 2))) dL_law_546 (by rw [hNs]; exact inb_vp b101) (by rw [hXs]; rfl) ?_
      obtain ⟨r105, m106, h107, hF⟩ := ob2_some hF
      refine JM_callVi (As := [.int (Xs (ix (v3 + 1))), .int (Xs (ix (v3 + 2)))]) (S := [.int r102]) lkV_WithOneHandLaw_60_X9_paired rfl (by decide) dL_law_547 c_80 (S_X9_paired (by omega) h107) (by omega) rfl rfl (Nat.le_of_ble_eq_true rfl) rfl ?_
      refine J_icmp_eq (tgt := 1530) dL_law_550 (by decide) (fun q108 => ?_) (fun q108 => ?_)
      · rw [if_pos q108] at hF
        refine J_iinc (j := 3) (v := v3 + 6) (L' := [(3, .int (v3 + 6)), (0, .ref 4), (1, .ref 5), (2, .ref 80)]) dL_law_1530 rfl rfl (by decide) rfl ?_
        refine J_goto (tgt := 18) dL_law_1533 (by decide) ?_
        refine J_sub [1, 2, 3, 0] rfl ?_
        exact hK18 _ _ _ hF
      · rw [if_neg q108] at hF
        refine J_iconst (v := 0) dL_law_553 (by decide) ?_
        cases hF
    rw [if_neg q99] at hF
    refine J_sw (fun q109 => ?_) (fun q109 => ?_)
    · rw [if_pos q109] at hF
      refine J_aload_n (j := 1) dL_law_555 rfl rfl ?_
      refine J_aload_n (j := 0) dL_law_556 rfl rfl ?_
      refine J_iload_n (j := 3) dL_law_557 rfl rfl ?_
      refine J_iconst (v := 1) dL_law_558 (by decide) ?_
      refine J_iadd dL_law_559 ?_
      obtain ⟨b110, hF⟩ := chk hF
      refine J_ialdX (v := Xs (ix (v3 + 1))) dL_law_560 (by rw [hNs]; exact inb_vp b110) (by rw [hXs]; rfl) ?_
      obtain ⟨r111, x112, h113, hF⟩ := ob2_some hF
      refine JX_callVi (As := [.int (Xs (ix (v3 + 1)))]) (S := []) lkV_WithOneHandLaw_61_X8_order rfl (by decide) dL_law_561 c_5 (S_X8_order (by omega) h113) (by omega) rfl rfl (Nat.le_of_ble_eq_true rfl) rfl ?_
      refine J_aload_n (j := 2) dL_law_564 rfl rfl ?_
      refine J_aload_n (j := 0) dL_law_565 rfl rfl ?_
      refine J_iload_n (j := 3) dL_law_566 rfl rfl ?_
      refine J_iconst (v := 1) dL_law_567 (by decide) ?_
      refine J_iadd dL_law_568 ?_
      refine J_ialdX (v := Xs (ix (v3 + 1))) dL_law_569 (by rw [hNs]; exact inb_vp b110) (by rw [hXs]; rfl) ?_
      obtain ⟨r114, m115, h116, hF⟩ := ob2_some hF
      refine JM_callVi (As := [.int (Xs (ix (v3 + 1)))]) (S := [.int r111]) lkV_WithOneHandLaw_64_X9_order rfl (by decide) dL_law_570 c_80 (S_X9_order (by omega) h116) (by omega) rfl rfl (Nat.le_of_ble_eq_true rfl) rfl ?_
      refine J_icmp_eq (tgt := 1530) dL_law_573 (by decide) (fun q117 => ?_) (fun q117 => ?_)
      · rw [if_pos q117] at hF
        refine J_iinc (j := 3) (v := v3 + 6) (L' := [(3, .int (v3 + 6)), (0, .ref 4), (1, .ref 5), (2, .ref 80)]) dL_law_1530 rfl rfl (by decide) rfl ?_
        refine J_goto (tgt := 18) dL_law_1533 (by decide) ?_
        refine J_sub [1, 2, 3, 0] rfl ?_
        exact hK18 _ _ _ hF
      · rw [if_neg q117] at hF
        refine J_iconst (v := 0) dL_law_576 (by decide) ?_
        cases hF
    rw [if_neg q109] at hF
    refine J_sw (fun q118 => ?_) (fun q118 => ?_)
    · rw [if_pos q118] at hF
      refine J_aload_n (j := 1) dL_law_578 rfl rfl ?_
      refine J_aload_n (j := 0) dL_law_579 rfl rfl ?_
      refine J_iload_n (j := 3) dL_law_580 rfl rfl ?_
      refine J_iconst (v := 1) dL_law_581 (by decide) ?_
      refine J_iadd dL_law_582 ?_
      obtain ⟨b119, hF⟩ := chk hF
      refine J_ialdX (v := Xs (ix (v3 + 1))) dL_law_583 (by rw [hNs]; exact inb_vp b119) (by rw [hXs]; rfl) ?_
      refine J_aload_n (j := 0) dL_law_584 rfl rfl ?_
      refine J_iload_n (j := 3) dL_law_585 rfl rfl ?_
      refine J_iconst (v := 2) dL_law_586 (by decide) ?_
      refine J_iadd dL_law_587 ?_
      obtain ⟨b120, hF⟩ := chk hF
      refine J_ialdX (v := Xs (ix (v3 + 2))) dL_law_588 (by rw [hNs]; exact inb_vp b120) (by rw [hXs]; rfl) ?_
      obtain ⟨r121, x122, h123, hF⟩ := ob2_some hF
      refine JX_callVl (As := [.int (Xs (ix (v3 + 1))), .int (Xs (ix (v3 + 2)))]) (S := []) lkV_WithOneHandLaw_65_X8_dropped rfl (by decide) dL_law_589 c_5 (S_X8_dropped (by omega) h123) (by omega) rfl rfl (Nat.le_of_ble_eq_true rfl) rfl ?_
      refine J_aload_n (j := 2) dL_law_592 rfl rfl ?_
      refine J_aload_n (j := 0) dL_law_593 rfl rfl ?_
      refine J_iload_n (j := 3) dL_law_594 rfl rfl ?_
      refine J_iconst (v := 1) dL_law_595 (by decide) ?_
      refine J_iadd dL_law_596 ?_
      refine J_ialdX (v := Xs (ix (v3 + 1))) dL_law_597 (by rw [hNs]; exact inb_vp b119) (by rw [hXs]; rfl) ?_
      refine J_aload_n (j := 0) dL_law_598 rfl rfl ?_
      refine J_iload_n (j := 3) dL_law_599 rfl rfl ?_
      refine J_iconst (v := 2) dL_law_600 (by decide) ?_
      refine J_iadd dL_law_601 ?_
      refine J_ialdX (v := Xs (ix (v3 + 2))) dL_law_602 (by rw [hNs]; exact inb_vp b120) (by rw [hXs]; rfl) ?_
      obtain ⟨r124, m125, h126, hF⟩ := ob2_some hF
      refine JM_callVl (As := [.int (Xs (ix (v3 + 1))), .int (Xs (ix (v3 + 2)))]) (S := [.long r121]) lkV_WithOneHandLaw_69_X9_dropped rfl (by decide) dL_law_603 c_80 (S_X9_dropped (by omega) h126) (by omega) rfl rfl (Nat.le_of_ble_eq_true rfl) rfl ?_
      refine J_lcmp dL_law_606 ?_
      refine J_if_eq (tgt := 1530) dL_law_607 (by decide) (fun q127 => ?_) (fun q127 => ?_)
      · rw [if_pos q127] at hF
        refine J_iinc (j := 3) (v := v3 + 6) (L' := [(3, .int (v3 + 6)), (0, .ref 4), (1, .ref 5), (2, .ref 80)]) dL_law_1530 rfl rfl (by decide) rfl ?_
        refine J_goto (tgt := 18) dL_law_1533 (by decide) ?_
        refine J_sub [1, 2, 3, 0] rfl ?_
        exact hK18 _ _ _ hF
      · rw [if_neg q127] at hF
        refine J_iconst (v := 0) dL_law_610 (by decide) ?_
        cases hF
    rw [if_neg q118] at hF
    refine J_sw (fun q128 => ?_) (fun q128 => ?_)
    · rw [if_pos q128] at hF
      refine J_aload_n (j := 1) dL_law_612 rfl rfl ?_
      refine J_aload_n (j := 0) dL_law_613 rfl rfl ?_
      refine J_iload_n (j := 3) dL_law_614 rfl rfl ?_
      refine J_iconst (v := 1) dL_law_615 (by decide) ?_
      refine J_iadd dL_law_616 ?_
      obtain ⟨b129, hF⟩ := chk hF
      refine J_ialdX (v := Xs (ix (v3 + 1))) dL_law_617 (by rw [hNs]; exact inb_vp b129) (by rw [hXs]; rfl) ?_
      refine J_aload_n (j := 0) dL_law_618 rfl rfl ?_
      refine J_iload_n (j := 3) dL_law_619 rfl rfl ?_
      refine J_iconst (v := 2) dL_law_620 (by decide) ?_
      refine J_iadd dL_law_621 ?_
      obtain ⟨b130, hF⟩ := chk hF
      refine J_ialdX (v := Xs (ix (v3 + 2))) dL_law_622 (by rw [hNs]; exact inb_vp b130) (by rw [hXs]; rfl) ?_
      refine J_aload_n (j := 0) dL_law_623 rfl rfl ?_
      refine J_iload_n (j := 3) dL_law_624 rfl rfl ?_
      refine J_iconst (v := 3) dL_law_625 (by decide) ?_
      refine J_iadd dL_law_626 ?_
      obtain ⟨b131, hF⟩ := chk hF
      refine J_ialdX (v := Xs (ix (v3 + 3))) dL_law_627 (by rw [hNs]; exact inb_vp b131) (by rw [hXs]; rfl) ?_
      obtain ⟨r132, x133, h134, hF⟩ := ob2_some hF
      refine JX_callVl (As := [.int (Xs (ix (v3 + 1))), .int (Xs (ix (v3 + 2))), .int (Xs (ix (v3 + 3)))]) (S := []) lkV_WithOneHandLaw_70_X8_by rfl (by decide) dL_law_628 c_5 (S_X8_by (by omega) h134) (by omega) rfl rfl (Nat.le_of_ble_eq_true rfl) rfl ?_
      refine J_aload_n (j := 2) dL_law_631 rfl rfl ?_
      refine J_aload_n (j := 0) dL_law_632 rfl rfl ?_
      refine J_iload_n (j := 3) dL_law_633 rfl rfl ?_
      refine J_iconst (v := 1) dL_law_634 (by decide) ?_
      refine J_iadd dL_law_635 ?_
      refine J_ialdX (v := Xs (ix (v3 + 1))) dL_law_636 (by rw [hNs]; exact inb_vp b129) (by rw [hXs]; rfl) ?_
      refine J_aload_n (j := 0) dL_law_637 rfl rfl ?_
      refine J_iload_n (j := 3) dL_law_638 rfl rfl ?_
      refine J_iconst (v := 2) dL_law_639 (by decide) ?_
      refine J_iadd dL_law_640 ?_
      refine J_ialdX (v := Xs (ix (v3 + 2))) dL_law_641 (by rw [hNs]; exact inb_vp b130) (by rw [hXs]; rfl) ?_
      refine J_aload_n (j := 0) dL_law_642 rfl rfl ?_
      refine J_iload_n (j := 3) dL_law_643 rfl rfl ?_
      refine J_iconst (v := 3) dL_law_644 (by decide) ?_
      refine J_iadd dL_law_645 ?_
      refine J_ialdX (v := Xs (ix (v3 + 3))) dL_law_646 (by rw [hNs]; exact inb_vp b131) (by rw [hXs]; rfl) ?_
      obtain ⟨r135, m136, h137, hF⟩ := ob2_some hF
      refine JM_callVl (As := [.int (Xs (ix (v3 + 1))), .int (Xs (ix (v3 + 2))), .int (Xs (ix (v3 + 3)))]) (S := [.long r132]) lkV_WithOneHandLaw_74_X9_by rfl (by decide) dL_law_647 c_80 (S_X9_by (by omega) h137) (by omega) rfl rfl (Nat.le_of_ble_eq_true rfl) rfl ?_
      refine J_lcmp dL_law_650 ?_
      refine J_if_eq (tgt := 1530) dL_law_651 (by decide) (fun q138 => ?_) (fun q138 => ?_)
      · rw [if_pos q138] at hF
        refine J_iinc (j := 3) (v := v3 + 6) (L' := [(3, .int (v3 + 6)), (0, .ref 4), (1, .ref 5), (2, .ref 80)]) dL_law_1530 rfl rfl (by decide) rfl ?_
        refine J_goto (tgt := 18) dL_law_1533 (by decide) ?_
        refine J_sub [1, 2, 3, 0] rfl ?_
        exact hK18 _ _ _ hF
      · rw [if_neg q138] at hF
        refine J_iconst (v := 0) dL_law_654 (by decide) ?_
        cases hF
    rw [if_neg q128] at hF
    refine J_sw (fun q139 => ?_) (fun q139 => ?_)
    · rw [if_pos q139] at hF
      refine J_aload_n (j := 1) dL_law_656 rfl rfl ?_
      refine J_aload_n (j := 0) dL_law_657 rfl rfl ?_
      refine J_iload_n (j := 3) dL_law_658 rfl rfl ?_
      refine J_iconst (v := 1) dL_law_659 (by decide) ?_
      refine J_iadd dL_law_660 ?_
      obtain ⟨b140, hF⟩ := chk hF
      refine J_ialdX (v := Xs (ix (v3 + 1))) dL_law_661 (by rw [hNs]; exact inb_vp b140) (by rw [hXs]; rfl) ?_
      refine J_aload_n (j := 0) dL_law_662 rfl rfl ?_
      refine J_iload_n (j := 3) dL_law_663 rfl rfl ?_
      refine J_iconst (v := 2) dL_law_664 (by decide) ?_
      refine J_iadd dL_law_665 ?_
      obtain ⟨b141, hF⟩ := chk hF
      refine J_ialdX (v := Xs (ix (v3 + 2))) dL_law_666 (by rw [hNs]; exact inb_vp b141) (by rw [hXs]; rfl) ?_
      refine J_aload_n (j := 0) dL_law_667 rfl rfl ?_
      refine J_iload_n (j := 3) dL_law_668 rfl rfl ?_
      refine J_iconst (v := 3) dL_law_669 (by decide) ?_
      refine J_iadd dL_law_670 ?_
      obtain ⟨b142, hF⟩ := chk hF
      refine J_ialdX (v := Xs (ix (v3 + 3))) dL_law_671 (by rw [hNs]; exact inb_vp b142) (by rw [hXs]; rfl) ?_
      obtain ⟨r143, x144, h145, hF⟩ := ob2_some hF
      refine JX_callVi (As := [.int (Xs (ix (v3 + 1))), .int (Xs (ix (v3 + 2))), .int (Xs (ix (v3 + 3)))]) (S := []) lkV_WithOneHandLaw_75_X8_practice rfl (by decide) dL_law_672 c_5 (S_X8_practice (by omega) h145) (by omega) rfl rfl (Nat.le_of_ble_eq_true rfl) rfl ?_
      refine J_aload_n (j := 2) dL_law_675 rfl rfl ?_
      refine J_aload_n (j := 0) dL_law_676 rfl rfl ?_
      refine J_iload_n (j := 3) dL_law_677 rfl rfl ?_
      refine J_iconst (v := 1) dL_law_678 (by decide) ?_
      refine J_iadd dL_law_679 ?_
      refine J_ialdX (v := Xs (ix (v3 + 1))) dL_law_680 (by rw [hNs]; exact inb_vp b140) (by rw [hXs]; rfl) ?_
      refine J_aload_n (j := 0) dL_law_681 rfl rfl ?_
      refine J_iload_n (j := 3) dL_law_682 rfl rfl ?_
      refine J_iconst (v := 2) dL_law_683 (by decide) ?_
      refine J_iadd dL_law_684 ?_
      refine J_ialdX (v := Xs (ix (v3 + 2))) dL_law_685 (by rw [hNs]; exact inb_vp b141) (by rw [hXs]; rfl) ?_
      refine J_aload_n (j := 0) dL_law_686 rfl rfl ?_
      refine J_iload_n (j := 3) dL_law_687 rfl rfl ?_
      refine J_iconst (v := 3) dL_law_688 (by decide) ?_
      refine J_iadd dL_law_689 ?_
      refine J_ialdX (v := Xs (ix (v3 + 3))) dL_law_690 (by rw [hNs]; exact inb_vp b142) (by rw [hXs]; rfl) ?_
      obtain ⟨r146, m147, h148, hF⟩ := ob2_some hF
      refine JM_callVi (As := [.int (Xs (ix (v3 + 1))), .int (Xs (ix (v3 + 2))), .int (Xs (ix (v3 + 3)))]) (S := [.int r143]) lkV_WithOneHandLaw_78_X9_practice rfl (by decide) dL_law_691 c_80 (S_X9_practice (by omega) h148) (by omega) rfl rfl (Nat.le_of_ble_eq_true rfl) rfl ?_
      refine J_icmp_eq (tgt := 1530) dL_law_694 (by decide) (fun q149 => ?_) (fun q149 => ?_)
      · rw [if_pos q149] at hF
        refine J_iinc (j := 3) (v := v3 + 6) (L' := [(3, .int (v3 + 6)), (0, .ref 4), (1, .ref 5), (2, .ref 80)]) dL_law_1530 rfl rfl (by decide) rfl ?_
        refine J_goto (tgt := 18) dL_law_1533 (by decide) ?_
        refine J_sub [1, 2, 3, 0] rfl ?_
        exact hK18 _ _ _ hF
      · rw [if_neg q149] at hF
        refine J_iconst (v := 0) dL_law_697 (by decide) ?_
        cases hF
    rw [if_neg q139] at hF
    refine J_sw (fun q150 => ?_) (fun q150 => ?_)
    · rw [if_pos q150] at hF
      refine J_aload_n (j := 1) dL_law_699 rfl rfl ?_
      refine J_aload_n (j := 0) dL_law_700 rfl rfl ?_
      refine J_iload_n (j := 3) dL_law_701 rfl rfl ?_
      refine J_iconst (v := 1) dL_law_702 (by decide) ?_
      refine J_iadd dL_law_703 ?_
      obtain ⟨b151, hF⟩ := chk hF
      refine J_ialdX (v := Xs (ix (v3 + 1))) dL_law_704 (by rw [hNs]; exact inb_vp b151) (by rw [hXs]; rfl) ?_
      obtain ⟨r152, x153, h154, hF⟩ := ob2_some hF
      refine JX_callVl (As := [.int (Xs (ix (v3 + 1)))]) (S := []) lkV_WithOneHandLaw_79_X8_search rfl (by decide) dL_law_705 c_5 (S_X8_search (by omega) h154) (by omega) rfl rfl (Nat.le_of_ble_eq_true rfl) rfl ?_
      refine J_aload_n (j := 2) dL_law_708 rfl rfl ?_
      refine J_aload_n (j := 0) dL_law_709 rfl rfl ?_
      refine J_iload_n (j := 3) dL_law_710 rfl rfl ?_
      refine J_iconst (v := 1) dL_law_711 (by decide) ?_
      refine J_iadd dL_law_712 ?_
      refine J_ialdX (v := Xs (ix (v3 + 1))) dL_law_713 (by rw [hNs]; exact inb_vp b151) (by rw [hXs]; rfl) ?_
      obtain ⟨r155, h156, hF⟩ := ob_some hF
      refine JM_callVl (As := [.int (Xs (ix (v3 + 1)))]) (S := [.long r152]) lkV_WithOneHandLaw_83_X9_search rfl (by decide) dL_law_714 c_80 (S_X9_search (by omega) h156) (by omega) rfl rfl (Nat.le_of_ble_eq_true rfl) rfl ?_
      refine J_lcmp dL_law_717 ?_
      refine J_if_eq (tgt := 1530) dL_law_718 (by decide) (fun q157 => ?_) (fun q157 => ?_)
      · rw [if_pos q157] at hF
        refine J_iinc (j := 3) (v := v3 + 6) (L' := [(3, .int (v3 + 6)), (0, .ref 4), (1, .ref 5), (2, .ref 80)]) dL_law_1530 rfl rfl (by decide) rfl ?_
        refine J_goto (tgt := 18) dL_law_1533 (by decide) ?_
        refine J_sub [1, 2, 3, 0] rfl ?_
        exact hK18 _ _ _ hF
      · rw [if_neg q157] at hF
        refine J_iconst (v := 0) dL_law_721 (by decide) ?_
        cases hF
    rw [if_neg q150] at hF
    refine J_sw (fun q158 => ?_) (fun q158 => ?_)
    · rw [if_pos q158] at hF
      refine J_aload_n (j := 1) dL_law_723 rfl rfl ?_
      refine J_aload_n (j := 0) dL_law_724 rfl rfl ?_
      refine J_iload_n (j := 3) dL_law_725 rfl rfl ?_
      refine J_iconst (v := 1) dL_law_726 (by decide) ?_
      refine J_iadd dL_law_727 ?_
      obtain ⟨b159, hF⟩ := chk hF
      refine J_ialdX (v := Xs (ix (v3 + 1))) dL_law_728 (by rw [hNs]; exact inb_vp b159) (by rw [hXs]; rfl) ?_
      refine J_aload_n (j := 0) dL_law_729 rfl rfl ?_
      refine J_iload_n (j := 3) dL_law_730 rfl rfl ?_
      refine J_iconst (v := 2) dL_law_731 (by decide) ?_
      refine J_iadd dL_law_732 ?_
      obtain ⟨b160, hF⟩ := chk hF
      refine J_ialdX (v := Xs (ix (v3 + 2))) dL_law_733 (by rw [hNs]; exact inb_vp b160) (by rw [hXs]; rfl) ?_
      obtain ⟨r161, x162, h163, hF⟩ := ob2_some hF
      refine JX_callVl (As := [.int (Xs (ix (v3 + 1))), .int (Xs (ix (v3 + 2)))]) (S := []) lkV_WithOneHandLaw_84_X8_told rfl (by decide) dL_law_734 c_5 (S_X8_told (by omega) h163) (by omega) rfl rfl (Nat.le_of_ble_eq_true rfl) rfl ?_
      refine J_aload_n (j := 2) dL_law_737 rfl rfl ?_
      refine J_aload_n (j := 0) dL_law_738 rfl rfl ?_
      refine J_iload_n (j := 3) dL_law_739 rfl rfl ?_
      refine J_iconst (v := 1) dL_law_740 (by decide) ?_
      refine J_iadd dL_law_741 ?_
      refine J_ialdX (v := Xs (ix (v3 + 1))) dL_law_742 (by rw [hNs]; exact inb_vp b159) (by rw [hXs]; rfl) ?_
      refine J_aload_n (j := 0) dL_law_743 rfl rfl ?_
      refine J_iload_n (j := 3) dL_law_744 rfl rfl ?_
      refine J_iconst (v := 2) dL_law_745 (by decide) ?_
      refine J_iadd dL_law_746 ?_
      refine J_ialdX (v := Xs (ix (v3 + 2))) dL_law_747 (by rw [hNs]; exact inb_vp b160) (by rw [hXs]; rfl) ?_
      obtain ⟨r164, h165, hF⟩ := ob_some hF
      refine JM_callVl (As := [.int (Xs (ix (v3 + 1))), .int (Xs (ix (v3 + 2)))]) (S := [.long r161]) lkV_WithOneHandLaw_87_X9_told rfl (by decide) dL_law_748 c_80 (S_X9_told (by omega) h165) (by omega) rfl rfl (Nat.le_of_ble_eq_true rfl) rfl ?_
      refine J_lcmp dL_law_751 ?_
      refine J_if_eq (tgt := 1530) dL_law_752 (by decide) (fun q166 => ?_) (fun q166 => ?_)
      · rw [if_pos q166] at hF
        refine J_iinc (j := 3) (v := v3 + 6) (L' := [(3, .int (v3 + 6)), (0, .ref 4), (1, .ref 5), (2, .ref 80)]) dL_law_1530 rfl rfl (by decide) rfl ?_
        refine J_goto (tgt := 18) dL_law_1533 (by decide) ?_
        refine J_sub [1, 2, 3, 0] rfl ?_
        exact hK18 _ _ _ hF
      · rw [if_neg q166] at hF
        refine J_iconst (v := 0) dL_law_755 (by decide) ?_
        cases hF
    rw [if_neg q158] at hF
    refine J_sw (fun q167 => ?_) (fun q167 => ?_)
    · rw [if_pos q167] at hF
      refine J_aload_n (j := 1) dL_law_757 rfl rfl ?_
      refine J_aload_n (j := 0) dL_law_758 rfl rfl ?_
      refine J_iload_n (j := 3) dL_law_759 rfl rfl ?_
      refine J_iconst (v := 1) dL_law_760 (by decide) ?_
      refine J_iadd dL_law_761 ?_
      obtain ⟨b168, hF⟩ := chk hF
      refine J_ialdX (v := Xs (ix (v3 + 1))) dL_law_762 (by rw [hNs]; exact inb_vp b168) (by rw [hXs]; rfl) ?_
      refine J_aload_n (j := 0) dL_law_763 rfl rfl ?_
      refine J_iload_n (j := 3) dL_law_764 rfl rfl ?_
      refine J_iconst (v := 2) dL_law_765 (by decide) ?_
      refine J_iadd dL_law_766 ?_
      obtain ⟨b169, hF⟩ := chk hF
      refine J_ialdX (v := Xs (ix (v3 + 2))) dL_law_767 (by rw [hNs]; exact inb_vp b169) (by rw [hXs]; rfl) ?_
      refine J_aload_n (j := 0) dL_law_768 rfl rfl ?_
      refine J_iload_n (j := 3) dL_law_769 rfl rfl ?_
      refine J_iconst (v := 3) dL_law_770 (by decide) ?_
      refine J_iadd dL_law_771 ?_
      obtain ⟨b170, hF⟩ := chk hF
      refine J_ialdX (v := Xs (ix (v3 + 3))) dL_law_772 (by rw [hNs]; exact inb_vp b170) (by rw [hXs]; rfl) ?_
      obtain ⟨r171, x172, h173, hF⟩ := ob2_some hF
      refine JX_callVi (As := [.int (Xs (ix (v3 + 1))), .int (Xs (ix (v3 + 2))), .int (Xs (ix (v3 + 3)))]) (S := []) lkV_WithOneHandLaw_88_X8_asked rfl (by decide) dL_law_773 c_5 (S_X8_asked (by omega) h173) (by omega) rfl rfl (Nat.le_of_ble_eq_true rfl) rfl ?_
      refine J_aload_n (j := 2) dL_law_776 rfl rfl ?_
      refine J_aload_n (j := 0) dL_law_777 rfl rfl ?_
      refine J_iload_n (j := 3) dL_law_778 rfl rfl ?_
      refine J_iconst (v := 1) dL_law_779 (by decide) ?_
      refine J_iadd dL_law_780 ?_
      refine J_ialdX (v := Xs (ix (v3 + 1))) dL_law_781 (by rw [hNs]; exact inb_vp b168) (by rw [hXs]; rfl) ?_
      refine J_aload_n (j := 0) dL_law_782 rfl rfl ?_
      refine J_iload_n (j := 3) dL_law_783 rfl rfl ?_
      refine J_iconst (v := 2) dL_law_784 (by decide) ?_
      refine J_iadd dL_law_785 ?_
      refine J_ialdX (v := Xs (ix (v3 + 2))) dL_law_786 (by rw [hNs]; exact inb_vp b169) (by rw [hXs]; rfl) ?_
      refine J_aload_n (j := 0) dL_law_787 rfl rfl ?_
      refine J_iload_n (j := 3) dL_law_788 rfl rfl ?_
      refine J_iconst (v := 3) dL_law_789 (by decide) ?_
      refine J_iadd dL_law_790 ?_
      refine J_ialdX (v := Xs (ix (v3 + 3))) dL_law_791 (by rw [hNs]; exact inb_vp b170) (by rw [hXs]; rfl) ?_
      obtain ⟨r174, m175, h176, hF⟩ := ob2_some hF
      refine JM_callVi (As := [.int (Xs (ix (v3 + 1))), .int (Xs (ix (v3 + 2))), .int (Xs (ix (v3 + 3)))]) (S := [.int r171]) lkV_WithOneHandLaw_91_X9_asked rfl (by decide) dL_law_792 c_80 (S_X9_asked (by omega) h176) (by omega) rfl rfl (Nat.le_of_ble_eq_true rfl) rfl ?_
      refine J_icmp_eq (tgt := 1530) dL_law_795 (by decide) (fun q177 => ?_) (fun q177 => ?_)
      · rw [if_pos q177] at hF
        refine J_iinc (j := 3) (v := v3 + 6) (L' := [(3, .int (v3 + 6)), (0, .ref 4), (1, .ref 5), (2, .ref 80)]) dL_law_1530 rfl rfl (by decide) rfl ?_
        refine J_goto (tgt := 18) dL_law_1533 (by decide) ?_
        refine J_sub [1, 2, 3, 0] rfl ?_
        exact hK18 _ _ _ hF
      · rw [if_neg q177] at hF
        refine J_iconst (v := 0) dL_law_798 (by decide) ?_
        cases hF
    rw [if_neg q167] at hF
    refine J_sw (fun q178 => ?_) (fun q178 => ?_)
    · rw [if_pos q178] at hF
      refine J_aload_n (j := 1) dL_law_800 rfl rfl ?_
      refine J_aload_n (j := 0) dL_law_801 rfl rfl ?_
      refine J_iload_n (j := 3) dL_law_802 rfl rfl ?_
      refine J_iconst (v := 1) dL_law_803 (by decide) ?_
      refine J_iadd dL_law_804 ?_
      obtain ⟨b179, hF⟩ := chk hF
      refine J_ialdX (v := Xs (ix (v3 + 1))) dL_law_805 (by rw [hNs]; exact inb_vp b179) (by rw [hXs]; rfl) ?_
      refine J_aload_n (j := 0) dL_law_806 rfl rfl ?_
      refine J_iload_n (j := 3) dL_law_807 rfl rfl ?_
      refine J_iconst (v := 2) dL_law_808 (by decide) ?_
      refine J_iadd dL_law_809 ?_
      obtain ⟨b180, hF⟩ := chk hF
      refine J_ialdX (v := Xs (ix (v3 + 2))) dL_law_810 (by rw [hNs]; exact inb_vp b180) (by rw [hXs]; rfl) ?_
      refine J_aload_n (j := 0) dL_law_811 rfl rfl ?_
      refine J_iload_n (j := 3) dL_law_812 rfl rfl ?_
      refine J_iconst (v := 3) dL_law_813 (by decide) ?_
      refine J_iadd dL_law_814 ?_
      obtain ⟨b181, hF⟩ := chk hF
      refine J_ialdX (v := Xs (ix (v3 + 3))) dL_law_815 (by rw [hNs]; exact inb_vp b181) (by rw [hXs]; rfl) ?_
      obtain ⟨r182, x183, h184, hF⟩ := ob2_some hF
      refine JX_callVi (As := [.int (Xs (ix (v3 + 1))), .int (Xs (ix (v3 + 2))), .int (Xs (ix (v3 + 3)))]) (S := []) lkV_WithOneHandLaw_92_X8_two rfl (by decide) dL_law_816 c_5 (S_X8_two (by omega) h184) (by omega) rfl rfl (Nat.le_of_ble_eq_true rfl) rfl ?_
      refine J_aload_n (j := 2) dL_law_819 rfl rfl ?_
      refine J_aload_n (j := 0) dL_law_820 rfl rfl ?_
      refine J_iload_n (j := 3) dL_law_821 rfl rfl ?_
      refine J_iconst (v := 1) dL_law_822 (by decide) ?_
      refine J_iadd dL_law_823 ?_
      refine J_ialdX (v := Xs (ix (v3 + 1))) dL_law_824 (by rw [hNs]; exact inb_vp b179) (by rw [hXs]; rfl) ?_
      refine J_aload_n (j := 0) dL_law_825 rfl rfl ?_
      refine J_iload_n (j := 3) dL_law_826 rfl rfl ?_
      refine J_iconst (v := 2) dL_law_827 (by decide) ?_
      refine J_iadd dL_law_828 ?_
      refine J_ialdX (v := Xs (ix (v3 + 2))) dL_law_829 (by rw [hNs]; exact inb_vp b180) (by rw [hXs]; rfl) ?_
      refine J_aload_n (j := 0) dL_law_830 rfl rfl ?_
      refine J_iload_n (j := 3) dL_law_831 rfl rfl ?_
      refine J_iconst (v := 3) dL_law_832 (by decide) ?_
      refine J_iadd dL_law_833 ?_
      refine J_ialdX (v := Xs (ix (v3 + 3))) dL_law_834 (by rw [hNs]; exact inb_vp b181) (by rw [hXs]; rfl) ?_
      obtain ⟨r185, m186, h187, hF⟩ := ob2_some hF
      refine JM_callVi (As := [.int (Xs (ix (v3 + 1))), .int (Xs (ix (v3 + 2))), .int (Xs (ix (v3 + 3)))]) (S := [.int r182]) lkV_WithOneHandLaw_95_X9_two rfl (by decide) dL_law_835 c_80 (S_X9_two (by omega) h187) (by omega) rfl rfl (Nat.le_of_ble_eq_true rfl) rfl ?_
      refine J_icmp_eq (tgt := 1530) dL_law_838 (by decide) (fun q188 => ?_) (fun q188 => ?_)
      · rw [if_pos q188] at hF
        refine J_iinc (j := 3) (v := v3 + 6) (L' := [(3, .int (v3 + 6)), (0, .ref 4), (1, .ref 5), (2, .ref 80)]) dL_law_1530 rfl rfl (by decide) rfl ?_
        refine J_goto (tgt := 18) dL_law_1533 (by decide) ?_
        refine J_sub [1, 2, 3, 0] rfl ?_
        exact hK18 _ _ _ hF
      · rw [if_neg q188] at hF
        refine J_iconst (v := 0) dL_law_841 (by decide) ?_
        cases hF
    rw [if_neg q178] at hF
    refine J_sw (fun q189 => ?_) (fun q189 => ?_)
    · rw [if_pos q189] at hF
      refine J_aload_n (j := 1) dL_law_843 rfl rfl ?_
      refine J_aload_n (j := 0) dL_law_844 rfl rfl ?_
      refine J_iload_n (j := 3) dL_law_845 rfl rfl ?_
      refine J_iconst (v := 1) dL_law_846 (by decide) ?_
      refine J_iadd dL_law_847 ?_
      obtain ⟨b190, hF⟩ := chk hF
      refine J_ialdX (v := Xs (ix (v3 + 1))) dL_law_848 (by rw [hNs]; exact inb_vp b190) (by rw [hXs]; rfl) ?_
      refine J_aload_n (j := 0) dL_law_849 rfl rfl ?_
      refine J_iload_n (j := 3) dL_law_850 rfl rfl ?_
      refine J_iconst (v := 2) dL_law_851 (by decide) ?_
      refine J_iadd dL_law_852 ?_
      obtain ⟨b191, hF⟩ := chk hF
      refine J_ialdX (v := Xs (ix (v3 + 2))) dL_law_853 (by rw [hNs]; exact inb_vp b191) (by rw [hXs]; rfl) ?_
      obtain ⟨r192, x193, h194, hF⟩ := ob2_some hF
      refine JX_callVi (As := [.int (Xs (ix (v3 + 1))), .int (Xs (ix (v3 + 2)))]) (S := []) lkV_WithOneHandLaw_96_X8_judge rfl (by decide) dL_law_854 c_5 (S_X8_judge (by omega) h194) (by omega) rfl rfl (Nat.le_of_ble_eq_true rfl) rfl ?_
      refine J_aload_n (j := 2) dL_law_857 rfl rfl ?_
      refine J_aload_n (j := 0) dL_law_858 rfl rfl ?_
      refine J_iload_n (j := 3) dL_law_859 rfl rfl ?_
      refine J_iconst (v := 1) dL_law_860 (by decide) ?_
      refine J_iadd dL_law_861 ?_
      refine J_ialdX (v := Xs (ix (v3 + 1))) dL_law_862 (by rw [hNs]; exact inb_vp b190) (by rw [hXs]; rfl) ?_
      refine J_aload_n (j := 0) dL_law_863 rfl rfl ?_
      refine J_iload_n (j := 3) dL_law_864 rfl rfl ?_
      refine J_iconst (v := 2) dL_law_865 (by decide) ?_
      refine J_iadd dL_law_866 ?_
      refine J_ialdX (v := Xs (ix (v3 + 2))) dL_law_867 (by rw [hNs]; exact inb_vp b191) (by rw [hXs]; rfl) ?_
      obtain ⟨r195, m196, h197, hF⟩ := ob2_some hF
      refine JM_callVi (As := [.int (Xs (ix (v3 + 1))), .int (Xs (ix (v3 + 2)))]) (S := [.int r192]) lkV_WithOneHandLaw_99_X9_judge rfl (by decide) dL_law_868 c_80 (S_X9_judge (by omega) h197) (by omega) rfl rfl (Nat.le_of_ble_eq_true rfl) rfl ?_
      refine J_icmp_eq (tgt := 1530) dL_law_871 (by decide) (fun q198 => ?_) (fun q198 => ?_)
      · rw [if_pos q198] at hF
        refine J_iinc (j := 3) (v := v3 + 6) (L' := [(3, .int (v3 + 6)), (0, .ref 4), (1, .ref 5), (2, .ref 80)]) dL_law_1530 rfl rfl (by decide) rfl ?_
        refine J_goto (tgt := 18) dL_law_1533 (by decide) ?_
        refine J_sub [1, 2, 3, 0] rfl ?_
        exact hK18 _ _ _ hF
      · rw [if_neg q198] at hF
        refine J_iconst (v := 0) dL_law_874 (by decide) ?_
        cases hF
    rw [if_neg q189] at hF
    refine J_sw (fun q199 => ?_) (fun q199 => ?_)
    · rw [if_pos q199] at hF
      refine J_aload_n (j := 1) dL_law_876 rfl rfl ?_
      refine J_aload_n (j := 0) dL_law_877 rfl rfl ?_
      refine J_iload_n (j := 3) dL_law_878 rfl rfl ?_
      refine J_iconst (v := 1) dL_law_879 (by decide) ?_
      refine J_iadd dL_law_880 ?_
      obtain ⟨b200, hF⟩ := chk hF
      refine J_ialdX (v := Xs (ix (v3 + 1))) dL_law_881 (by rw [hNs]; exact inb_vp b200) (by rw [hXs]; rfl) ?_
      refine J_aload_n (j := 0) dL_law_882 rfl rfl ?_
      refine J_iload_n (j := 3) dL_law_883 rfl rfl ?_
      refine J_iconst (v := 2) dL_law_884 (by decide) ?_
      refine J_iadd dL_law_885 ?_
      obtain ⟨b201, hF⟩ := chk hF
      refine J_ialdX (v := Xs (ix (v3 + 2))) dL_law_886 (by rw [hNs]; exact inb_vp b201) (by rw [hXs]; rfl) ?_
      obtain ⟨r202, x203, h204, hF⟩ := ob2_some hF
      refine JX_callVi (As := [.int (Xs (ix (v3 + 1))), .int (Xs (ix (v3 + 2)))]) (S := []) lkV_WithOneHandLaw_100_X8_which rfl (by decide) dL_law_887 c_5 (S_X8_which (by omega) h204) (by omega) rfl rfl (Nat.le_of_ble_eq_true rfl) rfl ?_
      refine J_aload_n (j := 2) dL_law_890 rfl rfl ?_
      refine J_aload_n (j := 0) dL_law_891 rfl rfl ?_
      refine J_iload_n (j := 3) dL_law_892 rfl rfl ?_
      refine J_iconst (v := 1) dL_law_893 (by decide) ?_
      refine J_iadd dL_law_894 ?_
      refine J_ialdX (v := Xs (ix (v3 + 1))) dL_law_895 (by rw [hNs]; exact inb_vp b200) (by rw [hXs]; rfl) ?_
      refine J_aload_n (j := 0) dL_law_896 rfl rfl ?_
      refine J_iload_n (j := 3) dL_law_897 rfl rfl ?_
      refine J_iconst (v := 2) dL_law_898 (by decide) ?_
      refine J_iadd dL_law_899 ?_
      refine J_ialdX (v := Xs (ix (v3 + 2))) dL_law_900 (by rw [hNs]; exact inb_vp b201) (by rw [hXs]; rfl) ?_
      obtain ⟨r205, m206, h207, hF⟩ := ob2_some hF
      refine JM_callVi (As := [.int (Xs (ix (v3 + 1))), .int (Xs (ix (v3 + 2)))]) (S := [.int r202]) lkV_WithOneHandLaw_103_X9_which rfl (by decide) dL_law_901 c_80 (S_X9_which (by omega) h207) (by omega) rfl rfl (Nat.le_of_ble_eq_true rfl) rfl ?_
      refine J_icmp_eq (tgt := 1530) dL_law_904 (by decide) (fun q208 => ?_) (fun q208 => ?_)
      · rw [if_pos q208] at hF
        refine J_iinc (j := 3) (v := v3 + 6) (L' := [(3, .int (v3 + 6)), (0, .ref 4), (1, .ref 5), (2, .ref 80)]) dL_law_1530 rfl rfl (by decide) rfl ?_
        refine J_goto (tgt := 18) dL_law_1533 (by decide) ?_
        refine J_sub [1, 2, 3, 0] rfl ?_
        exact hK18 _ _ _ hF
      · rw [if_neg q208] at hF
        refine J_iconst (v := 0) dL_law_907 (by decide) ?_
        cases hF
    rw [if_neg q199] at hF
    refine J_sw (fun q209 => ?_) (fun q209 => ?_)
    · rw [if_pos q209] at hF
      refine J_aload_n (j := 1) dL_law_909 rfl rfl ?_
      refine J_aload_n (j := 0) dL_law_910 rfl rfl ?_
      refine J_iload_n (j := 3) dL_law_911 rfl rfl ?_
      refine J_iconst (v := 1) dL_law_912 (by decide) ?_
      refine J_iadd dL_law_913 ?_
      obtain ⟨b210, hF⟩ := chk hF
      refine J_ialdX (v := Xs (ix (v3 + 1))) dL_law_914 (by rw [hNs]; exact inb_vp b210) (by rw [hXs]; rfl) ?_
      refine J_aload_n (j := 0) dL_law_915 rfl rfl ?_
      refine J_iload_n (j := 3) dL_law_916 rfl rfl ?_
      refine J_iconst (v := 2) dL_law_917 (by decide) ?_
      refine J_iadd dL_law_918 ?_
      obtain ⟨b211, hF⟩ := chk hF
      refine J_ialdX (v := Xs (ix (v3 + 2))) dL_law_919 (by rw [hNs]; exact inb_vp b211) (by rw [hXs]; rfl) ?_
      refine J_aload_n (j := 0) dL_law_920 rfl rfl ?_
      refine J_iload_n (j := 3) dL_law_921 rfl rfl ?_
      refine J_iconst (v := 3) dL_law_922 (by decide) ?_
      refine J_iadd dL_law_923 ?_
      obtain ⟨b212, hF⟩ := chk hF
      refine J_ialdX (v := Xs (ix (v3 + 3))) dL_law_924 (by rw [hNs]; exact inb_vp b212) (by rw [hXs]; rfl) ?_
      obtain ⟨r213, x214, h215, hF⟩ := ob2_some hF
      refine JX_callVi (As := [.int (Xs (ix (v3 + 1))), .int (Xs (ix (v3 + 2))), .int (Xs (ix (v3 + 3)))]) (S := []) lkV_WithOneHandLaw_104_X8_how rfl (by decide) dL_law_925 c_5 (S_X8_how (by omega) h215) (by omega) rfl rfl (Nat.le_of_ble_eq_true rfl) rfl ?_
      refine J_aload_n (j := 2) dL_law_928 rfl rfl ?_
      refine J_aload_n (j := 0) dL_law_929 rfl rfl ?_
      refine J_iload_n (j := 3) dL_law_930 rfl rfl ?_
      refine J_iconst (v := 1) dL_law_931 (by decide) ?_
      refine J_iadd dL_law_932 ?_
      refine J_ialdX (v := Xs (ix (v3 + 1))) dL_law_933 (by rw [hNs]; exact inb_vp b210) (by rw [hXs]; rfl) ?_
      refine J_aload_n (j := 0) dL_law_934 rfl rfl ?_
      refine J_iload_n (j := 3) dL_law_935 rfl rfl ?_
      refine J_iconst (v := 2) dL_law_936 (by decide) ?_
      refine J_iadd dL_law_937 ?_
      refine J_ialdX (v := Xs (ix (v3 + 2))) dL_law_938 (by rw [hNs]; exact inb_vp b211) (by rw [hXs]; rfl) ?_
      refine J_aload_n (j := 0) dL_law_939 rfl rfl ?_
      refine J_iload_n (j := 3) dL_law_940 rfl rfl ?_
      refine J_iconst (v := 3) dL_law_941 (by decide) ?_
      refine J_iadd dL_law_942 ?_
      refine J_ialdX (v := Xs (ix (v3 + 3))) dL_law_943 (by rw [hNs]; exact inb_vp b212) (by rw [hXs]; rfl) ?_
      obtain ⟨r216, m217, h218, hF⟩ := ob2_some hF
      refine JM_callVi (As := [.int (Xs (ix (v3 + 1))), .int (Xs (ix (v3 + 2))), .int (Xs (ix (v3 + 3)))]) (S := [.int r213]) lkV_WithOneHandLaw_107_X9_how rfl (by decide) dL_law_944 c_80 (S_X9_how (by omega) h218) (by omega) rfl rfl (Nat.le_of_ble_eq_true rfl) rfl ?_
      refine J_icmp_eq (tgt := 1530) dL_law_947 (by decide) (fun q219 => ?_) (fun q219 => ?_)
      · rw [if_pos q219] at hF
        refine J_iinc (j := 3) (v := v3 + 6) (L' := [(3, .int (v3 + 6)), (0, .ref 4), (1, .ref 5), (2, .ref 80)]) dL_law_1530 rfl rfl (by decide) rfl ?_
        refine J_goto (tgt := 18) dL_law_1533 (by decide) ?_
        refine J_sub [1, 2, 3, 0] rfl ?_
        exact hK18 _ _ _ hF
      · rw [if_neg q219] at hF
        refine J_iconst (v := 0) dL_law_950 (by decide) ?_
        cases hF
    rw [if_neg q209] at hF
    refine J_sw (fun q220 => ?_) (fun q220 => ?_)
    · rw [if_pos q220] at hF
      refine J_aload_n (j := 1) dL_law_952 rfl rfl ?_
      refine J_aload_n (j := 0) dL_law_953 rfl rfl ?_
      refine J_iload_n (j := 3) dL_law_954 rfl rfl ?_
      refine J_iconst (v := 1) dL_law_955 (by decide) ?_
      refine J_iadd dL_law_956 ?_
      obtain ⟨b221, hF⟩ := chk hF
      refine J_ialdX (v := Xs (ix (v3 + 1))) dL_law_957 (by rw [hNs]; exact inb_vp b221) (by rw [hXs]; rfl) ?_
      refine J_aload_n (j := 0) dL_law_958 rfl rfl ?_
      refine J_iload_n (j := 3) dL_law_959 rfl rfl ?_
      refine J_iconst (v := 2) dL_law_960 (by decide) ?_
      refine J_iadd dL_law_961 ?_
      obtain ⟨b222, hF⟩ := chk hF
      refine J_ialdX (v := Xs (ix (v3 + 2))) dL_law_962 (by rw [hNs]; exact inb_vp b222) (by rw [hXs]; rfl) ?_
      refine J_aload_n (j := 0) dL_law_963 rfl rfl ?_
      refine J_iload_n (j := 3) dL_law_964 rfl rfl ?_
      refine J_iconst (v := 3) dL_law_965 (by decide) ?_
      refine J_iadd dL_law_966 ?_
      obtain ⟨b223, hF⟩ := chk hF
      refine J_ialdX (v := Xs (ix (v3 + 3))) dL_law_967 (by rw [hNs]; exact inb_vp b223) (by rw [hXs]; rfl) ?_
      refine J_aload_n (j := 0) dL_law_968 rfl rfl ?_
      refine J_iload_n (j := 3) dL_law_969 rfl rfl ?_
      refine J_iconst (v := 4) dL_law_970 (by decide) ?_
      refine J_iadd dL_law_971 ?_
      obtain ⟨b224, hF⟩ := chk hF
      refine J_ialdX (v := Xs (ix (v3 + 4))) dL_law_972 (by rw [hNs]; exact inb_vp b224) (by rw [hXs]; rfl) ?_
      obtain ⟨r225, x226, h227, hF⟩ := ob2_some hF
      refine JX_callVi (As := [.int (Xs (ix (v3 + 1))), .int (Xs (ix (v3 + 2))), .int (Xs (ix (v3 + 3))), .int (Xs (ix (v3 + 4)))]) (S := []) lkV_WithOneHandLaw_108_X8_drawn rfl (by decide) dL_law_973 c_5 (S_X8_drawn (by omega) h227) (by omega) rfl rfl (Nat.le_of_ble_eq_true rfl) rfl ?_
      refine J_aload_n (j := 2) dL_law_976 rfl rfl ?_
      refine J_aload_n (j := 0) dL_law_977 rfl rfl ?_
      refine J_iload_n (j := 3) dL_law_978 rfl rfl ?_
      refine J_iconst (v := 1) dL_law_979 (by decide) ?_
      refine J_iadd dL_law_980 ?_
      refine J_ialdX (v := Xs (ix (v3 + 1))) dL_law_981 (by rw [hNs]; exact inb_vp b221) (by rw [hXs]; rfl) ?_
      refine J_aload_n (j := 0) dL_law_982 rfl rfl ?_
      refine J_iload_n (j := 3) dL_law_983 rfl rfl ?_
      refine J_iconst (v := 2) dL_law_984 (by decide) ?_
      refine J_iadd dL_law_985 ?_
      refine J_ialdX (v := Xs (ix (v3 + 2))) dL_law_986 (by rw [hNs]; exact inb_vp b222) (by rw [hXs]; rfl) ?_
      refine J_aload_n (j := 0) dL_law_987 rfl rfl ?_
      refine J_iload_n (j := 3) dL_law_988 rfl rfl ?_
      refine J_iconst (v := 3) dL_law_989 (by decide) ?_
      refine J_iadd dL_law_990 ?_
      refine J_ialdX (v := Xs (ix (v3 + 3))) dL_law_991 (by rw [hNs]; exact inb_vp b223) (by rw [hXs]; rfl) ?_
      refine J_aload_n (j := 0) dL_law_992 rfl rfl ?_
      refine J_iload_n (j := 3) dL_law_993 rfl rfl ?_
      refine J_iconst (v := 4) dL_law_994 (by decide) ?_
      refine J_iadd dL_law_995 ?_
      refine J_ialdX (v := Xs (ix (v3 + 4))) dL_law_996 (by rw [hNs]; exact inb_vp b224) (by rw [hXs]; rfl) ?_
      obtain ⟨r228, m229, h230, hF⟩ := ob2_some hF
      refine JM_callVi (As := [.int (Xs (ix (v3 + 1))), .int (Xs (ix (v3 + 2))), .int (Xs (ix (v3 + 3))), .int (Xs (ix (v3 + 4)))]) (S := [.int r225]) lkV_WithOneHandLaw_112_X9_drawn rfl (by decide) dL_law_997 c_80 (S_X9_drawn (by omega) h230) (by omega) rfl rfl (Nat.le_of_ble_eq_true rfl) rfl ?_
      refine J_icmp_eq (tgt := 1530) dL_law_1000 (by decide) (fun q231 => ?_) (fun q231 => ?_)
      · rw [if_pos q231] at hF
        refine J_iinc (j := 3) (v := v3 + 6) (L' := [(3, .int (v3 + 6)), (0, .ref 4), (1, .ref 5), (2, .ref 80)]) dL_law_1530 rfl rfl (by decide) rfl ?_
        refine J_goto (tgt := 18) dL_law_1533 (by decide) ?_
        refine J_sub [1, 2, 3, 0] rfl ?_
        exact hK18 _ _ _ hF
      · rw [if_neg q231] at hF
        refine J_iconst (v := 0) dL_law_1003 (by decide) ?_
        cases hF
    rw [if_neg q220] at hF
    refine J_sw (fun q232 => ?_) (fun q232 => ?_)
    · rw [if_pos q232] at hF
      refine J_aload_n (j := 1) dL_law_1005 rfl rfl ?_
      refine J_aload_n (j := 0) dL_law_1006 rfl rfl ?_
      refine J_iload_n (j := 3) dL_law_1007 rfl rfl ?_
      refine J_iconst (v := 1) dL_law_1008 (by decide) ?_
      refine J_iadd dL_law_1009 ?_
      obtain ⟨b233, hF⟩ := chk hF
      refine J_ialdX (v := Xs (ix (v3 + 1))) dL_law_1010 (by rw [hNs]; exact inb_vp b233) (by rw [hXs]; rfl) ?_
      obtain ⟨r234, x235, h236, hF⟩ := ob2_some hF
      refine JX_callVi (As := [.int (Xs (ix (v3 + 1)))]) (S := []) lkV_WithOneHandLaw_113_X8_puts rfl (by decide) dL_law_1011 c_5 (S_X8_puts (by omega) h236) (by omega) rfl rfl (Nat.le_of_ble_eq_true rfl) rfl ?_
      refine J_aload_n (j := 2) dL_law_1014 rfl rfl ?_
      refine J_aload_n (j := 0) dL_law_1015 rfl rfl ?_
      refine J_iload_n (j := 3) dL_law_1016 rfl rfl ?_
      refine J_iconst (v := 1) dL_law_1017 (by decide) ?_
      refine J_iadd dL_law_1018 ?_
      refine J_ialdX (v := Xs (ix (v3 + 1))) dL_law_1019 (by rw [hNs]; exact inb_vp b233) (by rw [hXs]; rfl) ?_
      obtain ⟨r237, m238, h239, hF⟩ := ob2_some hF
      refine JM_callVi (As := [.int (Xs (ix (v3 + 1)))]) (S := [.int r234]) lkV_WithOneHandLaw_116_X9_puts rfl (by decide) dL_law_1020 c_80 (S_X9_puts (by omega) h239) (by omega) rfl rfl (Nat.le_of_ble_eq_true rfl) rfl ?_
      refine J_icmp_eq (tgt := 1530) dL_law_1023 (by decide) (fun q240 => ?_) (fun q240 => ?_)
      · rw [if_pos q240] at hF
        refine J_iinc (j := 3) (v := v3 + 6) (L' := [(3, .int (v3 + 6)), (0, .ref 4), (1, .ref 5), (2, .ref 80)]) dL_law_1530 rfl rfl (by decide) rfl ?_
        refine J_goto (tgt := 18) dL_law_1533 (by decide) ?_
        refine J_sub [1, 2, 3, 0] rfl ?_
        exact hK18 _ _ _ hF
      · rw [if_neg q240] at hF
        refine J_iconst (v := 0) dL_law_1026 (by decide) ?_
        cases hF
    rw [if_neg q232] at hF
    refine J_sw (fun q241 => ?_) (fun q241 => ?_)
    · rw [if_pos q241] at hF
      refine J_aload_n (j := 1) dL_law_1028 rfl rfl ?_
      refine J_aload_n (j := 0) dL_law_1029 rfl rfl ?_
      refine J_iload_n (j := 3) dL_law_1030 rfl rfl ?_
      refine J_iconst (v := 1) dL_law_1031 (by decide) ?_
      refine J_iadd dL_law_1032 ?_
      obtain ⟨b242, hF⟩ := chk hF
      refine J_ialdX (v := Xs (ix (v3 + 1))) dL_law_1033 (by rw [hNs]; exact inb_vp b242) (by rw [hXs]; rfl) ?_
      obtain ⟨r243, x244, h245, hF⟩ := ob2_some hF
      refine JX_callVi (As := [.int (Xs (ix (v3 + 1)))]) (S := []) lkV_WithOneHandLaw_117_X8_out rfl (by decide) dL_law_1034 c_5 (S_X8_out (by omega) h245) (by omega) rfl rfl (Nat.le_of_ble_eq_true rfl) rfl ?_
      refine J_aload_n (j := 2) dL_law_1037 rfl rfl ?_
      refine J_aload_n (j := 0) dL_law_1038 rfl rfl ?_
      refine J_iload_n (j := 3) dL_law_1039 rfl rfl ?_
      refine J_iconst (v := 1) dL_law_1040 (by decide) ?_
      refine J_iadd dL_law_1041 ?_
      refine J_ialdX (v := Xs (ix (v3 + 1))) dL_law_1042 (by rw [hNs]; exact inb_vp b242) (by rw [hXs]; rfl) ?_
      obtain ⟨r246, m247, h248, hF⟩ := ob2_some hF
      refine JM_callVi (As := [.int (Xs (ix (v3 + 1)))]) (S := [.int r243]) lkV_WithOneHandLaw_120_X9_out rfl (by decide) dL_law_1043 c_80 (S_X9_out (by omega) h248) (by omega) rfl rfl (Nat.le_of_ble_eq_true rfl) rfl ?_
      refine J_icmp_eq (tgt := 1530) dL_law_1046 (by decide) (fun q249 => ?_) (fun q249 => ?_)
      · rw [if_pos q249] at hF
        refine J_iinc (j := 3) (v := v3 + 6) (L' := [(3, .int (v3 + 6)), (0, .ref 4), (1, .ref 5), (2, .ref 80)]) dL_law_1530 rfl rfl (by decide) rfl ?_
        refine J_goto (tgt := 18) dL_law_1533 (by decide) ?_
        refine J_sub [1, 2, 3, 0] rfl ?_
        exact hK18 _ _ _ hF
      · rw [if_neg q249] at hF
        refine J_iconst (v := 0) dL_law_1049 (by decide) ?_
        cases hF
    rw [if_neg q241] at hF
    refine J_sw (fun q250 => ?_) (fun q250 => ?_)
    · rw [if_pos q250] at hF
      refine J_aload_n (j := 1) dL_law_1051 rfl rfl ?_
      obtain ⟨r251, x252, h253, hF⟩ := ob2_some hF
      refine JX_callVi (As := []) (S := []) lkV_WithOneHandLaw_121_X8_night rfl (by decide) dL_law_1052 c_5 (S_X8_night (by omega) h253) (by omega) rfl rfl (Nat.le_of_ble_eq_true rfl) rfl ?_
      refine J_aload_n (j := 2) dL_law_1055 rfl rfl ?_
      obtain ⟨r254, m255, h256, hF⟩ := ob2_some hF
      refine JM_callVi (As := []) (S := [.int r251]) lkV_WithOneHandLaw_124_X9_night rfl (by decide) dL_law_1056 c_80 (S_X9_night (by omega) h256) (by omega) rfl rfl (Nat.le_of_ble_eq_true rfl) rfl ?_
      refine J_icmp_eq (tgt := 1530) dL_law_1059 (by decide) (fun q257 => ?_) (fun q257 => ?_)
      · rw [if_pos q257] at hF
        refine J_iinc (j := 3) (v := v3 + 6) (L' := [(3, .int (v3 + 6)), (0, .ref 4), (1, .ref 5), (2, .ref 80)]) dL_law_1530 rfl rfl (by decide) rfl ?_
        refine J_goto (tgt := 18) dL_law_1533 (by decide) ?_
        refine J_sub [1, 2, 3, 0] rfl ?_
        exact hK18 _ _ _ hF
      · rw [if_neg q257] at hF
        refine J_iconst (v := 0) dL_law_1062 (by decide) ?_
        cases hF
    rw [if_neg q250] at hF
    refine J_sw (fun q258 => ?_) (fun q258 => ?_)
    · rw [if_pos q258] at hF
      refine J_aload_n (j := 1) dL_law_1064 rfl rfl ?_
      refine J_aload_n (j := 0) dL_law_1065 rfl rfl ?_
      refine J_iload_n (j := 3) dL_law_1066 rfl rfl ?_
      refine J_iconst (v := 1) dL_law_1067 (by decide) ?_
      refine J_iadd dL_law_1068 ?_
      obtain ⟨b259, hF⟩ := chk hF
      refine J_ialdX (v := Xs (ix (v3 + 1))) dL_law_1069 (by rw [hNs]; exact inb_vp b259) (by rw [hXs]; rfl) ?_
      obtain ⟨r260, h261, hF⟩ := ob_some hF
      refine JX_callVi (As := [.int (Xs (ix (v3 + 1)))]) (S := []) lkV_WithOneHandLaw_125_X8_led rfl (by decide) dL_law_1070 c_5 (S_X8_led (by omega) h261) (by omega) rfl rfl (Nat.le_of_ble_eq_true rfl) rfl ?_
      refine J_aload_n (j := 2) dL_law_1073 rfl rfl ?_
      refine J_aload_n (j := 0) dL_law_1074 rfl rfl ?_
      refine J_iload_n (j := 3) dL_law_1075 rfl rfl ?_
      refine J_iconst (v := 1) dL_law_1076 (by decide) ?_
      refine J_iadd dL_law_1077 ?_
      refine J_ialdX (v := Xs (ix (v3 + 1))) dL_law_1078 (by rw [hNs]; exact inb_vp b259) (by rw [hXs]; rfl) ?_
      refine JM_callVi (As := [.int (Xs (ix (v3 + 1)))]) (S := [.int r260]) lkV_WithOneHandLaw_128_X9_led rfl (by decide) dL_law_1079 c_80 (S_X9_led (by omega) rfl) (by omega) rfl rfl (Nat.le_of_ble_eq_true rfl) rfl ?_
      refine J_icmp_eq (tgt := 1530) dL_law_1082 (by decide) (fun q262 => ?_) (fun q262 => ?_)
      · rw [if_pos q262] at hF
        refine J_iinc (j := 3) (v := v3 + 6) (L' := [(3, .int (v3 + 6)), (0, .ref 4), (1, .ref 5), (2, .ref 80)]) dL_law_1530 rfl rfl (by decide) rfl ?_
        refine J_goto (tgt := 18) dL_law_1533 (by decide) ?_
        refine J_sub [1, 2, 3, 0] rfl ?_
        exact hK18 _ _ _ hF
      · rw [if_neg q262] at hF
        refine J_iconst (v := 0) dL_law_1085 (by decide) ?_
        cases hF
    rw [if_neg q258] at hF
    refine J_sw (fun q263 => ?_) (fun q263 => ?_)
    · rw [if_pos q263] at hF
      refine J_aload_n (j := 1) dL_law_1087 rfl rfl ?_
      obtain ⟨r264, x265, h266, hF⟩ := ob2_some hF
      refine JX_callVi (As := []) (S := []) lkV_WithOneHandLaw_129_X8_image rfl (by decide) dL_law_1088 c_5 (S_X8_image (by omega) h266) (by omega) rfl rfl (Nat.le_of_ble_eq_true rfl) rfl ?_
      refine J_aload_n (j := 2) dL_law_1091 rfl rfl ?_
      obtain ⟨r267, m268, h269, hF⟩ := ob2_some hF
      refine JM_callVi (As := []) (S := [.int r264]) lkV_WithOneHandLaw_132_X9_image rfl (by decide) dL_law_1092 c_80 (S_X9_image (by omega) h269) (by omega) rfl rfl (Nat.le_of_ble_eq_true rfl) rfl ?_
      refine J_icmp_eq (tgt := 1530) dL_law_1095 (by decide) (fun q270 => ?_) (fun q270 => ?_)
      · rw [if_pos q270] at hF
        refine J_iinc (j := 3) (v := v3 + 6) (L' := [(3, .int (v3 + 6)), (0, .ref 4), (1, .ref 5), (2, .ref 80)]) dL_law_1530 rfl rfl (by decide) rfl ?_
        refine J_goto (tgt := 18) dL_law_1533 (by decide) ?_
        refine J_sub [1, 2, 3, 0] rfl ?_
        exact hK18 _ _ _ hF
      · rw [if_neg q270] at hF
        refine J_iconst (v := 0) dL_law_1098 (by decide) ?_
        cases hF
    rw [if_neg q263] at hF
    refine J_sw (fun q271 => ?_) (fun q271 => ?_)
    · rw [if_pos q271] at hF
      refine J_aload_n (j := 1) dL_law_1100 rfl rfl ?_
      obtain ⟨r272, x273, h274, hF⟩ := ob2_some hF
      refine JX_callVi (As := []) (S := []) lkV_WithOneHandLaw_133_X8_back rfl (by decide) dL_law_1101 c_5 (S_X8_back (by omega) h274) (by omega) rfl rfl (Nat.le_of_ble_eq_true rfl) rfl ?_
      refine J_aload_n (j := 2) dL_law_1104 rfl rfl ?_
      obtain ⟨r275, m276, h277, hF⟩ := ob2_some hF
      refine JM_callVi (As := []) (S := [.int r272]) lkV_WithOneHandLaw_136_X9_back rfl (by decide) dL_law_1105 c_80 (S_X9_back (by omega) h277) (by omega) rfl rfl (Nat.le_of_ble_eq_true rfl) rfl ?_
      refine J_icmp_eq (tgt := 1530) dL_law_1108 (by decide) (fun q278 => ?_) (fun q278 => ?_)
      · rw [if_pos q278] at hF
        refine J_iinc (j := 3) (v := v3 + 6) (L' := [(3, .int (v3 + 6)), (0, .ref 4), (1, .ref 5), (2, .ref 80)]) dL_law_1530 rfl rfl (by decide) rfl ?_
        refine J_goto (tgt := 18) dL_law_1533 (by decide) ?_
        refine J_sub [1, 2, 3, 0] rfl ?_
        exact hK18 _ _ _ hF
      · rw [if_neg q278] at hF
        refine J_iconst (v := 0) dL_law_1111 (by decide) ?_
        cases hF
    rw [if_neg q271] at hF
    refine J_sw (fun q279 => ?_) (fun q279 => ?_)
    · rw [if_pos q279] at hF
      refine J_aload_n (j := 1) dL_law_1113 rfl rfl ?_
      obtain ⟨r280, x281, h282, hF⟩ := ob2_some hF
      refine JX_callVi (As := []) (S := []) lkV_WithOneHandLaw_137_X8_undo rfl (by decide) dL_law_1114 c_5 (S_X8_undo (by omega) h282) (by omega) rfl rfl (Nat.le_of_ble_eq_true rfl) rfl ?_
      refine J_aload_n (j := 2) dL_law_1117 rfl rfl ?_
      obtain ⟨r283, m284, h285, hF⟩ := ob2_some hF
      refine JM_callVi (As := []) (S := [.int r280]) lkV_WithOneHandLaw_140_X9_undo rfl (by decide) dL_law_1118 c_80 (S_X9_undo (by omega) h285) (by omega) rfl rfl (Nat.le_of_ble_eq_true rfl) rfl ?_
      refine J_icmp_eq (tgt := 1530) dL_law_1121 (by decide) (fun q286 => ?_) (fun q286 => ?_)
      · rw [if_pos q286] at hF
        refine J_iinc (j := 3) (v := v3 + 6) (L' := [(3, .int (v3 + 6)), (0, .ref 4), (1, .ref 5), (2, .ref 80)]) dL_law_1530 rfl rfl (by decide) rfl ?_
        refine J_goto (tgt := 18) dL_law_1533 (by decide) ?_
        refine J_sub [1, 2, 3, 0] rfl ?_
        exact hK18 _ _ _ hF
      · rw [if_neg q286] at hF
        refine J_iconst (v := 0) dL_law_1124 (by decide) ?_
        cases hF
    rw [if_neg q279] at hF
    refine J_sw (fun q287 => ?_) (fun q287 => ?_)
    · rw [if_pos q287] at hF
      refine J_aload_n (j := 1) dL_law_1126 rfl rfl ?_
      obtain ⟨r288, x289, h290, hF⟩ := ob2_some hF
      refine JX_callVi (As := []) (S := []) lkV_WithOneHandLaw_141_X8_redo rfl (by decide) dL_law_1127 c_5 (S_X8_redo (by omega) h290) (by omega) rfl rfl (Nat.le_of_ble_eq_true rfl) rfl ?_
      refine J_aload_n (j := 2) dL_law_1130 rfl rfl ?_
      obtain ⟨r291, m292, h293, hF⟩ := ob2_some hF
      refine JM_callVi (As := []) (S := [.int r288]) lkV_WithOneHandLaw_144_X9_redo rfl (by decide) dL_law_1131 c_80 (S_X9_redo (by omega) h293) (by omega) rfl rfl (Nat.le_of_ble_eq_true rfl) rfl ?_
      refine J_icmp_eq (tgt := 1530) dL_law_1134 (by decide) (fun q294 => ?_) (fun q294 => ?_)
      · rw [if_pos q294] at hF
        refine J_iinc (j := 3) (v := v3 + 6) (L' := [(3, .int (v3 + 6)), (0, .ref 4), (1, .ref 5), (2, .ref 80)]) dL_law_1530 rfl rfl (by decide) rfl ?_
        refine J_goto (tgt := 18) dL_law_1533 (by decide) ?_
        refine J_sub [1, 2, 3, 0] rfl ?_
        exact hK18 _ _ _ hF
      · rw [if_neg q294] at hF
        refine J_iconst (v := 0) dL_law_1137 (by decide) ?_
        cases hF
    rw [if_neg q287] at hF
    refine J_sw (fun q295 => ?_) (fun q295 => ?_)
    · rw [if_pos q295] at hF
      refine J_aload_n (j := 1) dL_law_1139 rfl rfl ?_
      refine J_aload_n (j := 0) dL_law_1140 rfl rfl ?_
      refine J_iload_n (j := 3) dL_law_1141 rfl rfl ?_
      refine J_iconst (v := 1) dL_law_1142 (by decide) ?_
      refine J_iadd dL_law_1143 ?_
      obtain ⟨b296, hF⟩ := chk hF
      refine J_ialdX (v := Xs (ix (v3 + 1))) dL_law_1144 (by rw [hNs]; exact inb_vp b296) (by rw [hXs]; rfl) ?_
      obtain ⟨r297, x298, h299, hF⟩ := ob2_some hF
      refine JX_callVi (As := [.int (Xs (ix (v3 + 1)))]) (S := []) lkV_WithOneHandLaw_145_X8_body rfl (by decide) dL_law_1145 c_5 (S_X8_body (by omega) h299) (by omega) rfl rfl (Nat.le_of_ble_eq_true rfl) rfl ?_
      refine J_aload_n (j := 2) dL_law_1148 rfl rfl ?_
      refine J_aload_n (j := 0) dL_law_1149 rfl rfl ?_
      refine J_iload_n (j := 3) dL_law_1150 rfl rfl ?_
      refine J_iconst (v := 1) dL_law_1151 (by decide) ?_
      refine J_iadd dL_law_1152 ?_
      refine J_ialdX (v := Xs (ix (v3 + 1))) dL_law_1153 (by rw [hNs]; exact inb_vp b296) (by rw [hXs]; rfl) ?_
      obtain ⟨r300, m301, h302, hF⟩ := ob2_some hF
      refine JM_callVi (As := [.int (Xs (ix (v3 + 1)))]) (S := [.int r297]) lkV_WithOneHandLaw_148_X9_body rfl (by decide) dL_law_1154 c_80 (S_X9_body (by omega) h302) (by omega) rfl rfl (Nat.le_of_ble_eq_true rfl) rfl ?_
      refine J_icmp_eq (tgt := 1530) dL_law_1157 (by decide) (fun q303 => ?_) (fun q303 => ?_)
      · rw [if_pos q303] at hF
        refine J_iinc (j := 3) (v := v3 + 6) (L' := [(3, .int (v3 + 6)), (0, .ref 4), (1, .ref 5), (2, .ref 80)]) dL_law_1530 rfl rfl (by decide) rfl ?_
        refine J_goto (tgt := 18) dL_law_1533 (by decide) ?_
        refine J_sub [1, 2, 3, 0] rfl ?_
        exact hK18 _ _ _ hF
      · rw [if_neg q303] at hF
        refine J_iconst (v := 0) dL_law_1160 (by decide) ?_
        cases hF
    rw [if_neg q295] at hF
    refine J_sw (fun q304 => ?_) (fun q304 => ?_)
    · rw [if_pos q304] at hF
      refine J_aload_n (j := 1) dL_law_1162 rfl rfl ?_
      refine J_aload_n (j := 0) dL_law_1163 rfl rfl ?_
      refine J_iload_n (j := 3) dL_law_1164 rfl rfl ?_
      refine J_iconst (v := 1) dL_law_1165 (by decide) ?_
      refine J_iadd dL_law_1166 ?_
      obtain ⟨b305, hF⟩ := chk hF
      refine J_ialdX (v := Xs (ix (v3 + 1))) dL_law_1167 (by rw [hNs]; exact inb_vp b305) (by rw [hXs]; rfl) ?_
      refine J_aload_n (j := 0) dL_law_1168 rfl rfl ?_
      refine J_iload_n (j := 3) dL_law_1169 rfl rfl ?_
      refine J_iconst (v := 2) dL_law_1170 (by decide) ?_
      refine J_iadd dL_law_1171 ?_
      obtain ⟨b306, hF⟩ := chk hF
      refine J_ialdX (v := Xs (ix (v3 + 2))) dL_law_1172 (by rw [hNs]; exact inb_vp b306) (by rw [hXs]; rfl) ?_
      refine J_aload_n (j := 0) dL_law_1173 rfl rfl ?_
      refine J_iload_n (j := 3) dL_law_1174 rfl rfl ?_
      refine J_iconst (v := 3) dL_law_1175 (by decide) ?_
      refine J_iadd dL_law_1176 ?_
      obtain ⟨b307, hF⟩ := chk hF
      refine J_ialdX (v := Xs (ix (v3 + 3))) dL_law_1177 (by rw [hNs]; exact inb_vp b307) (by rw [hXs]; rfl) ?_
      obtain ⟨r308, x309, h310, hF⟩ := ob2_some hF
      refine JX_callVi (As := [.int (Xs (ix (v3 + 1))), .int (Xs (ix (v3 + 2))), .int (Xs (ix (v3 + 3)))]) (S := []) lkV_WithOneHandLaw_149_X8_act rfl (by decide) dL_law_1178 c_5 (S_X8_act (by omega) h310) (by omega) rfl rfl (Nat.le_of_ble_eq_true rfl) rfl ?_
      refine J_aload_n (j := 2) dL_law_1181 rfl rfl ?_
      refine J_aload_n (j := 0) dL_law_1182 rfl rfl ?_
      refine J_iload_n (j := 3) dL_law_1183 rfl rfl ?_
      refine J_iconst (v := 1) dL_law_1184 (by decide) ?_
      refine J_iadd dL_law_1185 ?_
      refine J_ialdX (v := Xs (ix (v3 + 1))) dL_law_1186 (by rw [hNs]; exact inb_vp b305) (by rw [hXs]; rfl) ?_
      refine J_aload_n (j := 0) dL_law_1187 rfl rfl ?_
      refine J_iload_n (j := 3) dL_law_1188 rfl rfl ?_
      refine J_iconst (v := 2) dL_law_1189 (by decide) ?_
      refine J_iadd dL_law_1190 ?_
      refine J_ialdX (v := Xs (ix (v3 + 2))) dL_law_1191 (by rw [hNs]; exact inb_vp b306) (by rw [hXs]; rfl) ?_
      refine J_aload_n (j := 0) dL_law_1192 rfl rfl ?_
      refine J_iload_n (j := 3) dL_law_1193 rfl rfl ?_
      refine J_iconst (v := 3) dL_law_1194 (by decide) ?_
      refine J_iadd dL_law_1195 ?_
      refine J_ialdX (v := Xs (ix (v3 + 3))) dL_law_1196 (by rw [hNs]; exact inb_vp b307) (by rw [hXs]; rfl) ?_
      obtain ⟨r311, m312, h313, hF⟩ := ob2_some hF
      refine JM_callVi (As := [.int (Xs (ix (v3 + 1))), .int (Xs (ix (v3 + 2))), .int (Xs (ix (v3 + 3)))]) (S := [.int r308]) lkV_WithOneHandLaw_152_X9_act rfl (by decide) dL_law_1197 c_80 (S_X9_act (by omega) h313) (by omega) rfl rfl (Nat.le_of_ble_eq_true rfl) rfl ?_
      refine J_icmp_eq (tgt := 1530) dL_law_1200 (by decide) (fun q314 => ?_) (fun q314 => ?_)
      · rw [if_pos q314] at hF
        refine J_iinc (j := 3) (v := v3 + 6) (L' := [(3, .int (v3 + 6)), (0, .ref 4), (1, .ref 5), (2, .ref 80)]) dL_law_1530 rfl rfl (by decide) rfl ?_
        refine J_goto (tgt := 18) dL_law_1533 (by decide) ?_
        refine J_sub [1, 2, 3, 0] rfl ?_
        exact hK18 _ _ _ hF
      · rw [if_neg q314] at hF
        refine J_iconst (v := 0) dL_law_1203 (by decide) ?_
        cases hF
    rw [if_neg q304] at hF
    refine J_sw (fun q315 => ?_) (fun q315 => ?_)
    · rw [if_pos q315] at hF
      refine J_aload_n (j := 1) dL_law_1205 rfl rfl ?_
      refine J_aload_n (j := 0) dL_law_1206 rfl rfl ?_
      refine J_iload_n (j := 3) dL_law_1207 rfl rfl ?_
      refine J_iconst (v := 1) dL_law_1208 (by decide) ?_
      refine J_iadd dL_law_1209 ?_
      obtain ⟨b316, hF⟩ := chk hF
      refine J_ialdX (v := Xs (ix (v3 + 1))) dL_law_1210 (by rw [hNs]; exact inb_vp b316) (by rw [hXs]; rfl) ?_
      obtain ⟨r317, h318, hF⟩ := ob_some hF
      refine JX_callVi (As := [.int (Xs (ix (v3 + 1)))]) (S := []) lkV_WithOneHandLaw_153_X8_trace rfl (by decide) dL_law_1211 c_5 (S_X8_trace (by omega) h318) (by omega) rfl rfl (Nat.le_of_ble_eq_true rfl) rfl ?_
      refine J_aload_n (j := 2) dL_law_1214 rfl rfl ?_
      refine J_aload_n (j := 0) dL_law_1215 rfl rfl ?_
      refine J_iload_n (j := 3) dL_law_1216 rfl rfl ?_
      refine J_iconst (v := 1) dL_law_1217 (by decide) ?_
      refine J_iadd dL_law_1218 ?_
      refine J_ialdX (v := Xs (ix (v3 + 1))) dL_law_1219 (by rw [hNs]; exact inb_vp b316) (by rw [hXs]; rfl) ?_
      obtain ⟨r319, h320, hF⟩ := ob_some hF
      refine JM_callVi (As := [.int (Xs (ix (v3 + 1)))]) (S := [.int r317]) lkV_WithOneHandLaw_156_X9_trace rfl (by decide) dL_law_1220 c_80 (S_X9_trace (by omega) h320) (by omega) rfl rfl (Nat.le_of_ble_eq_true rfl) rfl ?_
      refine J_icmp_eq (tgt := 1530) dL_law_1223 (by decide) (fun q321 => ?_) (fun q321 => ?_)
      · rw [if_pos q321] at hF
        refine J_iinc (j := 3) (v := v3 + 6) (L' := [(3, .int (v3 + 6)), (0, .ref 4), (1, .ref 5), (2, .ref 80)]) dL_law_1530 rfl rfl (by decide) rfl ?_
        refine J_goto (tgt := 18) dL_law_1533 (by decide) ?_
        refine J_sub [1, 2, 3, 0] rfl ?_
        exact hK18 _ _ _ hF
      · rw [if_neg q321] at hF
        refine J_iconst (v := 0) dL_law_1226 (by decide) ?_
        cases hF
    rw [if_neg q315] at hF
    refine J_sw (fun q322 => ?_) (fun q322 => ?_)
    · rw [if_pos q322] at hF
      refine J_aload_n (j := 1) dL_law_1228 rfl rfl ?_
      refine J_aload_n (j := 0) dL_law_1229 rfl rfl ?_
      refine J_iload_n (j := 3) dL_law_1230 rfl rfl ?_
      refine J_iconst (v := 1) dL_law_1231 (by decide) ?_
      refine J_iadd dL_law_1232 ?_
      obtain ⟨b323, hF⟩ := chk hF
      refine J_ialdX (v := Xs (ix (v3 + 1))) dL_law_1233 (by rw [hNs]; exact inb_vp b323) (by rw [hXs]; rfl) ?_
      refine J_aload_n (j := 0) dL_law_1234 rfl rfl ?_
      refine J_iload_n (j := 3) dL_law_1235 rfl rfl ?_
      refine J_iconst (v := 2) dL_law_1236 (by decide) ?_
      refine J_iadd dL_law_1237 ?_
      obtain ⟨b324, hF⟩ := chk hF
      refine J_ialdX (v := Xs (ix (v3 + 2))) dL_law_1238 (by rw [hNs]; exact inb_vp b324) (by rw [hXs]; rfl) ?_
      obtain ⟨r325, x326, h327, hF⟩ := ob2_some hF
      refine JX_callVi (As := [.int (Xs (ix (v3 + 1))), .int (Xs (ix (v3 + 2)))]) (S := []) lkV_WithOneHandLaw_157_X8_keep rfl (by decide) dL_law_1239 c_5 (S_X8_keep (by omega) h327) (by omega) rfl rfl (Nat.le_of_ble_eq_true rfl) rfl ?_
      refine J_aload_n (j := 2) dL_law_1242 rfl rfl ?_
      refine J_aload_n (j := 0) dL_law_1243 rfl rfl ?_
      refine J_iload_n (j := 3) dL_law_1244 rfl rfl ?_
      refine J_iconst (v := 1) dL_law_1245 (by decide) ?_
      refine J_iadd dL_law_1246 ?_
      refine J_ialdX (v := Xs (ix (v3 + 1))) dL_law_1247 (by rw [hNs]; exact inb_vp b323) (by rw [hXs]; rfl) ?_
      refine J_aload_n (j := 0) dL_law_1248 rfl rfl ?_
      refine J_iload_n (j := 3) dL_law_1249 rfl rfl ?_
      refine J_iconst (v := 2) dL_law_1250 (by decide) ?_
      refine J_iadd dL_law_1251 ?_
      refine J_ialdX (v := Xs (ix (v3 + 2))) dL_law_1252 (by rw [hNs]; exact inb_vp b324) (by rw [hXs]; rfl) ?_
      obtain ⟨r328, m329, h330, hF⟩ := ob2_some hF
      refine JM_callVi (As := [.int (Xs (ix (v3 + 1))), .int (Xs (ix (v3 + 2)))]) (S := [.int r325]) lkV_WithOneHandLaw_160_X9_keep rfl (by decide) dL_law_1253 c_80 (S_X9_keep (by omega) h330) (by omega) rfl rfl (Nat.le_of_ble_eq_true rfl) rfl ?_
      refine J_icmp_eq (tgt := 1530) dL_law_1256 (by decide) (fun q331 => ?_) (fun q331 => ?_)
      · rw [if_pos q331] at hF
        refine J_iinc (j := 3) (v := v3 + 6) (L' := [(3, .int (v3 + 6)), (0, .ref 4), (1, .ref 5), (2, .ref 80)]) dL_law_1530 rfl rfl (by decide) rfl ?_
        refine J_goto (tgt := 18) dL_law_1533 (by decide) ?_
        refine J_sub [1, 2, 3, 0] rfl ?_
        exact hK18 _ _ _ hF
      · rw [if_neg q331] at hF
        refine J_iconst (v := 0) dL_law_1259 (by decide) ?_
        cases hF
    rw [if_neg q322] at hF
    refine J_sw (fun q332 => ?_) (fun q332 => ?_)
    · rw [if_pos q332] at hF
      refine J_aload_n (j := 1) dL_law_1261 rfl rfl ?_
      refine J_aload_n (j := 0) dL_law_1262 rfl rfl ?_
      refine J_iload_n (j := 3) dL_law_1263 rfl rfl ?_
      refine J_iconst (v := 1) dL_law_1264 (by decide) ?_
      refine J_iadd dL_law_1265 ?_
      obtain ⟨b333, hF⟩ := chk hF
      refine J_ialdX (v := Xs (ix (v3 + 1))) dL_law_1266 (by rw [hNs]; exact inb_vp b333) (by rw [hXs]; rfl) ?_
      refine J_aload_n (j := 0) dL_law_1267 rfl rfl ?_
      refine J_iload_n (j := 3) dL_law_1268 rfl rfl ?_
      refine J_iconst (v := 2) dL_law_1269 (by decide) ?_
      refine J_iadd dL_law_1270 ?_
      obtain ⟨b334, hF⟩ := chk hF
      refine J_ialdX (v := Xs (ix (v3 + 2))) dL_law_1271 (by rw [hNs]; exact inb_vp b334) (by rw [hXs]; rfl) ?_
      refine J_aload_n (j := 0) dL_law_1272 rfl rfl ?_
      refine J_iload_n (j := 3) dL_law_1273 rfl rfl ?_
      refine J_iconst (v := 3) dL_law_1274 (by decide) ?_
      refine J_iadd dL_law_1275 ?_
      obtain ⟨b335, hF⟩ := chk hF
      refine J_ialdX (v := Xs (ix (v3 + 3))) dL_law_1276 (by rw [hNs]; exact inb_vp b335) (by rw [hXs]; rfl) ?_
      obtain ⟨r336, x337, h338, hF⟩ := ob2_some hF
      refine JX_callVi (As := [.int (Xs (ix (v3 + 1))), .int (Xs (ix (v3 + 2))), .int (Xs (ix (v3 + 3)))]) (S := []) lkV_WithOneHandLaw_161_X8_row rfl (by decide) dL_law_1277 c_5 (S_X8_row (by omega) h338) (by omega) rfl rfl (Nat.le_of_ble_eq_true rfl) rfl ?_
      refine J_aload_n (j := 2) dL_law_1280 rfl rfl ?_
      refine J_aload_n (j := 0) dL_law_1281 rfl rfl ?_
      refine J_iload_n (j := 3) dL_law_1282 rfl rfl ?_
      refine J_iconst (v := 1) dL_law_1283 (by decide) ?_
      refine J_iadd dL_law_1284 ?_
      refine J_ialdX (v := Xs (ix (v3 + 1))) dL_law_1285 (by rw [hNs]; exact inb_vp b333) (by rw [hXs]; rfl) ?_
      refine J_aload_n (j := 0) dL_law_1286 rfl rfl ?_
      refine J_iload_n (j := 3) dL_law_1287 rfl rfl ?_
      refine J_iconst (v := 2) dL_law_1288 (by decide) ?_
      refine J_iadd dL_law_1289 ?_
      refine J_ialdX (v := Xs (ix (v3 + 2))) dL_law_1290 (by rw [hNs]; exact inb_vp b334) (by rw [hXs]; rfl) ?_
      refine J_aload_n (j := 0) dL_law_1291 rfl rfl ?_
      refine J_iload_n (j := 3) dL_law_1292 rfl rfl ?_
      refine J_iconst (v := 3) dL_law_1293 (by decide) ?_
      refine J_iadd dL_law_1294 ?_
      refine J_ialdX (v := Xs (ix (v3 + 3))) dL_law_1295 (by rw [hNs]; exact inb_vp b335) (by rw [hXs]; rfl) ?_
      obtain ⟨r339, m340, h341, hF⟩ := ob2_some hF
      refine JM_callVi (As := [.int (Xs (ix (v3 + 1))), .int (Xs (ix (v3 + 2))), .int (Xs (ix (v3 + 3)))]) (S := [.int r336]) lkV_WithOneHandLaw_164_X9_row rfl (by decide) dL_law_1296 c_80 (S_X9_row (by omega) h341) (by omega) rfl rfl (Nat.le_of_ble_eq_true rfl) rfl ?_
      refine J_icmp_eq (tgt := 1530) dL_law_1299 (by decide) (fun q342 => ?_) (fun q342 => ?_)
      · rw [if_pos q342] at hF
        refine J_iinc (j := 3) (v := v3 + 6) (L' := [(3, .int (v3 + 6)), (0, .ref 4), (1, .ref 5), (2, .ref 80)]) dL_law_1530 rfl rfl (by decide) rfl ?_
        refine J_goto (tgt := 18) dL_law_1533 (by decide) ?_
        refine J_sub [1, 2, 3, 0] rfl ?_
        exact hK18 _ _ _ hF
      · rw [if_neg q342] at hF
        refine J_iconst (v := 0) dL_law_1302 (by decide) ?_
        cases hF
    rw [if_neg q332] at hF
    refine J_sw (fun q343 => ?_) (fun q343 => ?_)
    · rw [if_pos q343] at hF
      refine J_aload_n (j := 1) dL_law_1304 rfl rfl ?_
      refine J_aload_n (j := 0) dL_law_1305 rfl rfl ?_
      refine J_iload_n (j := 3) dL_law_1306 rfl rfl ?_
      refine J_iconst (v := 1) dL_law_1307 (by decide) ?_
      refine J_iadd dL_law_1308 ?_
      obtain ⟨b344, hF⟩ := chk hF
      refine J_ialdX (v := Xs (ix (v3 + 1))) dL_law_1309 (by rw [hNs]; exact inb_vp b344) (by rw [hXs]; rfl) ?_
      refine J_aload_n (j := 0) dL_law_1310 rfl rfl ?_
      refine J_iload_n (j := 3) dL_law_1311 rfl rfl ?_
      refine J_iconst (v := 2) dL_law_1312 (by decide) ?_
      refine J_iadd dL_law_1313 ?_
      obtain ⟨b345, hF⟩ := chk hF
      refine J_ialdX (v := Xs (ix (v3 + 2))) dL_law_1314 (by rw [hNs]; exact inb_vp b345) (by rw [hXs]; rfl) ?_
      refine J_aload_n (j := 0) dL_law_1315 rfl rfl ?_
      refine J_iload_n (j := 3) dL_law_1316 rfl rfl ?_
      refine J_iconst (v := 3) dL_law_1317 (by decide) ?_
      refine J_iadd dL_law_1318 ?_
      obtain ⟨b346, hF⟩ := chk hF
      refine J_ialdX (v := Xs (ix (v3 + 3))) dL_law_1319 (by rw [hNs]; exact inb_vp b346) (by rw [hXs]; rfl) ?_
      refine J_i2l dL_law_1320 ?_
      refine J_bipush (v := 32) dL_law_1321 (by decide) ?_
      refine J_lshl dL_law_1323 ?_
      refine J_aload_n (j := 0) dL_law_1324 rfl rfl ?_
      refine J_iload_n (j := 3) dL_law_1325 rfl rfl ?_
      refine J_iconst (v := 4) dL_law_1326 (by decide) ?_
      refine J_iadd dL_law_1327 ?_
      obtain ⟨b347, hF⟩ := chk hF
      refine J_ialdX (v := Xs (ix (v3 + 4))) dL_law_1328 (by rw [hNs]; exact inb_vp b347) (by rw [hXs]; rfl) ?_
      refine J_i2l dL_law_1329 ?_
      refine J_ldc2 (v := 4294967295) (tb 1463 (by decide +kernel)) dL_law_1330 ?_
      refine J_land dL_law_1333 ?_
      refine J_lor dL_law_1334 ?_
      obtain ⟨r348, x349, h350, hF⟩ := ob2_some hF
      refine JX_callVi (As := [.int (Xs (ix (v3 + 1))), .int (Xs (ix (v3 + 2))), .long ((lsh (Int32.toInt64 (Xs (ix (v3 + 3)))) 32) ||| ((Int32.toInt64 (Xs (ix (v3 + 4)))) &&& 4294967295))]) (S := []) lkV_WithOneHandLaw_167_X8_put rfl (by decide) dL_law_1335 c_5 (S_X8_put (by omega) h350) (by omega) rfl rfl (Nat.le_of_ble_eq_true rfl) rfl ?_
      refine J_aload_n (j := 2) dL_law_1338 rfl rfl ?_
      refine J_aload_n (j := 0) dL_law_1339 rfl rfl ?_
      refine J_iload_n (j := 3) dL_law_1340 rfl rfl ?_
      refine J_iconst (v := 1) dL_law_1341 (by decide) ?_
      refine J_iadd dL_law_1342 ?_
      refine J_ialdX (v := Xs (ix (v3 + 1))) dL_law_1343 (by rw [hNs]; exact inb_vp b344) (by rw [hXs]; rfl) ?_
      refine J_aload_n (j := 0) dL_law_1344 rfl rfl ?_
      refine J_iload_n (j := 3) dL_law_1345 rfl rfl ?_
      refine J_iconst (v := 2) dL_law_1346 (by decide) ?_
      refine J_iadd dL_law_1347 ?_
      refine J_ialdX (v := Xs (ix (v3 + 2))) dL_law_1348 (by rw [hNs]; exact inb_vp b345) (by rw [hXs]; rfl) ?_
      refine J_aload_n (j := 0) dL_law_1349 rfl rfl ?_
      refine J_iload_n (j := 3) dL_law_1350 rfl rfl ?_
      refine J_iconst (v := 3) dL_law_1351 (by decide) ?_
      refine J_iadd dL_law_1352 ?_
      refine J_ialdX (v := Xs (ix (v3 + 3))) dL_law_1353 (by rw [hNs]; exact inb_vp b346) (by rw [hXs]; rfl) ?_
      refine J_i2l dL_law_1354 ?_
      refine J_bipush (v := 32) dL_law_1355 (by decide) ?_
      refine J_lshl dL_law_1357 ?_
      refine J_aload_n (j := 0) dL_law_1358 rfl rfl ?_
      refine J_iload_n (j := 3) dL_law_1359 rfl rfl ?_
      refine J_iconst (v := 4) dL_law_1360 (by decide) ?_
      refine J_iadd dL_law_1361 ?_
      refine J_ialdX (v := Xs (ix (v3 + 4))) dL_law_1362 (by rw [hNs]; exact inb_vp b347) (by rw [hXs]; rfl) ?_
      refine J_i2l dL_law_1363 ?_
      refine J_ldc2 (v := 4294967295) (tb 1463 (by decide +kernel)) dL_law_1364 ?_
      refine J_land dL_law_1367 ?_
      refine J_lor dL_law_1368 ?_
      obtain ⟨r351, m352, h353, hF⟩ := ob2_some hF
      refine JM_callVi (As := [.int (Xs (ix (v3 + 1))), .int (Xs (ix (v3 + 2))), .long ((lsh (Int32.toInt64 (Xs (ix (v3 + 3)))) 32) ||| ((Int32.toInt64 (Xs (ix (v3 + 4)))) &&& 4294967295))]) (S := [.int r348]) lkV_WithOneHandLaw_171_X9_put rfl (by decide) dL_law_1369 c_80 (S_X9_put (by omega) h353) (by omega) rfl rfl (Nat.le_of_ble_eq_true rfl) rfl ?_
      refine J_icmp_eq (tgt := 1530) dL_law_1372 (by decide) (fun q354 => ?_) (fun q354 => ?_)
      · rw [if_pos q354] at hF
        refine J_iinc (j := 3) (v := v3 + 6) (L' := [(3, .int (v3 + 6)), (0, .ref 4), (1, .ref 5), (2, .ref 80)]) dL_law_1530 rfl rfl (by decide) rfl ?_
        refine J_goto (tgt := 18) dL_law_1533 (by decide) ?_
        refine J_sub [1, 2, 3, 0] rfl ?_
        exact hK18 _ _ _ hF
      · rw [if_neg q354] at hF
        refine J_iconst (v := 0) dL_law_1375 (by decide) ?_
        cases hF
    rw [if_neg q343] at hF
    refine J_sw (fun q355 => ?_) (fun q355 => ?_)
    · rw [if_pos q355] at hF
      refine J_aload_n (j := 1) dL_law_1377 rfl rfl ?_
      refine J_aload_n (j := 0) dL_law_1378 rfl rfl ?_
      refine J_iload_n (j := 3) dL_law_1379 rfl rfl ?_
      refine J_iconst (v := 1) dL_law_1380 (by decide) ?_
      refine J_iadd dL_law_1381 ?_
      obtain ⟨b356, hF⟩ := chk hF
      refine J_ialdX (v := Xs (ix (v3 + 1))) dL_law_1382 (by rw [hNs]; exact inb_vp b356) (by rw [hXs]; rfl) ?_
      refine J_aload_n (j := 0) dL_law_1383 rfl rfl ?_
      refine J_iload_n (j := 3) dL_law_1384 rfl rfl ?_
      refine J_iconst (v := 2) dL_law_1385 (by decide) ?_
      refine J_iadd dL_law_1386 ?_
      obtain ⟨b357, hF⟩ := chk hF
      refine J_ialdX (v := Xs (ix (v3 + 2))) dL_law_1387 (by rw [hNs]; exact inb_vp b357) (by rw [hXs]; rfl) ?_
      obtain ⟨r358, h359, hF⟩ := ob_some hF
      refine JX_callVl (As := [.int (Xs (ix (v3 + 1))), .int (Xs (ix (v3 + 2)))]) (S := []) lkV_WithOneHandLaw_172_X8_element rfl (by decide) dL_law_1388 c_5 (S_X8_element (by omega) h359) (by omega) rfl rfl (Nat.le_of_ble_eq_true rfl) rfl ?_
      refine J_aload_n (j := 2) dL_law_1391 rfl rfl ?_
      refine J_aload_n (j := 0) dL_law_1392 rfl rfl ?_
      refine J_iload_n (j := 3) dL_law_1393 rfl rfl ?_
      refine J_iconst (v := 1) dL_law_1394 (by decide) ?_
      refine J_iadd dL_law_1395 ?_
      refine J_ialdX (v := Xs (ix (v3 + 1))) dL_law_1396 (by rw [hNs]; exact inb_vp b356) (by rw [hXs]; rfl) ?_
      refine J_aload_n (j := 0) dL_law_1397 rfl rfl ?_
      refine J_iload_n (j := 3) dL_law_1398 rfl rfl ?_
      refine J_iconst (v := 2) dL_law_1399 (by decide) ?_
      refine J_iadd dL_law_1400 ?_
      refine J_ialdX (v := Xs (ix (v3 + 2))) dL_law_1401 (by rw [hNs]; exact inb_vp b357) (by rw [hXs]; rfl) ?_
      obtain ⟨r360, h361, hF⟩ := ob_some hF
      refine JM_callVl (As := [.int (Xs (ix (v3 + 1))), .int (Xs (ix (v3 + 2)))]) (S := [.long r358]) lkV_WithOneHandLaw_175_X9_element rfl (by decide) dL_law_1402 c_80 (S_X9_element (by omega) h361) (by omega) rfl rfl (Nat.le_of_ble_eq_true rfl) rfl ?_
      refine J_lcmp dL_law_1405 ?_
      refine J_if_eq (tgt := 1530) dL_law_1406 (by decide) (fun q362 => ?_) (fun q362 => ?_)
      · rw [if_pos q362] at hF
        refine J_iinc (j := 3) (v := v3 + 6) (L' := [(3, .int (v3 + 6)), (0, .ref 4), (1, .ref 5), (2, .ref 80)]) dL_law_1530 rfl rfl (by decide) rfl ?_
        refine J_goto (tgt := 18) dL_law_1533 (by decide) ?_
        refine J_sub [1, 2, 3, 0] rfl ?_
        exact hK18 _ _ _ hF
      · rw [if_neg q362] at hF
        refine J_iconst (v := 0) dL_law_1409 (by decide) ?_
        cases hF
    rw [if_neg q355] at hF
    refine J_sw (fun q363 => ?_) (fun q363 => ?_)
    · rw [if_pos q363] at hF
      refine J_aload_n (j := 1) dL_law_1411 rfl rfl ?_
      refine J_aload_n (j := 0) dL_law_1412 rfl rfl ?_
      refine J_iload_n (j := 3) dL_law_1413 rfl rfl ?_
      refine J_iconst (v := 1) dL_law_1414 (by decide) ?_
      refine J_iadd dL_law_1415 ?_
      obtain ⟨b364, hF⟩ := chk hF
      refine J_ialdX (v := Xs (ix (v3 + 1))) dL_law_1416 (by rw [hNs]; exact inb_vp b364) (by rw [hXs]; rfl) ?_
      refine J_aload_n (j := 0) dL_law_1417 rfl rfl ?_
      refine J_iload_n (j := 3) dL_law_1418 rfl rfl ?_
      refine J_iconst (v := 2) dL_law_1419 (by decide) ?_
      refine J_iadd dL_law_1420 ?_
      obtain ⟨b365, hF⟩ := chk hF
      refine J_ialdX (v := Xs (ix (v3 + 2))) dL_law_1421 (by rw [hNs]; exact inb_vp b365) (by rw [hXs]; rfl) ?_
      refine J_aload_n (j := 0) dL_law_1422 rfl rfl ?_
      refine J_iload_n (j := 3) dL_law_1423 rfl rfl ?_
      refine J_iconst (v := 3) dL_law_1424 (by decide) ?_
      refine J_iadd dL_law_1425 ?_
      obtain ⟨b366, hF⟩ := chk hF
      refine J_ialdX (v := Xs (ix (v3 + 3))) dL_law_1426 (by rw [hNs]; exact inb_vp b366) (by rw [hXs]; rfl) ?_
      refine J_aload_n (j := 0) dL_law_1427 rfl rfl ?_
      refine J_iload_n (j := 3) dL_law_1428 rfl rfl ?_
      refine J_iconst (v := 4) dL_law_1429 (by decide) ?_
      refine J_iadd dL_law_1430 ?_
      obtain ⟨b367, hF⟩ := chk hF
      refine J_ialdX (v := Xs (ix (v3 + 4))) dL_law_1431 (by rw [hNs]; exact inb_vp b367) (by rw [hXs]; rfl) ?_
      refine J_aload_n (j := 0) dL_law_1432 rfl rfl ?_
      refine J_iload_n (j := 3) dL_law_1433 rfl rfl ?_
      refine J_iconst (v := 5) dL_law_1434 (by decide) ?_
      refine J_iadd dL_law_1435 ?_
      obtain ⟨b368, hF⟩ := chk hF
      refine J_ialdX (v := Xs (ix (v3 + 5))) dL_law_1436 (by rw [hNs]; exact inb_vp b368) (by rw [hXs]; rfl) ?_
      obtain ⟨r369, x370, h371, hF⟩ := ob2_some hF
      refine JX_callVi (As := [.int (Xs (ix (v3 + 1))), .int (Xs (ix (v3 + 2))), .int (Xs (ix (v3 + 3))), .int (Xs (ix (v3 + 4))), .int (Xs (ix (v3 + 5)))]) (S := []) lkV_WithOneHandLaw_176_X8_shift rfl (by decide) dL_law_1437 c_5 (S_X8_shift (by omega) h371) (by omega) rfl rfl (Nat.le_of_ble_eq_true rfl) rfl ?_
      refine J_aload_n (j := 2) dL_law_1440 rfl rfl ?_
      refine J_aload_n (j := 0) dL_law_1441 rfl rfl ?_
      refine J_iload_n (j := 3) dL_law_1442 rfl rfl ?_
      refine J_iconst (v := 1) dL_law_1443 (by decide) ?_
      refine J_iadd dL_law_1444 ?_
      refine J_ialdX (v := Xs (ix (v3 + 1))) dL_law_1445 (by rw [hNs]; exact inb_vp b364) (by rw [hXs]; rfl) ?_
      refine J_aload_n (j := 0) dL_law_1446 rfl rfl ?_
      refine J_iload_n (j := 3) dL_law_1447 rfl rfl ?_
      refine J_iconst (v := 2) dL_law_1448 (by decide) ?_
      refine J_iadd dL_law_1449 ?_
      refine J_ialdX (v := Xs (ix (v3 + 2))) dL_law_1450 (by rw [hNs]; exact inb_vp b365) (by rw [hXs]; rfl) ?_
      refine J_aload_n (j := 0) dL_law_1451 rfl rfl ?_
      refine J_iload_n (j := 3) dL_law_1452 rfl rfl ?_
      refine J_iconst (v := 3) dL_law_1453 (by decide) ?_
      refine J_iadd dL_law_1454 ?_
      refine J_ialdX (v := Xs (ix (v3 + 3))) dL_law_1455 (by rw [hNs]; exact inb_vp b366) (by rw [hXs]; rfl) ?_
      refine J_aload_n (j := 0) dL_law_1456 rfl rfl ?_
      refine J_iload_n (j := 3) dL_law_1457 rfl rfl ?_
      refine J_iconst (v := 4) dL_law_1458 (by decide) ?_
      refine J_iadd dL_law_1459 ?_
      refine J_ialdX (v := Xs (ix (v3 + 4))) dL_law_1460 (by rw [hNs]; exact inb_vp b367) (by rw [hXs]; rfl) ?_
      refine J_aload_n (j := 0) dL_law_1461 rfl rfl ?_
      refine J_iload_n (j := 3) dL_law_1462 rfl rfl ?_
      refine J_iconst (v := 5) dL_law_1463 (by decide) ?_
      refine J_iadd dL_law_1464 ?_
      refine J_ialdX (v := Xs (ix (v3 + 5))) dL_law_1465 (by rw [hNs]; exact inb_vp b368) (by rw [hXs]; rfl) ?_
      obtain ⟨r372, m373, h374, hF⟩ := ob2_some hF
      refine JM_callVi (As := [.int (Xs (ix (v3 + 1))), .int (Xs (ix (v3 + 2))), .int (Xs (ix (v3 + 3))), .int (Xs (ix (v3 + 4))), .int (Xs (ix (v3 + 5)))]) (S := [.int r369]) lkV_WithOneHandLaw_180_X9_shift rfl (by decide) dL_law_1466 c_80 (S_X9_shift (by omega) h374) (by omega) rfl rfl (Nat.le_of_ble_eq_true rfl) rfl ?_
      refine J_icmp_eq (tgt := 1530) dL_law_1469 (by decide) (fun q375 => ?_) (fun q375 => ?_)
      · rw [if_pos q375] at hF
        refine J_iinc (j := 3) (v := v3 + 6) (L' := [(3, .int (v3 + 6)), (0, .ref 4), (1, .ref 5), (2, .ref 80)]) dL_law_1530 rfl rfl (by decide) rfl ?_
        refine J_goto (tgt := 18) dL_law_1533 (by decide) ?_
        refine J_sub [1, 2, 3, 0] rfl ?_
        exact hK18 _ _ _ hF
      · rw [if_neg q375] at hF
        refine J_iconst (v := 0) dL_law_1472 (by decide) ?_
        cases hF
    rw [if_neg q363] at hF
    refine J_sw (fun q376 => ?_) (fun q376 => ?_)
    · rw [if_pos q376] at hF
      refine J_aload_n (j := 1) dL_law_1474 rfl rfl ?_
      refine J_aload_n (j := 0) dL_law_1475 rfl rfl ?_
      refine J_iload_n (j := 3) dL_law_1476 rfl rfl ?_
      refine J_iconst (v := 1) dL_law_1477 (by decide) ?_
      refine J_iadd dL_law_1478 ?_
      obtain ⟨b377, hF⟩ := chk hF
      refine J_ialdX (v := Xs (ix (v3 + 1))) dL_law_1479 (by rw [hNs]; exact inb_vp b377) (by rw [hXs]; rfl) ?_
      refine J_aload_n (j := 0) dL_law_1480 rfl rfl ?_
      refine J_iload_n (j := 3) dL_law_1481 rfl rfl ?_
      refine J_iconst (v := 2) dL_law_1482 (by decide) ?_
      refine J_iadd dL_law_1483 ?_
      obtain ⟨b378, hF⟩ := chk hF
      refine J_ialdX (v := Xs (ix (v3 + 2))) dL_law_1484 (by rw [hNs]; exact inb_vp b378) (by rw [hXs]; rfl) ?_
      obtain ⟨r379, h380, hF⟩ := ob_some hF
      refine JX_callVi (As := [.int (Xs (ix (v3 + 1))), .int (Xs (ix (v3 + 2)))]) (S := []) lkV_WithOneHandLaw_181_X8_taken rfl (by decide) dL_law_1485 c_5 (S_X8_taken (by omega) h380) (by omega) rfl rfl (Nat.le_of_ble_eq_true rfl) rfl ?_
      refine J_aload_n (j := 2) dL_law_1488 rfl rfl ?_
      refine J_aload_n (j := 0) dL_law_1489 rfl rfl ?_
      refine J_iload_n (j := 3) dL_law_1490 rfl rfl ?_
      refine J_iconst (v := 1) dL_law_1491 (by decide) ?_
      refine J_iadd dL_law_1492 ?_
      refine J_ialdX (v := Xs (ix (v3 + 1))) dL_law_1493 (by rw [hNs]; exact inb_vp b377) (by rw [hXs]; rfl) ?_
      refine J_aload_n (j := 0) dL_law_1494 rfl rfl ?_
      refine J_iload_n (j := 3) dL_law_1495 rfl rfl ?_
      refine J_iconst (v := 2) dL_law_1496 (by decide) ?_
      refine J_iadd dL_law_1497 ?_
      refine J_ialdX (v := Xs (ix (v3 + 2))) dL_law_1498 (by rw [hNs]; exact inb_vp b378) (by rw [hXs]; rfl) ?_
      obtain ⟨r381, h382, hF⟩ := ob_some hF
      refine JM_callVi (As := [.int (Xs (ix (v3 + 1))), .int (Xs (ix (v3 + 2)))]) (S := [.int r379]) lkV_WithOneHandLaw_184_X9_taken rfl (by decide) dL_law_1499 c_80 (S_X9_taken (by omega) h382) (by omega) rfl rfl (Nat.le_of_ble_eq_true rfl) rfl ?_
      refine J_icmp_eq (tgt := 1530) dL_law_1502 (by decide) (fun q383 => ?_) (fun q383 => ?_)
      · rw [if_pos q383] at hF
        refine J_iinc (j := 3) (v := v3 + 6) (L' := [(3, .int (v3 + 6)), (0, .ref 4), (1, .ref 5), (2, .ref 80)]) dL_law_1530 rfl rfl (by decide) rfl ?_
        refine J_goto (tgt := 18) dL_law_1533 (by decide) ?_
        refine J_sub [1, 2, 3, 0] rfl ?_
        exact hK18 _ _ _ hF
      · rw [if_neg q383] at hF
        refine J_iconst (v := 0) dL_law_1505 (by decide) ?_
        cases hF
    rw [if_neg q376] at hF
    refine J_sw (fun q384 => ?_) (fun q384 => ?_)
    · rw [if_pos q384] at hF
      refine J_aload_n (j := 1) dL_law_1507 rfl rfl ?_
      refine J_aload_n (j := 0) dL_law_1508 rfl rfl ?_
      refine J_iload_n (j := 3) dL_law_1509 rfl rfl ?_
      refine J_iconst (v := 1) dL_law_1510 (by decide) ?_
      refine J_iadd dL_law_1511 ?_
      obtain ⟨b385, hF⟩ := chk hF
      refine J_ialdX (v := Xs (ix (v3 + 1))) dL_law_1512 (by rw [hNs]; exact inb_vp b385) (by rw [hXs]; rfl) ?_
      obtain ⟨r386, h387, hF⟩ := ob_some hF
      refine JX_callVi (As := [.int (Xs (ix (v3 + 1)))]) (S := []) lkV_WithOneHandLaw_185_X8_count rfl (by decide) dL_law_1513 c_5 (S_X8_count (by omega) h387) (by omega) rfl rfl (Nat.le_of_ble_eq_true rfl) rfl ?_
      refine J_aload_n (j := 2) dL_law_1516 rfl rfl ?_
      refine J_aload_n (j := 0) dL_law_1517 rfl rfl ?_
      refine J_iload_n (j := 3) dL_law_1518 rfl rfl ?_
      refine J_iconst (v := 1) dL_law_1519 (by decide) ?_
      refine J_iadd dL_law_1520 ?_
      refine J_ialdX (v := Xs (ix (v3 + 1))) dL_law_1521 (by rw [hNs]; exact inb_vp b385) (by rw [hXs]; rfl) ?_
      refine JM_callVi (As := [.int (Xs (ix (v3 + 1)))]) (S := [.int r386]) lkV_WithOneHandLaw_188_X9_count rfl (by decide) dL_law_1522 c_80 (S_X9_count (by omega) rfl) (by omega) rfl rfl (Nat.le_of_ble_eq_true rfl) rfl ?_
      refine J_icmp_eq (tgt := 1530) dL_law_1525 (by decide) (fun q388 => ?_) (fun q388 => ?_)
      · rw [if_pos q388] at hF
        refine J_iinc (j := 3) (v := v3 + 6) (L' := [(3, .int (v3 + 6)), (0, .ref 4), (1, .ref 5), (2, .ref 80)]) dL_law_1530 rfl rfl (by decide) rfl ?_
        refine J_goto (tgt := 18) dL_law_1533 (by decide) ?_
        refine J_sub [1, 2, 3, 0] rfl ?_
        exact hK18 _ _ _ hF
      · rw [if_neg q388] at hF
        refine J_iconst (v := 0) dL_law_1528 (by decide) ?_
        cases hF
    rw [if_neg q384] at hF
    refine J_swd ?_
    refine J_iinc (j := 3) (v := v3 + 6) (L' := [(3, .int (v3 + 6)), (0, .ref 4), (1, .ref 5), (2, .ref 80)]) dL_law_1530 rfl rfl (by decide) rfl ?_
    refine J_goto (tgt := 18) dL_law_1533 (by decide) ?_
    refine J_sub [1, 2, 3, 0] rfl ?_
    exact hK18 _ _ _ hF
def f_L_law_18 (Ns : Nat) (Xs : Nat → Int32) : Nat → Int32 → MX → MM → Option Bool
  | 0 => fun _ _ _ => none
  | n + 1 => fun v3 x m => B_L_law_18 Ns Xs (f_L_law_18 Ns Xs n) v3 x m
theorem Sf_L_law_18 {g : GC} {d K N k w Ns : Nat} {Xs : Nat → Int32} (hNs : gN g = Ns) (hXs : gX g = Xs) (hd : 407 ≤ d) : ∀ (n : Nat) (v3 : Int32) (x : MX) (m : MM), f_L_law_18 Ns Xs n v3 x m = some true → J g m_L_law d K N 18 [(0, .ref 4), (1, .ref 5), (2, .ref 80), (3, .int v3)] [] (ST x m) k w (fun v _ => v = some (.int 1)) := by
  intro n
  induction n with
  | zero => intro v3 x m hF; exact absurd hF (fun q => by cases q)
  | succ n ih =>
    intro v3 x m hF
    exact SB_L_law_18 hNs hXs hd ih hF
