set_option maxRecDepth 20000 in
theorem zin_wsL_law_r1 : ∀ w ∈ wsL_law_r1, w ∈ lw_tbl := fun w h => (goodIn_r wsL_law_r1 [67, 68, 56, 994, 995, 64, 1489, 69, 70, 71, 72, 73, 74, 75, 76, 57, 329, 330, 331, 159, 160, 59, 332, 208] (by decide +kernel) (by decide +kernel) w h).1
set_option maxRecDepth 20000 in
theorem zin_wsL_law_r2 : ∀ w ∈ wsL_law_r2, w ∈ lw_tbl := fun w h => (goodIn_r wsL_law_r2 [209, 60, 333, 251, 252, 61, 334, 285, 286, 62, 335, 312, 313, 63, 336, 338, 77, 78, 79, 80, 99, 113, 114, 100] (by decide +kernel) (by decide +kernel) w h).1
set_option maxRecDepth 20000 in
theorem zin_wsL_law_r3 : ∀ w ∈ wsL_law_r3, w ∈ lw_tbl := fun w h => (goodIn_r wsL_law_r3 [115, 116, 117, 118, 81, 82, 58, 119, 121, 123, 84, 85, 86, 87, 88, 101, 102, 103, 104, 105, 106, 107, 108, 109] (by decide +kernel) (by decide +kernel) w h).1
set_option maxRecDepth 20000 in
theorem zin_wsL_law_r4 : ∀ w ∈ wsL_law_r4, w ∈ lw_tbl := fun w h => (goodIn_r wsL_law_r4 [110, 111, 112, 162, 163, 164, 165, 166, 167, 168, 211, 212, 213, 214, 216, 254, 255, 256, 257, 259, 260, 288, 289, 290] (by decide +kernel) (by decide +kernel) w h).1
set_option maxRecDepth 20000 in
theorem zin_wsL_law_r5 : ∀ w ∈ wsL_law_r5, w ∈ lw_tbl := fun w h => (goodIn_r wsL_law_r5 [291, 292, 314, 315, 316, 317, 318, 319, 328, 320, 996, 997, 998, 999, 1000, 1001, 1002, 1003, 1007, 1008, 1012, 1013, 1014, 1022] (by decide +kernel) (by decide +kernel) w h).1
set_option maxRecDepth 20000 in
theorem zin_wsL_law_r6 : ∀ w ∈ wsL_law_r6, w ∈ lw_tbl := fun w h => (goodIn_r wsL_law_r6 [1023, 1024, 1025, 1026, 363, 364, 365, 366, 370, 125, 367, 368, 369, 372, 373, 374, 375, 376, 377, 378, 126, 1087, 1088, 1089] (by decide +kernel) (by decide +kernel) w h).1
set_option maxRecDepth 20000 in
theorem zin_wsL_law_r7 : ∀ w ∈ wsL_law_r7, w ∈ lw_tbl := fun w h => (goodIn_r wsL_law_r7 [1090, 1091, 1092, 1093, 1094, 1095, 1096, 1097, 1099, 8, 1100, 379, 380, 381, 382, 294, 383, 384, 385, 386, 293, 1101, 1102, 1103] (by decide +kernel) (by decide +kernel) w h).1
set_option maxRecDepth 20000 in
theorem zin_wsL_law_r8 : ∀ w ∈ wsL_law_r8, w ∈ lw_tbl := fun w h => (goodIn_r wsL_law_r8 [1104, 1009, 387, 388, 389, 390, 296, 391, 392, 393, 394, 297, 298, 295, 395, 396, 397, 398, 399, 400, 401, 402, 403, 404] (by decide +kernel) (by decide +kernel) w h).1
set_option maxRecDepth 20000 in
theorem zin_wsL_law_r9 : ∀ w ∈ wsL_law_r9, w ∈ lw_tbl := fun w h => (goodIn_r wsL_law_r9 [405, 406, 407, 408, 409, 410, 411, 412, 413, 414, 415, 416, 417, 418, 421, 422, 423, 424, 1105, 1106, 1107, 1108, 1010, 1011] (by decide +kernel) (by decide +kernel) w h).1
set_option maxRecDepth 20000 in
theorem zin_wsL_law_r10 : ∀ w ∈ wsL_law_r10, w ∈ lw_tbl := fun w h => (goodIn_r wsL_law_r10 [1109, 1111, 9, 1112, 1113, 1115, 10, 1116, 1117, 1119, 11, 1120, 1121, 1123, 12, 1124, 1125, 1127, 13, 1128, 425, 426, 427, 428] (by decide +kernel) (by decide +kernel) w h).1
set_option maxRecDepth 20000 in
theorem zin_wsL_law_r11 : ∀ w ∈ wsL_law_r11, w ∈ lw_tbl := fun w h => (goodIn_r wsL_law_r11 [429, 430, 431, 432, 433, 434, 435, 436, 440, 441, 442, 443, 444, 445, 446, 447, 448, 449, 450, 452, 0, 453, 454, 455] (by decide +kernel) (by decide +kernel) w h).1
set_option maxRecDepth 20000 in
theorem zin_wsL_law_r12 : ∀ w ∈ wsL_law_r12, w ∈ lw_tbl := fun w h => (goodIn_r wsL_law_r12 [456, 457, 458, 459, 460, 169, 170, 461, 462, 463, 464, 465, 466, 467, 468, 469, 470, 471, 472, 473, 174, 176, 178, 180] (by decide +kernel) (by decide +kernel) w h).1
set_option maxRecDepth 20000 in
theorem zin_wsL_law_r13 : ∀ w ∈ wsL_law_r13, w ∈ lw_tbl := fun w h => (goodIn_r wsL_law_r13 [172, 474, 475, 476, 477, 478, 479, 480, 481, 482, 483, 484, 485, 129, 486, 1129, 1130, 1131, 1132, 1133, 1135, 14, 1136, 1137] (by decide +kernel) (by decide +kernel) w h).1
set_option maxRecDepth 20000 in
theorem zin_wsL_law_r14 : ∀ w ∈ wsL_law_r14, w ∈ lw_tbl := fun w h => (goodIn_r wsL_law_r14 [1139, 15, 1140, 1141, 1143, 16, 1144, 1145, 1147, 17, 1148, 1149, 1151, 18, 1152, 1017, 1153, 1155, 19, 1156, 1157, 1159, 20, 1160] (by decide +kernel) (by decide +kernel) w h).1
set_option maxRecDepth 20000 in
theorem zin_wsL_law_r15 : ∀ w ∈ wsL_law_r15, w ∈ lw_tbl := fun w h => (goodIn_r wsL_law_r15 [1016, 1176, 1177, 65, 1178, 1015, 1161, 1163, 21, 1164, 1165, 1167, 22, 1168, 1169, 1171, 23, 1172, 1173, 1174, 1175, 1179, 1181, 24] (by decide +kernel) (by decide +kernel) w h).1
set_option maxRecDepth 20000 in
theorem zin_wsL_law_r16 : ∀ w ∈ wsL_law_r16, w ∈ lw_tbl := fun w h => (goodIn_r wsL_law_r16 [1182, 487, 488, 489, 490, 491, 492, 493, 494, 495, 496, 497, 498, 499, 500, 501, 503, 1, 504, 505, 506, 507, 508, 182] (by decide +kernel) (by decide +kernel) w h).1
set_option maxRecDepth 20000 in
theorem zin_wsL_law_r17 : ∀ w ∈ wsL_law_r17, w ∈ lw_tbl := fun w h => (goodIn_r wsL_law_r17 [509, 510, 511, 512, 513, 514, 515, 516, 517, 518, 519, 520, 1183, 1184, 1185, 1186, 1187, 1189, 25, 1190, 1191, 1193, 26, 1194] (by decide +kernel) (by decide +kernel) w h).1
set_option maxRecDepth 20000 in
theorem zin_wsL_law_r18 : ∀ w ∈ wsL_law_r18, w ∈ lw_tbl := fun w h => (goodIn_r wsL_law_r18 [1195, 1197, 27, 1198, 1199, 1200, 1201, 521, 522, 523, 524, 525, 526, 527, 528, 1202, 1203, 1204, 1205, 529, 530, 531, 532, 533] (by decide +kernel) (by decide +kernel) w h).1
set_option maxRecDepth 20000 in
theorem zin_wsL_law_r19 : ∀ w ∈ wsL_law_r19, w ∈ lw_tbl := fun w h => (goodIn_r wsL_law_r19 [534, 536, 2, 537, 538, 1206, 1207, 1208, 1209, 539, 540, 541, 542, 543, 545, 546, 1210, 1211, 1212, 1213, 1214, 1215, 1216, 547] (by decide +kernel) (by decide +kernel) w h).1
set_option maxRecDepth 20000 in
theorem zin_wsL_law_r20 : ∀ w ∈ wsL_law_r20, w ∈ lw_tbl := fun w h => (goodIn_r wsL_law_r20 [548, 549, 550, 132, 130, 1217, 1218, 1219, 1220, 551, 552, 553, 554, 555, 557, 3, 558, 559, 560, 561, 562, 563, 564, 565] (by decide +kernel) (by decide +kernel) w h).1
set_option maxRecDepth 20000 in
theorem zin_wsL_law_r21 : ∀ w ∈ wsL_law_r21, w ∈ lw_tbl := fun w h => (goodIn_r wsL_law_r21 [566, 567, 131, 568, 569, 570, 571, 572, 573, 574, 575, 576, 577, 578, 579, 580, 1221, 1222, 1223, 1224, 1237, 1225, 1227, 28] (by decide +kernel) (by decide +kernel) w h).1
set_option maxRecDepth 20000 in
theorem zin_wsL_law_r22 : ∀ w ∈ wsL_law_r22, w ∈ lw_tbl := fun w h => (goodIn_r wsL_law_r22 [1228, 1229, 1231, 29, 1232, 1233, 1235, 30, 1236, 1238, 1240, 31, 1241, 582, 583, 584, 585, 586, 587, 588, 589, 590, 591, 592] (by decide +kernel) (by decide +kernel) w h).1
set_option maxRecDepth 20000 in
theorem zin_wsL_law_r23 : ∀ w ∈ wsL_law_r23, w ∈ lw_tbl := fun w h => (goodIn_r wsL_law_r23 [593, 594, 595, 596, 597, 598, 599, 600, 601, 602, 604, 4, 605, 606, 607, 608, 609, 1242, 1243, 1244, 1245, 1246, 1248, 32] (by decide +kernel) (by decide +kernel) w h).1
set_option maxRecDepth 20000 in
theorem zin_wsL_law_r24 : ∀ w ∈ wsL_law_r24, w ∈ lw_tbl := fun w h => (goodIn_r wsL_law_r24 [1249, 610, 611, 612, 613, 171, 614, 615, 616, 617, 618, 619, 620, 621, 622, 623, 1250, 1251, 1252, 1253, 1254, 1256, 33, 1257] (by decide +kernel) (by decide +kernel) w h).1
set_option maxRecDepth 20000 in
theorem zin_wsL_law_r25 : ∀ w ∈ wsL_law_r25, w ∈ lw_tbl := fun w h => (goodIn_r wsL_law_r25 [1258, 1260, 34, 1261, 624, 625, 626, 627, 628, 630, 5, 631, 339, 632, 633, 634, 635, 225, 127, 226, 227, 636, 637, 638] (by decide +kernel) (by decide +kernel) w h).1
set_option maxRecDepth 20000 in
theorem zin_wsL_law_r26 : ∀ w ∈ wsL_law_r26, w ∈ lw_tbl := fun w h => (goodIn_r wsL_law_r26 [639, 640, 217, 223, 641, 642, 643, 644, 645, 646, 647, 648, 649, 221, 650, 651, 652, 653, 219, 654, 655, 656, 657, 229] (by decide +kernel) (by decide +kernel) w h).1
set_option maxRecDepth 20000 in
theorem zin_wsL_law_r27 : ∀ w ∈ wsL_law_r27, w ∈ lw_tbl := fun w h => (goodIn_r wsL_law_r27 [228, 658, 1262, 1263, 1264, 1265, 1266, 1268, 35, 1269, 1005, 1270, 1272, 36, 1273, 1021, 1020, 1018, 1019, 1274, 1276, 37, 1277, 1278] (by decide +kernel) (by decide +kernel) w h).1
set_option maxRecDepth 20000 in
theorem zin_wsL_law_r28 : ∀ w ∈ wsL_law_r28, w ∈ lw_tbl := fun w h => (goodIn_r wsL_law_r28 [1280, 38, 1281, 659, 660, 661, 662, 263, 663, 664, 665, 666, 262, 264, 667, 668, 669, 670, 671, 672, 673, 674, 675, 676] (by decide +kernel) (by decide +kernel) w h).1
set_option maxRecDepth 20000 in
theorem zin_wsL_law_r29 : ∀ w ∈ wsL_law_r29, w ∈ lw_tbl := fun w h => (goodIn_r wsL_law_r29 [677, 678, 679, 680, 681, 261, 682, 683, 684, 685, 686, 687, 688, 689, 690, 691, 692, 265, 266, 267, 693, 694, 695, 696] (by decide +kernel) (by decide +kernel) w h).1
set_option maxRecDepth 20000 in
theorem zin_wsL_law_r30 : ∀ w ∈ wsL_law_r30, w ∈ lw_tbl := fun w h => (goodIn_r wsL_law_r30 [128, 697, 698, 699, 700, 701, 702, 133, 703, 704, 705, 706, 707, 708, 709, 710, 711, 712, 713, 714, 715, 716, 717, 718] (by decide +kernel) (by decide +kernel) w h).1
set_option maxRecDepth 20000 in
theorem zin_wsL_law_r31 : ∀ w ∈ wsL_law_r31, w ∈ lw_tbl := fun w h => (goodIn_r wsL_law_r31 [719, 720, 721, 722, 723, 724, 725, 726, 727, 728, 729, 730, 731, 732, 733, 734, 735, 736, 737, 738, 1282, 1283, 1284, 1285] (by decide +kernel) (by decide +kernel) w h).1
set_option maxRecDepth 20000 in
theorem zin_wsL_law_r32 : ∀ w ∈ wsL_law_r32, w ∈ lw_tbl := fun w h => (goodIn_r wsL_law_r32 [1286, 1288, 39, 1289, 1290, 1292, 40, 1293, 1294, 1296, 41, 1297, 1298, 1300, 42, 1301, 1302, 1304, 43, 1305, 1306, 1308, 44, 1309] (by decide +kernel) (by decide +kernel) w h).1
set_option maxRecDepth 20000 in
theorem zin_wsL_law_r33 : ∀ w ∈ wsL_law_r33, w ∈ lw_tbl := fun w h => (goodIn_r wsL_law_r33 [1310, 1312, 45, 1313, 1314, 1316, 46, 1317, 739, 740, 741, 742, 175, 177, 173, 179, 743, 744, 745, 746, 747, 748, 749, 750] (by decide +kernel) (by decide +kernel) w h).1
set_option maxRecDepth 20000 in
theorem zin_wsL_law_r34 : ∀ w ∈ wsL_law_r34, w ∈ lw_tbl := fun w h => (goodIn_r wsL_law_r34 [1318, 1319, 1320, 1321, 1322, 1324, 47, 1325, 751, 752, 753, 754, 755, 1326, 1327, 1328, 1329, 756, 757, 758, 759, 760, 761, 762] (by decide +kernel) (by decide +kernel) w h).1
set_option maxRecDepth 20000 in
theorem zin_wsL_law_r35 : ∀ w ∈ wsL_law_r35, w ∈ lw_tbl := fun w h => (goodIn_r wsL_law_r35 [763, 764, 765, 766, 767, 768, 769, 770, 771, 773, 6, 774, 1330, 1331, 1332, 1333, 1334, 1336, 48, 1337, 1338, 1340, 49, 1341] (by decide +kernel) (by decide +kernel) w h).1
set_option maxRecDepth 20000 in
theorem zin_wsL_law_r36 : ∀ w ∈ wsL_law_r36, w ∈ lw_tbl := fun w h => (goodIn_r wsL_law_r36 [775, 776, 777, 778, 1342, 1343, 1344, 1345, 779, 780, 781, 782, 1346, 1347, 1348, 1349, 783, 784, 785, 786, 218, 220, 222, 224] (by decide +kernel) (by decide +kernel) w h).1
set_option maxRecDepth 20000 in
theorem zin_wsL_law_r37 : ∀ w ∈ wsL_law_r37, w ∈ lw_tbl := fun w h => (goodIn_r wsL_law_r37 [787, 1350, 1351, 1352, 1353, 788, 789, 790, 791, 792, 793, 794, 795, 1354, 1355, 1356, 1357, 1006, 796, 797, 798, 799, 802, 800] (by decide +kernel) (by decide +kernel) w h).1
set_option maxRecDepth 20000 in
theorem zin_wsL_law_r38 : ∀ w ∈ wsL_law_r38, w ∈ lw_tbl := fun w h => (goodIn_r wsL_law_r38 [801, 1358, 1359, 1360, 1361, 803, 804, 805, 806, 807, 808, 1362, 1363, 1364, 1365, 809, 810, 811, 812, 813, 814, 1366, 1367, 1368] (by decide +kernel) (by decide +kernel) w h).1
set_option maxRecDepth 20000 in
theorem zin_wsL_law_r39 : ∀ w ∈ wsL_law_r39, w ∈ lw_tbl := fun w h => (goodIn_r wsL_law_r39 [1369, 815, 816, 817, 818, 181, 1370, 1371, 1372, 1373, 819, 820, 821, 822, 823, 824, 825, 826, 1374, 1375, 1376, 1377, 1378, 1380] (by decide +kernel) (by decide +kernel) w h).1
set_option maxRecDepth 20000 in
theorem zin_wsL_law_r40 : ∀ w ∈ wsL_law_r40, w ∈ lw_tbl := fun w h => (goodIn_r wsL_law_r40 [50, 1381, 827, 828, 829, 830, 120, 91, 831, 832, 833, 834, 89, 835, 836, 837, 838, 1382, 1383, 1384, 1385, 839, 840, 841] (by decide +kernel) (by decide +kernel) w h).1
set_option maxRecDepth 20000 in
theorem zin_wsL_law_r41 : ∀ w ∈ wsL_law_r41, w ∈ lw_tbl := fun w h => (goodIn_r wsL_law_r41 [842, 843, 844, 845, 846, 90, 847, 848, 849, 850, 851, 852, 853, 854, 1386, 1387, 1388, 1389, 1390, 1392, 51, 1393, 855, 856] (by decide +kernel) (by decide +kernel) w h).1
set_option maxRecDepth 20000 in
theorem zin_wsL_law_r42 : ∀ w ∈ wsL_law_r42, w ∈ lw_tbl := fun w h => (goodIn_r wsL_law_r42 [857, 858, 859, 860, 861, 862, 1394, 1395, 1396, 1397, 1398, 1399, 1400, 1401, 1402, 1403, 1404, 863, 864, 865, 866, 1405, 1406, 1407] (by decide +kernel) (by decide +kernel) w h).1
set_option maxRecDepth 20000 in
theorem zin_wsL_law_r43 : ∀ w ∈ wsL_law_r43, w ∈ lw_tbl := fun w h => (goodIn_r wsL_law_r43 [1408, 867, 868, 869, 870, 871, 873, 7, 874, 875, 876, 877, 878, 880, 881, 882, 883, 884, 885, 887, 888, 889, 890, 892] (by decide +kernel) (by decide +kernel) w h).1
set_option maxRecDepth 20000 in
theorem zin_wsL_law_r44 : ∀ w ∈ wsL_law_r44, w ∈ lw_tbl := fun w h => (goodIn_r wsL_law_r44 [891, 1409, 1410, 1411, 1412, 1413, 1415, 52, 1416, 1027, 1417, 1418, 1419, 1420, 1422, 53, 1423, 1424, 895, 896, 897, 898, 1425, 1426] (by decide +kernel) (by decide +kernel) w h).1
set_option maxRecDepth 20000 in
theorem zin_wsL_law_r45 : ∀ w ∈ wsL_law_r45, w ∈ lw_tbl := fun w h => (goodIn_r wsL_law_r45 [1427, 1428, 899, 900, 901, 902, 122, 1429, 1430, 1431, 1432, 903, 904, 905, 906, 907, 908, 1433, 1434, 1435, 1436, 1437, 1439, 54] (by decide +kernel) (by decide +kernel) w h).1
set_option maxRecDepth 20000 in
theorem zin_wsL_law_r46 : ∀ w ∈ wsL_law_r46, w ∈ lw_tbl := fun w h => (goodIn_r wsL_law_r46 [1440, 1441, 909, 910, 911, 912, 124, 1442, 1443, 1444, 1445, 913, 914, 915, 916, 1446, 1447, 1448, 1449, 917, 918, 919, 920, 921] (by decide +kernel) (by decide +kernel) w h).1
set_option maxRecDepth 20000 in
theorem zin_wsL_law_r47 : ∀ w ∈ wsL_law_r47, w ∈ lw_tbl := fun w h => (goodIn_r wsL_law_r47 [922, 923, 924, 925, 926, 927, 928, 929, 930, 931, 932, 933, 934, 935, 936, 937, 1450, 1451, 1452, 1453, 1454, 1455, 1456, 938] (by decide +kernel) (by decide +kernel) w h).1
set_option maxRecDepth 20000 in
theorem zin_wsL_law_r48 : ∀ w ∈ wsL_law_r48, w ∈ lw_tbl := fun w h => (goodIn_r wsL_law_r48 [939, 940, 941, 1457, 1458, 1459, 1460, 942, 943, 944, 945, 337, 1461, 1462, 1463, 1464, 1004, 946, 947, 948, 949, 1465, 1466, 1467] (by decide +kernel) (by decide +kernel) w h).1
set_option maxRecDepth 20000 in
theorem zin_wsL_law_r49 : ∀ w ∈ wsL_law_r49, w ∈ lw_tbl := fun w h => (goodIn_r wsL_law_r49 [1468, 950, 951, 952, 953, 1469, 1470, 1471, 1472, 954, 955, 956, 957, 958, 959, 960, 961, 1473, 1474, 1475, 1476, 962, 963, 964] (by decide +kernel) (by decide +kernel) w h).1
set_option maxRecDepth 20000 in
theorem zin_wsL_law_r50 : ∀ w ∈ wsL_law_r50, w ∈ lw_tbl := fun w h => (goodIn_r wsL_law_r50 [965, 966, 967, 968, 969, 970, 971, 972, 973, 1477, 1478, 1479, 1480, 974, 975, 976, 977, 1481, 1482, 1483, 1484, 978, 979, 980] (by decide +kernel) (by decide +kernel) w h).1
set_option maxRecDepth 20000 in
theorem zin_wsL_law_r51 : ∀ w ∈ wsL_law_r51, w ∈ lw_tbl := fun w h => (goodIn_r wsL_law_r51 [981, 982, 983, 984, 985, 986, 987, 988, 989, 991, 993, 992, 66, 990, 1485, 1486, 1487, 1488] (by decide +kernel) (by decide +kernel) w h).1
set_option maxRecDepth 20000 in
theorem zin_X0 : ∀ w ∈ wsX00, w ∈ lw_tbl := fun w h => (goodIn_r wsX00 [183, 185, 187, 189, 191, 193, 195, 197, 199, 201, 203, 205] (by decide +kernel) (by decide +kernel) w h).1
set_option maxRecDepth 20000 in
theorem zin_X1 : ∀ w ∈ wsX10, w ∈ lw_tbl := fun w h => (goodIn_r wsX10 [230, 232, 234, 236, 238, 240, 242, 244, 246, 248] (by decide +kernel) (by decide +kernel) w h).1
set_option maxRecDepth 20000 in
theorem zin_X2 : ∀ w ∈ wsX20, w ∈ lw_tbl := fun w h => (goodIn_r wsX20 [268, 270, 272, 274, 276, 278, 280, 282] (by decide +kernel) (by decide +kernel) w h).1
set_option maxRecDepth 20000 in
theorem zin_X3 : ∀ w ∈ wsX30, w ∈ lw_tbl := fun w h => (goodIn_r wsX30 [92, 94, 96] (by decide +kernel) (by decide +kernel) w h).1
set_option maxRecDepth 20000 in
theorem zin_X4 : ∀ w ∈ wsX40, w ∈ lw_tbl := fun w h => (goodIn_r wsX40 [299, 301, 303, 305, 307, 309] (by decide +kernel) (by decide +kernel) w h).1
set_option maxRecDepth 20000 in
theorem zin_X5 : ∀ w ∈ wsX50, w ∈ lw_tbl := fun w h => (goodIn_r wsX50 [321, 323, 325] (by decide +kernel) (by decide +kernel) w h).1
set_option maxRecDepth 20000 in
theorem zin_X6 : ∀ w ∈ wsX60, w ∈ lw_tbl := fun w h => (goodIn_r wsX60 [134, 136, 138, 140, 142, 144, 146, 148, 150, 152, 154, 156] (by decide +kernel) (by decide +kernel) w h).1
set_option maxRecDepth 20000 in
theorem zin_X7 : ∀ w ∈ wsX70, w ∈ lw_tbl := fun w h => (goodIn_r wsX70 [340, 342, 344, 346, 348, 350, 352, 354, 356, 358, 360] (by decide +kernel) (by decide +kernel) w h).1
set_option maxRecDepth 20000 in
theorem zin_X8 : ∀ w ∈ wsX80, w ∈ lw_tbl := fun w h => (goodIn_r wsX80 [1028, 1030, 1032, 1034, 1036, 1038, 1040, 1042, 1044, 1046, 1048, 1050, 1052, 1054, 1056, 1058, 1060, 1062, 1064, 1066, 1068, 1070, 1072, 1074, 1076, 1078, 1080, 1082, 1084] (by decide +kernel) (by decide +kernel) w h).1
theorem wsL_law_in : ∀ w ∈ wsL_law, w ∈ lw_tbl := List.forall_mem_append.mpr ⟨List.forall_mem_append.mpr ⟨List.forall_mem_append.mpr ⟨List.forall_mem_append.mpr ⟨List.forall_mem_append.mpr ⟨List.forall_mem_append.mpr ⟨List.forall_mem_append.mpr ⟨List.forall_mem_append.mpr ⟨List.forall_mem_append.mpr ⟨List.forall_mem_append.mpr ⟨List.forall_mem_append.mpr ⟨zin_wsL_law_r1, List.forall_mem_append.mpr ⟨zin_wsL_law_r2, List.forall_mem_append.mpr ⟨zin_wsL_law_r3, List.forall_mem_append.mpr ⟨zin_wsL_law_r4, List.forall_mem_append.mpr ⟨zin_wsL_law_r5, List.forall_mem_append.mpr ⟨zin_wsL_law_r6, List.forall_mem_append.mpr ⟨zin_wsL_law_r7, List.forall_mem_append.mpr ⟨zin_wsL_law_r8, List.forall_mem_append.mpr ⟨zin_wsL_law_r9, List.forall_mem_append.mpr ⟨zin_wsL_law_r10, List.forall_mem_append.mpr ⟨zin_wsL_law_r11, List.forall_mem_append.mpr ⟨zin_wsL_law_r12, List.forall_mem_append.mpr ⟨zin_wsL_law_r13, List.forall_mem_append.mpr ⟨zin_wsL_law_r14, List.forall_mem_append.mpr ⟨zin_wsL_law_r15, List.forall_mem_append.mpr ⟨zin_wsL_law_r16, List.forall_mem_append.mpr ⟨zin_wsL_law_r17, List.forall_mem_append.mpr ⟨zin_wsL_law_r18, List.forall_mem_append.mpr ⟨zin_wsL_law_r19, List.forall_mem_append.mpr ⟨zin_wsL_law_r20, List.forall_mem_append.mpr ⟨zin_wsL_law_r21, List.forall_mem_append.mpr ⟨zin_wsL_law_r22, List.forall_mem_append.mpr ⟨zin_wsL_law_r23, List.forall_mem_append.mpr ⟨zin_wsL_law_r24, List.forall_mem_append.mpr ⟨zin_wsL_law_r25, List.forall_mem_append.mpr ⟨zin_wsL_law_r26, List.forall_mem_append.mpr ⟨zin_wsL_law_r27, List.forall_mem_append.mpr ⟨zin_wsL_law_r28, List.forall_mem_append.mpr ⟨zin_wsL_law_r29, List.forall_mem_append.mpr ⟨zin_wsL_law_r30, List.forall_mem_append.mpr ⟨zin_wsL_law_r31, List.forall_mem_append.mpr ⟨zin_wsL_law_r32, List.forall_mem_append.mpr ⟨zin_wsL_law_r33, List.forall_mem_append.mpr ⟨zin_wsL_law_r34, List.forall_mem_append.mpr ⟨zin_wsL_law_r35, List.forall_mem_append.mpr ⟨zin_wsL_law_r36, List.forall_mem_append.mpr ⟨zin_wsL_law_r37, List.forall_mem_append.mpr ⟨zin_wsL_law_r38, List.forall_mem_append.mpr ⟨zin_wsL_law_r39, List.forall_mem_append.mpr ⟨zin_wsL_law_r40, List.forall_mem_append.mpr ⟨zin_wsL_law_r41, List.forall_mem_append.mpr ⟨zin_wsL_law_r42, List.forall_mem_append.mpr ⟨zin_wsL_law_r43, List.forall_mem_append.mpr ⟨zin_wsL_law_r44, List.forall_mem_append.mpr ⟨zin_wsL_law_r45, List.forall_mem_append.mpr ⟨zin_wsL_law_r46, List.forall_mem_append.mpr ⟨zin_wsL_law_r47, List.forall_mem_append.mpr ⟨zin_wsL_law_r48, List.forall_mem_append.mpr ⟨zin_wsL_law_r49, List.forall_mem_append.mpr ⟨zin_wsL_law_r50, zin_wsL_law_r51⟩⟩⟩⟩⟩⟩⟩⟩⟩⟩⟩⟩⟩⟩⟩⟩⟩⟩⟩⟩⟩⟩⟩⟩⟩⟩⟩⟩⟩⟩⟩⟩⟩⟩⟩⟩⟩⟩⟩⟩⟩⟩⟩⟩⟩⟩⟩⟩⟩⟩, zin_X7⟩, zin_X8⟩, zin_X6⟩, zin_X0⟩, zin_X1⟩, zin_X2⟩, zin_X4⟩, zin_X5⟩, zin_X3⟩, fun _ h => absurd h List.not_mem_nil⟩
theorem inX0 : ∀ w ∈ wsX00, w ∈ lw_tbl := fun w h => wsL_law_in w (inlX0 w h)
theorem inX1 : ∀ w ∈ wsX10, w ∈ lw_tbl := fun w h => wsL_law_in w (inlX1 w h)
theorem inX2 : ∀ w ∈ wsX20, w ∈ lw_tbl := fun w h => wsL_law_in w (inlX2 w h)
theorem inX3 : ∀ w ∈ wsX30, w ∈ lw_tbl := fun w h => wsL_law_in w (inlX3 w h)
theorem inX4 : ∀ w ∈ wsX40, w ∈ lw_tbl := fun w h => wsL_law_in w (inlX4 w h)
theorem inX5 : ∀ w ∈ wsX50, w ∈ lw_tbl := fun w h => wsL_law_in w (inlX5 w h)
theorem inX6 : ∀ w ∈ wsX60, w ∈ lw_tbl := fun w h => wsL_law_in w (inlX6 w h)
theorem inX7 : ∀ w ∈ wsX70, w ∈ lw_tbl := fun w h => wsL_law_in w (inlX7 w h)
theorem inX8 : ∀ w ∈ wsX80, w ∈ lw_tbl := fun w h => wsL_law_in w (inlX8 w h)
theorem inJ9 : ∀ w ∈ wsJ90, w ∈ lw_tbl := by decide +kernel
theorem inJ10 : ∀ w ∈ wsJ100, w ∈ lw_tbl := by decide +kernel
