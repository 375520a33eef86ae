/-! ===== the words of the law are the tables words ===== -/
set_option maxRecDepth 100000 in
theorem wI_wsL_law0_r1 : ∀ w ∈ wsL_law0_r1, w ∈ lw_tbl := xIns [132, 133, 111, 1119, 1120, 121, 394, 134, 135, 136, 137, 138, 139, 140, 141, 112, 395, 250, 251, 115, 396, 287, 397, 298] (by decide +kernel)
set_option maxRecDepth 100000 in
theorem wI_wsL_law0_r2 : ∀ w ∈ wsL_law0_r2, w ∈ lw_tbl := xIns [398, 300, 117, 314, 315, 118, 399, 344, 345, 119, 400, 360, 361, 120, 401, 142, 143, 144, 145, 170, 215, 219, 222, 146] (by decide +kernel)
set_option maxRecDepth 100000 in
theorem wI_wsL_law0_r3 : ∀ w ∈ wsL_law0_r3, w ∈ lw_tbl := xIns [225, 148, 227, 150, 230, 208, 152, 113, 171, 114, 154, 155, 156, 157, 173, 174, 175, 176, 178, 180, 200, 202, 0, 203] (by decide +kernel)
set_option maxRecDepth 100000 in
theorem wI_wsL_law0_r4 : ∀ w ∈ wsL_law0_r4, w ∈ lw_tbl := xIns [204, 206, 1, 207, 253, 254, 255, 256, 257, 116, 286, 284, 288, 259, 260, 261, 262, 285, 302, 303, 304, 305, 317, 318] (by decide +kernel)
set_option maxRecDepth 100000 in
theorem wI_wsL_law0_r5 : ∀ w ∈ wsL_law0_r5, w ∈ lw_tbl := xIns [319, 320, 321, 323, 327, 329, 330, 347, 348, 349, 350, 351, 363, 364, 365, 366, 369, 370, 367, 371, 372, 373, 1121, 1122] (by decide +kernel)
set_option maxRecDepth 100000 in
theorem wI_wsL_law0_r6 : ∀ w ∈ wsL_law0_r6, w ∈ lw_tbl := xIns [1123, 1124, 1151, 1152, 1153, 1154, 1155, 1156, 1157, 1158, 1159, 624, 1161, 1125, 1170, 1262, 1171, 1173, 1175, 1181, 1182, 1183, 1184, 1185] (by decide +kernel)
set_option maxRecDepth 100000 in
theorem wI_wsL_law0_r7 : ∀ w ∈ wsL_law0_r7, w ∈ lw_tbl := xIns [1126, 1128, 45, 1129, 1174, 1130, 1132, 46, 1133, 1134, 1136, 47, 1137, 1138, 1140, 48, 1141, 1142, 1144, 49, 1145, 1146, 1148, 50] (by decide +kernel)
set_option maxRecDepth 100000 in
theorem wI_wsL_law0_r8 : ∀ w ∈ wsL_law0_r8, w ∈ lw_tbl := xIns [1149, 420, 421, 422, 423, 263, 424, 425, 426, 427, 264, 1263, 1264, 1265, 1266, 1150, 1162, 1267, 1269, 51, 1270, 428, 429, 430] (by decide +kernel)
set_option maxRecDepth 100000 in
theorem wI_wsL_law0_r9 : ∀ w ∈ wsL_law0_r9, w ∈ lw_tbl := xIns [431, 289, 231, 328, 432, 433, 434, 435, 212, 436, 438, 437, 122, 439, 440, 441, 442, 443, 161, 444, 445, 446, 447, 448] (by decide +kernel)
set_option maxRecDepth 100000 in
theorem wI_wsL_law0_r10 : ∀ w ∈ wsL_law0_r10, w ∈ lw_tbl := xIns [182, 184, 186, 449, 450, 451, 452, 290, 265, 453, 454, 455, 456, 457, 458, 123, 459, 270, 269, 460, 461, 462, 463, 268] (by decide +kernel)
set_option maxRecDepth 100000 in
theorem wI_wsL_law0_r11 : ∀ w ∈ wsL_law0_r11, w ∈ lw_tbl := xIns [266, 464, 466, 2, 467, 468, 470, 3, 471, 473, 474, 475, 476, 477, 478, 479, 124, 480, 1708, 481, 482, 483, 484, 485] (by decide +kernel)
set_option maxRecDepth 100000 in
theorem wI_wsL_law0_r12 : ∀ w ∈ wsL_law0_r12, w ∈ lw_tbl := xIns [1709, 487, 488, 489, 490, 491, 492, 493, 494, 495, 496, 125, 497, 498, 499, 500, 501, 503, 504, 126, 505, 506, 507, 127] (by decide +kernel)
set_option maxRecDepth 100000 in
theorem wI_wsL_law0_r13 : ∀ w ∈ wsL_law0_r13, w ∈ lw_tbl := xIns [508, 509, 510, 511, 512, 513, 514, 515, 516, 517, 518, 519, 521, 523, 525, 527, 4, 528, 218, 211, 529, 530, 532, 5] (by decide +kernel)
set_option maxRecDepth 100000 in
theorem wI_wsL_law0_r14 : ∀ w ∈ wsL_law0_r14, w ∈ lw_tbl := xIns [533, 534, 536, 6, 537, 267, 538, 539, 540, 541, 542, 543, 544, 545, 162, 546, 547, 548, 549, 550, 551, 552, 553, 555] (by decide +kernel)
set_option maxRecDepth 100000 in
theorem wI_wsL_law0_r15 : ∀ w ∈ wsL_law0_r15, w ∈ lw_tbl := xIns [557, 7, 558, 221, 560, 562, 8, 563, 214, 565, 567, 9, 568, 228, 163, 569, 571, 10, 572, 574, 575, 576, 578, 11] (by decide +kernel)
set_option maxRecDepth 100000 in
theorem wI_wsL_law0_r16 : ∀ w ∈ wsL_law0_r16, w ∈ lw_tbl := xIns [579, 580, 581, 582, 583, 584, 585, 586, 587, 588, 589, 590, 591, 592, 593, 594, 595, 597, 599, 12, 600, 232, 601, 602] (by decide +kernel)
set_option maxRecDepth 100000 in
theorem wI_wsL_law0_r17 : ∀ w ∈ wsL_law0_r17, w ∈ lw_tbl := xIns [603, 604, 605, 606, 608, 13, 609, 611, 612, 613, 614, 615, 616, 618, 14, 619, 620, 621, 622, 623, 307, 1271, 1272, 1273] (by decide +kernel)
set_option maxRecDepth 100000 in
theorem wI_wsL_law0_r18 : ∀ w ∈ wsL_law0_r18, w ∈ lw_tbl := xIns [1274, 1163, 1165, 1168, 1166, 1275, 1276, 1277, 1278, 1280, 52, 1281, 1164, 1167, 1282, 1284, 53, 1285, 1286, 1288, 54, 1289, 1290, 1292] (by decide +kernel)
set_option maxRecDepth 100000 in
theorem wI_wsL_law0_r19 : ∀ w ∈ wsL_law0_r19, w ∈ lw_tbl := xIns [55, 1293, 1294, 1296, 56, 1297, 1169, 1298, 1299, 1300, 1301, 1303, 57, 1304, 1305, 1307, 58, 1308, 1309, 1310, 1311, 1312, 1313, 1314] (by decide +kernel)
set_option maxRecDepth 100000 in
theorem wI_wsL_law0_r20 : ∀ w ∈ wsL_law0_r20, w ∈ lw_tbl := xIns [1315, 1317, 59, 1318, 1319, 1321, 60, 1322, 1323, 1325, 61, 1326, 1327, 1329, 62, 1330, 1331, 1333, 63, 1334, 1335, 1337, 64, 1338] (by decide +kernel)
set_option maxRecDepth 100000 in
theorem wI_wsL_law0_r21 : ∀ w ∈ wsL_law0_r21, w ∈ lw_tbl := xIns [1339, 1340, 1342, 65, 1343, 1344, 1346, 66, 1347, 1348, 1350, 67, 1351, 1352, 1354, 68, 1355, 1356, 1358, 69, 1359, 625, 626, 627] (by decide +kernel)
set_option maxRecDepth 100000 in
theorem wI_wsL_law0_r22 : ∀ w ∈ wsL_law0_r22, w ∈ lw_tbl := xIns [628, 210, 217, 629, 630, 631, 632, 633, 635, 15, 636, 637, 1360, 1361, 1362, 1363, 1364, 1366, 70, 1367, 638, 639, 640, 641] (by decide +kernel)
set_option maxRecDepth 100000 in
theorem wI_wsL_law0_r23 : ∀ w ∈ wsL_law0_r23, w ∈ lw_tbl := xIns [1368, 1369, 1370, 1371, 642, 643, 644, 645, 220, 646, 1372, 1373, 1374, 1375, 1376, 1377, 1378, 647, 648, 649, 650, 213, 1379, 1380] (by decide +kernel)
set_option maxRecDepth 100000 in
theorem wI_wsL_law0_r24 : ∀ w ∈ wsL_law0_r24, w ∈ lw_tbl := xIns [1381, 1382, 651, 652, 653, 654, 224, 1383, 1384, 1385, 1386, 1042, 1043, 110, 1044, 1045, 1046, 1047, 1048, 1049, 1050, 131, 226, 664] (by decide +kernel)
set_option maxRecDepth 100000 in
theorem wI_wsL_law0_r25 : ∀ w ∈ wsL_law0_r25, w ∈ lw_tbl := xIns [665, 666, 667, 1387, 1388, 1389, 1390, 1391, 1393, 71, 1394, 1115, 1116, 1117, 1118, 655, 656, 657, 658, 659, 1395, 1396, 1397, 1398] (by decide +kernel)
set_option maxRecDepth 100000 in
theorem wI_wsL_law0_r26 : ∀ w ∈ wsL_law0_r26, w ∈ lw_tbl := xIns [1399, 1401, 72, 1402, 660, 661, 662, 663, 669, 670, 671, 672, 673, 674, 675, 676, 677, 678, 679, 680, 1403, 1404, 1405, 1406] (by decide +kernel)
set_option maxRecDepth 100000 in
theorem wI_wsL_law0_r27 : ∀ w ∈ wsL_law0_r27, w ∈ lw_tbl := xIns [681, 682, 683, 684, 685, 686, 687, 688, 689, 691, 16, 692, 693, 695, 17, 696, 1407, 1408, 1409, 1410, 1411, 1413, 73, 1414] (by decide +kernel)
set_option maxRecDepth 100000 in
theorem wI_wsL_law0_r28 : ∀ w ∈ wsL_law0_r28, w ∈ lw_tbl := xIns [1415, 1417, 74, 1418, 1419, 1421, 75, 1422, 1423, 1425, 76, 1426, 697, 698, 699, 700, 701, 702, 703, 704, 705, 706, 707, 708] (by decide +kernel)
set_option maxRecDepth 100000 in
theorem wI_wsL_law0_r29 : ∀ w ∈ wsL_law0_r29, w ∈ lw_tbl := xIns [709, 1427, 1428, 1429, 1430, 1431, 1433, 77, 1434, 710, 711, 712, 713, 714, 1435, 1436, 1437, 1438, 1439, 715, 716, 717, 718, 719] (by decide +kernel)
set_option maxRecDepth 100000 in
theorem wI_wsL_law0_r30 : ∀ w ∈ wsL_law0_r30, w ∈ lw_tbl := xIns [720, 721, 722, 723, 724, 725, 726, 727, 1440, 1441, 1442, 1443, 1444, 1446, 78, 1447, 1448, 1450, 79, 1451, 728, 729, 730, 731] (by decide +kernel)
set_option maxRecDepth 100000 in
theorem wI_wsL_law0_r31 : ∀ w ∈ wsL_law0_r31, w ∈ lw_tbl := xIns [324, 322, 732, 733, 734, 735, 325, 736, 738, 18, 739, 223, 740, 742, 19, 743, 744, 745, 747, 20, 748, 749, 750, 752] (by decide +kernel)
set_option maxRecDepth 100000 in
theorem wI_wsL_law0_r32 : ∀ w ∈ wsL_law0_r32, w ∈ lw_tbl := xIns [21, 753, 754, 756, 22, 757, 1452, 1453, 1454, 1455, 1456, 1458, 80, 1459, 1172, 1460, 1462, 81, 1463, 758, 759, 760, 761, 326] (by decide +kernel)
set_option maxRecDepth 100000 in
theorem wI_wsL_law0_r33 : ∀ w ∈ wsL_law0_r33, w ∈ lw_tbl := xIns [1464, 1465, 1466, 1467, 762, 763, 764, 765, 766, 768, 23, 769, 775, 776, 777, 770, 771, 772, 773, 774, 1468, 1469, 1470, 1471] (by decide +kernel)
set_option maxRecDepth 100000 in
theorem wI_wsL_law0_r34 : ∀ w ∈ wsL_law0_r34, w ∈ lw_tbl := xIns [1476, 1472, 1474, 82, 1475, 778, 779, 780, 781, 229, 164, 782, 784, 24, 785, 786, 787, 1477, 1478, 1479, 1480, 1481, 1483, 83] (by decide +kernel)
set_option maxRecDepth 100000 in
theorem wI_wsL_law0_r35 : ∀ w ∈ wsL_law0_r35, w ∈ lw_tbl := xIns [1484, 1485, 1487, 84, 1488, 1489, 1491, 85, 1492, 788, 789, 790, 791, 1493, 1494, 1495, 1496, 792, 793, 794, 795, 159, 1497, 1498] (by decide +kernel)
set_option maxRecDepth 100000 in
theorem wI_wsL_law0_r36 : ∀ w ∈ wsL_law0_r36, w ∈ lw_tbl := xIns [1499, 1500, 796, 797, 798, 799, 800, 801, 802, 803, 805, 25, 806, 807, 809, 26, 810, 811, 812, 813, 814, 160, 158, 815] (by decide +kernel)
set_option maxRecDepth 100000 in
theorem wI_wsL_law0_r37 : ∀ w ∈ wsL_law0_r37, w ∈ lw_tbl := xIns [817, 27, 818, 819, 820, 821, 822, 823, 825, 28, 826, 375, 374, 376, 827, 828, 829, 831, 29, 832, 833, 835, 30, 836] (by decide +kernel)
set_option maxRecDepth 100000 in
theorem wI_wsL_law0_r38 : ∀ w ∈ wsL_law0_r38, w ∈ lw_tbl := xIns [837, 839, 31, 840, 841, 843, 32, 844, 845, 847, 33, 848, 849, 851, 34, 852, 853, 854, 855, 856, 857, 858, 859, 860] (by decide +kernel)
set_option maxRecDepth 100000 in
theorem wI_wsL_law0_r39 : ∀ w ∈ wsL_law0_r39, w ∈ lw_tbl := xIns [861, 862, 863, 864, 865, 866, 867, 1501, 1502, 1503, 1504, 1179, 1180, 1505, 1507, 86, 1508, 1509, 1511, 87, 1512, 1176, 1177, 1513] (by decide +kernel)
set_option maxRecDepth 100000 in
theorem wI_wsL_law0_r40 : ∀ w ∈ wsL_law0_r40, w ∈ lw_tbl := xIns [1515, 88, 1516, 1517, 1519, 89, 1520, 1178, 1521, 1522, 1523, 1524, 1526, 90, 1527, 1528, 1529, 1530, 1531, 1533, 91, 1534, 1535, 1537] (by decide +kernel)
set_option maxRecDepth 100000 in
theorem wI_wsL_law0_r41 : ∀ w ∈ wsL_law0_r41, w ∈ lw_tbl := xIns [92, 1538, 1539, 1541, 93, 1542, 1543, 1545, 94, 1546, 1547, 1549, 95, 1550, 1551, 1552, 1553, 1554, 1555, 1556, 868, 869, 870, 871] (by decide +kernel)
set_option maxRecDepth 100000 in
theorem wI_wsL_law0_r42 : ∀ w ∈ wsL_law0_r42, w ∈ lw_tbl := xIns [872, 873, 874, 875, 1557, 1558, 1559, 1560, 876, 877, 878, 879, 880, 881, 882, 883, 1561, 1562, 1563, 1564, 884, 885, 886, 887] (by decide +kernel)
set_option maxRecDepth 100000 in
theorem wI_wsL_law0_r43 : ∀ w ∈ wsL_law0_r43, w ∈ lw_tbl := xIns [888, 889, 890, 891, 1565, 1566, 1567, 1568, 892, 893, 894, 895, 183, 896, 897, 898, 899, 900, 901, 902, 903, 904, 905, 1569] (by decide +kernel)
set_option maxRecDepth 100000 in
theorem wI_wsL_law0_r44 : ∀ w ∈ wsL_law0_r44, w ∈ lw_tbl := xIns [1570, 1571, 1572, 1573, 1575, 96, 1576, 1577, 1579, 97, 1580, 1581, 1583, 98, 1584, 906, 907, 908, 909, 177, 179, 181, 1585, 1586] (by decide +kernel)
set_option maxRecDepth 100000 in
theorem wI_wsL_law0_r45 : ∀ w ∈ wsL_law0_r45, w ∈ lw_tbl := xIns [1587, 1588, 1589, 1591, 99, 1592, 910, 911, 912, 913, 354, 914, 916, 35, 917, 918, 920, 36, 921, 922, 923, 924, 925, 353] (by decide +kernel)
set_option maxRecDepth 100000 in
theorem wI_wsL_law0_r46 : ∀ w ∈ wsL_law0_r46, w ∈ lw_tbl := xIns [926, 927, 928, 929, 209, 930, 931, 933, 37, 934, 935, 937, 38, 938, 939, 940, 941, 942, 216, 943, 1593, 1594, 1595, 1596] (by decide +kernel)
set_option maxRecDepth 100000 in
theorem wI_wsL_law0_r47 : ∀ w ∈ wsL_law0_r47, w ∈ lw_tbl := xIns [1597, 1599, 100, 1600, 1186, 1601, 1603, 101, 1604, 1605, 1607, 102, 1608, 1609, 1611, 103, 1612, 1613, 1615, 104, 1616, 1617, 1619, 105] (by decide +kernel)
set_option maxRecDepth 100000 in
theorem wI_wsL_law0_r48 : ∀ w ∈ wsL_law0_r48, w ∈ lw_tbl := xIns [1620, 944, 945, 946, 947, 1621, 1622, 1623, 1624, 948, 949, 950, 951, 185, 1625, 1626, 1627, 1628, 952, 953, 954, 955, 956, 957] (by decide +kernel)
set_option maxRecDepth 100000 in
theorem wI_wsL_law0_r49 : ∀ w ∈ wsL_law0_r49, w ∈ lw_tbl := xIns [958, 959, 960, 962, 39, 963, 964, 966, 40, 967, 1629, 1630, 1631, 1632, 968, 969, 970, 971, 1633, 1634, 1635, 1636, 972, 973] (by decide +kernel)
set_option maxRecDepth 100000 in
theorem wI_wsL_law0_r50 : ∀ w ∈ wsL_law0_r50, w ∈ lw_tbl := xIns [974, 975, 1637, 1638, 1639, 1640, 976, 977, 978, 979, 352, 1641, 1642, 1643, 1644, 980, 981, 982, 983, 402, 1645, 1646, 1647, 1648] (by decide +kernel)
set_option maxRecDepth 100000 in
theorem wI_wsL_law0_r51 : ∀ w ∈ wsL_law0_r51, w ∈ lw_tbl := xIns [1160, 984, 985, 986, 987, 988, 989, 990, 991, 992, 994, 41, 995, 996, 998, 42, 999, 1000, 1001, 1002, 1003, 1004, 1005, 1649] (by decide +kernel)
set_option maxRecDepth 100000 in
theorem wI_wsL_law0_r52 : ∀ w ∈ wsL_law0_r52, w ∈ lw_tbl := xIns [1650, 1651, 1652, 1653, 1655, 106, 1656, 1657, 1659, 107, 1660, 1661, 1663, 108, 1664, 1665, 1666, 1006, 1007, 1008, 1009, 1667, 1668, 1669] (by decide +kernel)
set_option maxRecDepth 100000 in
theorem wI_wsL_law0_r53 : ∀ w ∈ wsL_law0_r53, w ∈ lw_tbl := xIns [1670, 1010, 1011, 1012, 1013, 308, 1014, 1015, 1016, 1017, 1671, 1672, 1673, 1674, 1018, 1019, 1020, 1021, 306, 1675, 1676, 1677, 1678, 1679] (by decide +kernel)
set_option maxRecDepth 100000 in
theorem wI_wsL_law0_r54 : ∀ w ∈ wsL_law0_r54, w ∈ lw_tbl := xIns [1681, 109, 1682, 1022, 1023, 1024, 1025, 1031, 1032, 1033, 1026, 1027, 1028, 1029, 1030, 1683, 1684, 1685, 1686, 1687, 1688, 1034, 1035, 1036] (by decide +kernel)
set_option maxRecDepth 100000 in
theorem wI_wsL_law0_r55 : ∀ w ∈ wsL_law0_r55, w ∈ lw_tbl := xIns [1037, 1038, 1040, 43, 1041, 1689, 1690, 1691, 1692] (by decide +kernel)
set_option maxRecDepth 100000 in
theorem wI_wsX90 : ∀ w ∈ wsX90, w ∈ lw_tbl := xIns [403, 405, 407, 409, 411, 413, 415, 417] (by decide +kernel)
set_option maxRecDepth 100000 in
theorem wI_wsX100 : ∀ w ∈ wsX100, w ∈ lw_tbl := xIns [1187, 1189, 1191, 1193, 1195, 1197, 1199, 1201, 1203, 1205, 1207, 1209, 1211, 1213, 1215, 1217, 1219, 1221, 1223, 1225, 1227, 1229, 1231, 1233, 1235, 1237, 1239, 1241, 1243, 1245, 1247, 1249, 1251, 1253, 1255, 1257, 1259] (by decide +kernel)
set_option maxRecDepth 100000 in
theorem wI_wsX40 : ∀ w ∈ wsX40, w ∈ lw_tbl := xIns [233, 235, 237, 239, 241, 243, 245, 247] (by decide +kernel)
set_option maxRecDepth 100000 in
theorem wI_wsX80 : ∀ w ∈ wsX80, w ∈ lw_tbl := xIns [291, 293, 295] (by decide +kernel)
set_option maxRecDepth 100000 in
theorem wI_wsX20 : ∀ w ∈ wsX20, w ∈ lw_tbl := xIns [309, 311] (by decide +kernel)
set_option maxRecDepth 100000 in
theorem wI_wsX50 : ∀ w ∈ wsX50, w ∈ lw_tbl := xIns [331, 333, 335, 337, 339, 341] (by decide +kernel)
set_option maxRecDepth 100000 in
theorem wI_wsX60 : ∀ w ∈ wsX60, w ∈ lw_tbl := xIns [355, 357] (by decide +kernel)
set_option maxRecDepth 100000 in
theorem wI_wsX10 : ∀ w ∈ wsX10, w ∈ lw_tbl := xIns [377, 379, 381, 383, 385, 387, 389, 391] (by decide +kernel)
set_option maxRecDepth 100000 in
theorem wI_wsX00 : ∀ w ∈ wsX00, w ∈ lw_tbl := xIns [165, 167] (by decide +kernel)
set_option maxRecDepth 100000 in
theorem wI_wsX30 : ∀ w ∈ wsX30, w ∈ lw_tbl := xIns [187, 189, 191, 193, 195, 197] (by decide +kernel)
set_option maxRecDepth 100000 in
theorem wI_wsX70 : ∀ w ∈ wsX70, w ∈ lw_tbl := xIns [271, 273, 275, 277, 279, 281] (by decide +kernel)
theorem wI_all : ∀ w ∈ wsL_law0, w ∈ lw_tbl := by
  intro w h
  rcases List.mem_append.mp h with h | h
  rotate_left
  · exact wI_x w h
  rcases List.mem_append.mp h with h | h
  rotate_left
  · cases h
  rcases List.mem_append.mp h with h | h
  rotate_left
  · exact wI_wsX70 w h
  rcases List.mem_append.mp h with h | h
  rotate_left
  · exact wI_wsX30 w h
  rcases List.mem_append.mp h with h | h
  rotate_left
  · exact wI_wsX00 w h
  rcases List.mem_append.mp h with h | h
  rotate_left
  · exact wI_wsX10 w h
  rcases List.mem_append.mp h with h | h
  rotate_left
  · exact wI_wsX60 w h
  rcases List.mem_append.mp h with h | h
  rotate_left
  · exact wI_wsX50 w h
  rcases List.mem_append.mp h with h | h
  rotate_left
  · exact wI_wsX20 w h
  rcases List.mem_append.mp h with h | h
  rotate_left
  · exact wI_wsX80 w h
  rcases List.mem_append.mp h with h | h
  rotate_left
  · exact wI_wsX40 w h
  rcases List.mem_append.mp h with h | h
  rotate_left
  · exact wI_wsX100 w h
  rcases List.mem_append.mp h with h | h
  rotate_left
  · exact wI_wsX90 w h
  rcases List.mem_append.mp h with h | h
  · exact wI_wsL_law0_r1 w h
  rcases List.mem_append.mp h with h | h
  · exact wI_wsL_law0_r2 w h
  rcases List.mem_append.mp h with h | h
  · exact wI_wsL_law0_r3 w h
  rcases List.mem_append.mp h with h | h
  · exact wI_wsL_law0_r4 w h
  rcases List.mem_append.mp h with h | h
  · exact wI_wsL_law0_r5 w h
  rcases List.mem_append.mp h with h | h
  · exact wI_wsL_law0_r6 w h
  rcases List.mem_append.mp h with h | h
  · exact wI_wsL_law0_r7 w h
  rcases List.mem_append.mp h with h | h
  · exact wI_wsL_law0_r8 w h
  rcases List.mem_append.mp h with h | h
  · exact wI_wsL_law0_r9 w h
  rcases List.mem_append.mp h with h | h
  · exact wI_wsL_law0_r10 w h
  rcases List.mem_append.mp h with h | h
  · exact wI_wsL_law0_r11 w h
  rcases List.mem_append.mp h with h | h
  · exact wI_wsL_law0_r12 w h
  rcases List.mem_append.mp h with h | h
  · exact wI_wsL_law0_r13 w h
  rcases List.mem_append.mp h with h | h
  · exact wI_wsL_law0_r14 w h
  rcases List.mem_append.mp h with h | h
  · exact wI_wsL_law0_r15 w h
  rcases List.mem_append.mp h with h | h
  · exact wI_wsL_law0_r16 w h
  rcases List.mem_append.mp h with h | h
  · exact wI_wsL_law0_r17 w h
  rcases List.mem_append.mp h with h | h
  · exact wI_wsL_law0_r18 w h
  rcases List.mem_append.mp h with h | h
  · exact wI_wsL_law0_r19 w h
  rcases List.mem_append.mp h with h | h
  · exact wI_wsL_law0_r20 w h
  rcases List.mem_append.mp h with h | h
  · exact wI_wsL_law0_r21 w h
  rcases List.mem_append.mp h with h | h
  · exact wI_wsL_law0_r22 w h
  rcases List.mem_append.mp h with h | h
  · exact wI_wsL_law0_r23 w h
  rcases List.mem_append.mp h with h | h
  · exact wI_wsL_law0_r24 w h
  rcases List.mem_append.mp h with h | h
  · exact wI_wsL_law0_r25 w h
  rcases List.mem_append.mp h with h | h
  · exact wI_wsL_law0_r26 w h
  rcases List.mem_append.mp h with h | h
  · exact wI_wsL_law0_r27 w h
  rcases List.mem_append.mp h with h | h
  · exact wI_wsL_law0_r28 w h
  rcases List.mem_append.mp h with h | h
  · exact wI_wsL_law0_r29 w h
  rcases List.mem_append.mp h with h | h
  · exact wI_wsL_law0_r30 w h
  rcases List.mem_append.mp h with h | h
  · exact wI_wsL_law0_r31 w h
  rcases List.mem_append.mp h with h | h
  · exact wI_wsL_law0_r32 w h
  rcases List.mem_append.mp h with h | h
  · exact wI_wsL_law0_r33 w h
  rcases List.mem_append.mp h with h | h
  · exact wI_wsL_law0_r34 w h
  rcases List.mem_append.mp h with h | h
  · exact wI_wsL_law0_r35 w h
  rcases List.mem_append.mp h with h | h
  · exact wI_wsL_law0_r36 w h
  rcases List.mem_append.mp h with h | h
  · exact wI_wsL_law0_r37 w h
  rcases List.mem_append.mp h with h | h
  · exact wI_wsL_law0_r38 w h
  rcases List.mem_append.mp h with h | h
  · exact wI_wsL_law0_r39 w h
  rcases List.mem_append.mp h with h | h
  · exact wI_wsL_law0_r40 w h
  rcases List.mem_append.mp h with h | h
  · exact wI_wsL_law0_r41 w h
  rcases List.mem_append.mp h with h | h
  · exact wI_wsL_law0_r42 w h
  rcases List.mem_append.mp h with h | h
  · exact wI_wsL_law0_r43 w h
  rcases List.mem_append.mp h with h | h
  · exact wI_wsL_law0_r44 w h
  rcases List.mem_append.mp h with h | h
  · exact wI_wsL_law0_r45 w h
  rcases List.mem_append.mp h with h | h
  · exact wI_wsL_law0_r46 w h
  rcases List.mem_append.mp h with h | h
  · exact wI_wsL_law0_r47 w h
  rcases List.mem_append.mp h with h | h
  · exact wI_wsL_law0_r48 w h
  rcases List.mem_append.mp h with h | h
  · exact wI_wsL_law0_r49 w h
  rcases List.mem_append.mp h with h | h
  · exact wI_wsL_law0_r50 w h
  rcases List.mem_append.mp h with h | h
  · exact wI_wsL_law0_r51 w h
  rcases List.mem_append.mp h with h | h
  · exact wI_wsL_law0_r52 w h
  rcases List.mem_append.mp h with h | h
  · exact wI_wsL_law0_r53 w h
  rcases List.mem_append.mp h with h | h
  · exact wI_wsL_law0_r54 w h
  exact wI_wsL_law0_r55 w h
