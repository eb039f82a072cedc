/-! The law's words, by their places in the tables. -/
theorem z_inp {ws : List Cond} (ps : List Nat) (hp : ws = ps.filterMap (fun i => lw_tbl[i]?)) : ∀ w ∈ ws, w ∈ lw_tbl := by
  intro w hw
  rw [hp] at hw
  obtain ⟨i, -, hi⟩ := List.mem_filterMap.mp hw
  exact List.mem_of_getElem? hi
theorem z_inap {a b : List Cond} (ha : ∀ w ∈ a, w ∈ lw_tbl) (hb : ∀ w ∈ b, w ∈ lw_tbl) : ∀ w ∈ a ++ b, w ∈ lw_tbl := fun w h => (List.mem_append.mp h).elim (ha w) (hb w)
set_option maxRecDepth 20000 in
theorem li_r1 : ∀ w ∈ wsL_law0_r1, w ∈ lw_tbl := z_inp [121, 122, 98, 1147, 1148, 108, 1245, 123, 124, 125, 126, 127, 128, 129, 130, 99, 343, 214, 136, 100, 344, 216, 217, 101] rfl
set_option maxRecDepth 20000 in
theorem li_r2 : ∀ w ∈ wsL_law0_r2, w ∈ lw_tbl := z_inp [345, 346, 236, 237, 102, 347, 279, 280, 104, 348, 304, 305, 105, 349, 317, 318, 106, 350, 333, 334, 107, 351, 132, 133] rfl
set_option maxRecDepth 20000 in
theorem li_r3 : ∀ w ∈ wsL_law0_r3, w ∈ lw_tbl := z_inp [134, 174, 176, 135, 179, 183, 138, 139, 140, 175, 151, 155, 160, 218, 219, 220, 221, 222, 225, 238, 239, 240, 241, 242] rfl
set_option maxRecDepth 20000 in
theorem li_r4 : ∀ w ∈ wsL_law0_r4, w ∈ lw_tbl := z_inp [269, 271, 244, 103, 246, 247, 248, 254, 256, 282, 283, 284, 285, 287, 289, 291, 292, 307, 308, 309, 310, 311, 320, 321] rfl
set_option maxRecDepth 20000 in
theorem li_r5 : ∀ w ∈ wsL_law0_r5, w ∈ lw_tbl := z_inp [322, 323, 324, 325, 336, 337, 338, 339, 1149, 1150, 1151, 1152, 1154, 1155, 1156, 1158, 1244, 1159, 534, 1160, 1164, 1167, 1168, 1169] rfl
set_option maxRecDepth 20000 in
theorem li_r6 : ∀ w ∈ wsL_law0_r6, w ∈ lw_tbl := z_inp [1170, 1172, 1173, 1174, 1175, 1176, 1177, 1178, 1179, 1180, 1181, 1182, 371, 372, 373, 374, 375, 376, 377, 378, 177, 1250, 1251, 1252] rfl
set_option maxRecDepth 20000 in
theorem li_r7 : ∀ w ∈ wsL_law0_r7, w ∈ lw_tbl := z_inp [1253, 1153, 1161, 379, 380, 381, 382, 383, 384, 385, 386, 1254, 1255, 1256, 1257, 1258, 1259, 1260, 387, 388, 389, 390, 180, 391] rfl
set_option maxRecDepth 20000 in
theorem li_r8 : ∀ w ∈ wsL_law0_r8, w ∈ lw_tbl := z_inp [392, 393, 394, 186, 181, 185, 187, 395, 396, 397, 398, 141, 145, 148, 399, 400, 109, 401, 402, 404, 0, 405, 188, 406] rfl
set_option maxRecDepth 20000 in
theorem li_r9 : ∀ w ∈ wsL_law0_r9, w ∈ lw_tbl := z_inp [407, 408, 409, 411, 1, 412, 414, 416, 2, 417, 418, 419, 420, 110, 421, 1741, 422, 423, 424, 425, 426, 1742, 428, 429] rfl
set_option maxRecDepth 20000 in
theorem li_r10 : ∀ w ∈ wsL_law0_r10, w ∈ lw_tbl := z_inp [430, 431, 432, 433, 434, 435, 436, 437, 111, 438, 439, 440, 441, 442, 444, 445, 112, 446, 447, 448, 113, 449, 450, 451] rfl
set_option maxRecDepth 20000 in
theorem li_r11 : ∀ w ∈ wsL_law0_r11, w ∈ lw_tbl := z_inp [452, 453, 454, 455, 456, 457, 458, 459, 460, 462, 464, 468, 469, 470, 471, 473, 3, 474, 189, 190, 475, 477, 4, 478] rfl
set_option maxRecDepth 20000 in
theorem li_r12 : ∀ w ∈ wsL_law0_r12, w ∈ lw_tbl := z_inp [479, 481, 5, 482, 483, 485, 6, 486, 487, 489, 7, 490, 491, 493, 8, 494, 149, 495, 497, 9, 498, 142, 499, 500] rfl
set_option maxRecDepth 20000 in
theorem li_r13 : ∀ w ∈ wsL_law0_r13, w ∈ lw_tbl := z_inp [501, 502, 503, 505, 10, 506, 507, 508, 509, 510, 511, 512, 513, 514, 516, 517, 518, 519, 520, 521, 522, 523, 524, 525] rfl
set_option maxRecDepth 20000 in
theorem li_r14 : ∀ w ∈ wsL_law0_r14, w ∈ lw_tbl := z_inp [526, 528, 527, 114, 529, 530, 531, 532, 227, 533, 1265, 1266, 1267, 1268, 1162, 1165, 1163, 1166, 1157, 1269, 1271, 34, 1272, 1273] rfl
set_option maxRecDepth 20000 in
theorem li_r15 : ∀ w ∈ wsL_law0_r15, w ∈ lw_tbl := z_inp [1275, 35, 1276, 1278, 1280, 36, 1281, 1282, 1283, 1284, 1285, 1288, 1290, 37, 1291, 1292, 1293, 1294, 1296, 38, 1297, 1298, 1300, 39] rfl
set_option maxRecDepth 20000 in
theorem li_r16 : ∀ w ∈ wsL_law0_r16, w ∈ lw_tbl := z_inp [1301, 1302, 1304, 40, 1305, 1306, 1308, 41, 1309, 1310, 1312, 42, 1313, 1314, 1316, 43, 1317, 1318, 1319, 1320, 1321, 1322, 1323, 535] rfl
set_option maxRecDepth 20000 in
theorem li_r17 : ∀ w ∈ wsL_law0_r17, w ∈ lw_tbl := z_inp [536, 537, 538, 182, 184, 1261, 1262, 1263, 1264, 539, 540, 541, 542, 543, 544, 545, 546, 547, 548, 226, 550, 551, 115, 552] rfl
set_option maxRecDepth 20000 in
theorem li_r18 : ∀ w ∈ wsL_law0_r18, w ∈ lw_tbl := z_inp [549, 553, 554, 555, 556, 557, 558, 559, 116, 560, 561, 562, 563, 1324, 1325, 1326, 1327, 1328, 1330, 44, 1331, 1332, 1334, 45] rfl
set_option maxRecDepth 20000 in
theorem li_r19 : ∀ w ∈ wsL_law0_r19, w ∈ lw_tbl := z_inp [1335, 1336, 1337, 1339, 46, 1340, 1341, 1343, 47, 1344, 1345, 1347, 48, 1348, 1349, 1351, 49, 1352, 1353, 1354, 1355, 564, 565, 566] rfl
set_option maxRecDepth 20000 in
theorem li_r20 : ∀ w ∈ wsL_law0_r20, w ∈ lw_tbl := z_inp [567, 568, 569, 570, 571, 572, 1356, 1357, 1358, 1359, 1360, 1361, 1363, 50, 1364, 573, 574, 575, 576, 150, 577, 579, 11, 580] rfl
set_option maxRecDepth 20000 in
theorem li_r21 : ∀ w ∈ wsL_law0_r21, w ∈ lw_tbl := z_inp [143, 1365, 1366, 1367, 1368, 1373, 1369, 1371, 51, 1372, 581, 582, 583, 584, 146, 585, 586, 587, 588, 589, 1374, 1375, 1376, 1377] rfl
set_option maxRecDepth 20000 in
theorem li_r22 : ∀ w ∈ wsL_law0_r22, w ∈ lw_tbl := z_inp [590, 591, 592, 593, 228, 594, 595, 596, 597, 1378, 1379, 1380, 1381, 598, 599, 600, 601, 1382, 1383, 1384, 1385, 602, 603, 604] rfl
set_option maxRecDepth 20000 in
theorem li_r23 : ∀ w ∈ wsL_law0_r23, w ∈ lw_tbl := z_inp [605, 606, 608, 12, 609, 1386, 1387, 1388, 1389, 1077, 1078, 97, 1079, 1080, 1081, 1082, 1083, 1084, 1085, 120, 153, 159, 694, 695] rfl
set_option maxRecDepth 20000 in
theorem li_r24 : ∀ w ∈ wsL_law0_r24, w ∈ lw_tbl := z_inp [696, 697, 698, 699, 700, 1146, 1033, 1034, 1035, 1390, 1391, 1392, 1393, 1394, 1396, 52, 1397, 1398, 1400, 53, 1401, 1402, 1404, 54] rfl
set_option maxRecDepth 20000 in
theorem li_r25 : ∀ w ∈ wsL_law0_r25, w ∈ lw_tbl := z_inp [1405, 1406, 1408, 55, 1409, 1246, 1247, 1248, 1249, 610, 611, 612, 613, 614, 615, 616, 617, 618, 619, 620, 621, 622, 623, 624] rfl
set_option maxRecDepth 20000 in
theorem li_r26 : ∀ w ∈ wsL_law0_r26, w ∈ lw_tbl := z_inp [625, 626, 627, 628, 629, 630, 631, 632, 633, 1410, 1411, 1412, 1413, 1414, 1416, 56, 1417, 634, 635, 636, 637, 288, 638, 639] rfl
set_option maxRecDepth 20000 in
theorem li_r27 : ∀ w ∈ wsL_law0_r27, w ∈ lw_tbl := z_inp [640, 641, 156, 651, 642, 643, 644, 645, 646, 648, 13, 649, 1418, 1419, 1420, 1421, 1422, 1424, 57, 1425, 652, 653, 654, 655] rfl
set_option maxRecDepth 20000 in
theorem li_r28 : ∀ w ∈ wsL_law0_r28, w ∈ lw_tbl := z_inp [656, 657, 658, 659, 660, 661, 662, 663, 664, 1426, 1427, 1428, 1429, 1430, 1432, 58, 1433, 1434, 1436, 59, 1437, 1438, 1440, 60] rfl
set_option maxRecDepth 20000 in
theorem li_r29 : ∀ w ∈ wsL_law0_r29, w ∈ lw_tbl := z_inp [1441, 665, 666, 667, 668, 669, 670, 671, 672, 673, 674, 675, 676, 677, 1442, 1443, 1444, 1445, 1446, 1448, 61, 1449, 1450, 1452] rfl
set_option maxRecDepth 20000 in
theorem li_r30 : ∀ w ∈ wsL_law0_r30, w ∈ lw_tbl := z_inp [62, 1453, 1454, 1456, 63, 1457, 678, 679, 680, 681, 682, 683, 684, 685, 687, 14, 688, 689, 691, 15, 692, 693, 701, 702] rfl
set_option maxRecDepth 20000 in
theorem li_r31 : ∀ w ∈ wsL_law0_r31, w ∈ lw_tbl := z_inp [703, 704, 705, 706, 707, 708, 709, 710, 711, 712, 713, 715, 717, 16, 718, 719, 720, 721, 722, 723, 724, 725, 1458, 1459] rfl
set_option maxRecDepth 20000 in
theorem li_r32 : ∀ w ∈ wsL_law0_r32, w ∈ lw_tbl := z_inp [1460, 1461, 1462, 1463, 1465, 64, 1466, 1467, 1469, 65, 1470, 1171, 1471, 1473, 66, 1474, 1475, 1477, 67, 1478, 1479, 1481, 68, 1482] rfl
set_option maxRecDepth 20000 in
theorem li_r33 : ∀ w ∈ wsL_law0_r33, w ∈ lw_tbl := z_inp [1483, 1485, 69, 1486, 1487, 1489, 70, 1490, 1491, 1493, 71, 1494, 1495, 1497, 72, 1498, 1499, 1501, 73, 1502, 1503, 1505, 74, 1506] rfl
set_option maxRecDepth 20000 in
theorem li_r34 : ∀ w ∈ wsL_law0_r34, w ∈ lw_tbl := z_inp [1507, 1509, 75, 1510, 1511, 1513, 76, 1514, 726, 727, 728, 729, 730, 731, 732, 733, 734, 1515, 1516, 1517, 1518, 1519, 1521, 77] rfl
set_option maxRecDepth 20000 in
theorem li_r35 : ∀ w ∈ wsL_law0_r35, w ∈ lw_tbl := z_inp [1522, 735, 736, 737, 738, 739, 740, 741, 742, 743, 1523, 1524, 1525, 1526, 1527, 1529, 78, 1530, 744, 745, 746, 747, 748, 749] rfl
set_option maxRecDepth 20000 in
theorem li_r36 : ∀ w ∈ wsL_law0_r36, w ∈ lw_tbl := z_inp [750, 751, 147, 752, 754, 17, 755, 154, 1531, 1532, 1533, 1534, 756, 757, 758, 759, 286, 760, 1535, 1536, 1537, 1538, 761, 762] rfl
set_option maxRecDepth 20000 in
theorem li_r37 : ∀ w ∈ wsL_law0_r37, w ∈ lw_tbl := z_inp [763, 764, 765, 767, 18, 768, 769, 770, 771, 772, 1539, 1540, 1541, 1542, 1543, 1545, 79, 1546, 1547, 1549, 80, 1550, 773, 774] rfl
set_option maxRecDepth 20000 in
theorem li_r38 : ∀ w ∈ wsL_law0_r38, w ∈ lw_tbl := z_inp [775, 776, 268, 777, 778, 779, 780, 267, 781, 783, 19, 784, 785, 787, 20, 788, 789, 790, 791, 792, 793, 249, 252, 794] rfl
set_option maxRecDepth 20000 in
theorem li_r39 : ∀ w ∈ wsL_law0_r39, w ∈ lw_tbl := z_inp [795, 796, 797, 798, 799, 800, 802, 803, 804, 805, 806, 807, 808, 809, 810, 811, 812, 813, 814, 815, 816, 817, 818, 819] rfl
set_option maxRecDepth 20000 in
theorem li_r40 : ∀ w ∈ wsL_law0_r40, w ∈ lw_tbl := z_inp [820, 821, 822, 823, 824, 825, 826, 827, 250, 828, 829, 830, 831, 832, 833, 1551, 1552, 1553, 1554, 1555, 834, 835, 836, 837] rfl
set_option maxRecDepth 20000 in
theorem li_r41 : ∀ w ∈ wsL_law0_r41, w ∈ lw_tbl := z_inp [270, 251, 255, 838, 839, 840, 841, 1556, 1557, 1558, 1559, 1560, 1562, 81, 1563, 842, 843, 844, 845, 257, 1564, 1565, 1566, 1567] rfl
set_option maxRecDepth 20000 in
theorem li_r42 : ∀ w ∈ wsL_law0_r42, w ∈ lw_tbl := z_inp [1568, 846, 847, 848, 849, 850, 1569, 1570, 1571, 1572, 851, 852, 853, 854, 855, 856, 857, 858, 1573, 1574, 1575, 1576, 1577, 1578] rfl
set_option maxRecDepth 20000 in
theorem li_r43 : ∀ w ∈ wsL_law0_r43, w ∈ lw_tbl := z_inp [1579, 1580, 859, 860, 861, 862, 863, 864, 865, 866, 867, 868, 869, 871, 21, 872, 873, 875, 22, 876, 877, 878, 879, 880] rfl
set_option maxRecDepth 20000 in
theorem li_r44 : ∀ w ∈ wsL_law0_r44, w ∈ lw_tbl := z_inp [881, 1581, 1582, 1583, 1584, 1585, 1586, 1588, 82, 1589, 1590, 1591, 1592, 882, 883, 884, 885, 886, 887, 888, 889, 890, 891, 892] rfl
set_option maxRecDepth 20000 in
theorem li_r45 : ∀ w ∈ wsL_law0_r45, w ∈ lw_tbl := z_inp [893, 894, 1593, 1594, 1595, 1596, 895, 896, 897, 898, 899, 900, 901, 902, 1597, 1598, 1599, 1600, 1601, 1603, 83, 1604, 903, 904] rfl
set_option maxRecDepth 20000 in
theorem li_r46 : ∀ w ∈ wsL_law0_r46, w ∈ lw_tbl := z_inp [905, 906, 290, 1605, 1606, 1607, 1608, 907, 908, 909, 910, 911, 934, 912, 913, 914, 915, 916, 917, 919, 23, 920, 921, 922] rfl
set_option maxRecDepth 20000 in
theorem li_r47 : ∀ w ∈ wsL_law0_r47, w ∈ lw_tbl := z_inp [923, 924, 929, 928, 925, 926, 927, 930, 931, 932, 933, 1609, 1610, 1611, 1612, 1613, 1619, 1614, 1615, 1616, 1617, 1618, 935, 936] rfl
set_option maxRecDepth 20000 in
theorem li_r48 : ∀ w ∈ wsL_law0_r48, w ∈ lw_tbl := z_inp [937, 938, 939, 1620, 1621, 1622, 1623, 940, 941, 942, 943, 944, 946, 24, 947, 1624, 1625, 1626, 1627, 1628, 1630, 84, 1631, 1632] rfl
set_option maxRecDepth 20000 in
theorem li_r49 : ∀ w ∈ wsL_law0_r49, w ∈ lw_tbl := z_inp [1634, 85, 1635, 1636, 1637, 1638, 1639, 1641, 86, 1642, 1643, 1645, 87, 1646, 948, 949, 950, 951, 952, 953, 954, 955, 956, 957] rfl
set_option maxRecDepth 20000 in
theorem li_r50 : ∀ w ∈ wsL_law0_r50, w ∈ lw_tbl := z_inp [958, 959, 960, 961, 962, 963, 964, 966, 965, 967, 969, 25, 970, 157, 971, 973, 975, 26, 976, 977, 979, 27, 980, 981] rfl
set_option maxRecDepth 20000 in
theorem li_r51 : ∀ w ∈ wsL_law0_r51, w ∈ lw_tbl := z_inp [982, 983, 984, 985, 986, 1647, 1648, 1649, 1650, 1651, 1653, 88, 1654, 1655, 1657, 89, 1658, 1659, 1660, 1661, 987, 988, 989, 990] rfl
set_option maxRecDepth 20000 in
theorem li_r52 : ∀ w ∈ wsL_law0_r52, w ∈ lw_tbl := z_inp [991, 992, 993, 994, 253, 995, 997, 28, 998, 999, 1001, 29, 1002, 1003, 1662, 1663, 1664, 1665, 1666, 1668, 90, 1669, 1670, 1672] rfl
set_option maxRecDepth 20000 in
theorem li_r53 : ∀ w ∈ wsL_law0_r53, w ∈ lw_tbl := z_inp [91, 1673, 1004, 1005, 1006, 1007, 1008, 1009, 1010, 1011, 1674, 1675, 1676, 1677, 1678, 1680, 92, 1681, 1012, 1013, 1014, 1015, 1682, 1683] rfl
set_option maxRecDepth 20000 in
theorem li_r54 : ∀ w ∈ wsL_law0_r54, w ∈ lw_tbl := z_inp [1684, 1685, 1016, 1017, 1018, 1019, 1686, 1687, 1688, 1689, 1690, 1692, 93, 1693, 1020, 1021, 1022, 1023, 1694, 1695, 1696, 1697, 1024, 1025] rfl
set_option maxRecDepth 20000 in
theorem li_r55 : ∀ w ∈ wsL_law0_r55, w ∈ lw_tbl := z_inp [1026, 1027, 1028, 1029, 1030, 1031, 1032, 1036, 1698, 1699, 1700, 1701, 1037, 1038, 1039, 1040, 1041, 1042, 1043, 1044, 1045, 1046, 1048, 30] rfl
set_option maxRecDepth 20000 in
theorem li_r56 : ∀ w ∈ wsL_law0_r56, w ∈ lw_tbl := z_inp [1049, 1050, 1052, 31, 1053, 152, 158, 1055, 1056, 1057, 1059, 32, 1060, 1702, 1703, 1704, 1705, 1706, 1708, 94, 1709, 1710, 1712, 95] rfl
set_option maxRecDepth 20000 in
theorem li_r57 : ∀ w ∈ wsL_law0_r57, w ∈ lw_tbl := z_inp [1713, 1061, 1062, 1063, 1064, 1065, 1066, 1067, 1068, 144, 1714, 1715, 1716, 1717, 1069, 1070, 1071, 1072, 178, 1073, 1074, 1075, 1076, 1718] rfl
set_option maxRecDepth 20000 in
theorem li_r58 : ∀ w ∈ wsL_law0_r58, w ∈ lw_tbl := z_inp [1719, 1720, 1721, 1722, 1724, 96, 1725] rfl
set_option maxRecDepth 20000 in
theorem li_X9 : ∀ w ∈ wsX90, w ∈ lw_tbl := z_inp [352, 354, 356, 358, 360, 362, 364, 366, 368] rfl
set_option maxRecDepth 20000 in
theorem li_X10 : ∀ w ∈ wsX100, w ∈ lw_tbl := z_inp [1183, 1185, 1187, 1189, 1191, 1193, 1195, 1197, 1199, 1201, 1203, 1205, 1207, 1209, 1211, 1213, 1215, 1217, 1219, 1221, 1223, 1225, 1227, 1229, 1231, 1233, 1235, 1237, 1239, 1241] rfl
set_option maxRecDepth 20000 in
theorem li_X7 : ∀ w ∈ wsX70, w ∈ lw_tbl := z_inp [191, 193, 195, 197, 199, 201, 203, 205, 207, 209, 211] rfl
set_option maxRecDepth 20000 in
theorem li_X6 : ∀ w ∈ wsX60, w ∈ lw_tbl := z_inp [161, 163, 165, 167, 169, 171] rfl
set_option maxRecDepth 20000 in
theorem li_X5 : ∀ w ∈ wsX50, w ∈ lw_tbl := z_inp [229, 231, 233] rfl
set_option maxRecDepth 20000 in
theorem li_X2 : ∀ w ∈ wsX20, w ∈ lw_tbl := z_inp [272, 274, 276] rfl
set_option maxRecDepth 20000 in
theorem li_X8 : ∀ w ∈ wsX80, w ∈ lw_tbl := z_inp [293, 295, 297, 299, 301] rfl
set_option maxRecDepth 20000 in
theorem li_X0 : ∀ w ∈ wsX00, w ∈ lw_tbl := z_inp [312, 314] rfl
set_option maxRecDepth 20000 in
theorem li_X3 : ∀ w ∈ wsX30, w ∈ lw_tbl := z_inp [326, 328, 330] rfl
set_option maxRecDepth 20000 in
theorem li_X4 : ∀ w ∈ wsX40, w ∈ lw_tbl := z_inp [340] rfl
set_option maxRecDepth 20000 in
theorem li_X1 : ∀ w ∈ wsX10, w ∈ lw_tbl := z_inp [258, 260, 262, 264] rfl
set_option maxRecDepth 20000 in
theorem wsL_law_in0 : ∀ w ∈ wsL_law0, w ∈ lw_tbl := z_inap (z_inap (z_inap (z_inap (z_inap (z_inap (z_inap (z_inap (z_inap (z_inap (z_inap (z_inap (z_inap li_r1 (z_inap li_r2 (z_inap li_r3 (z_inap li_r4 (z_inap li_r5 (z_inap li_r6 (z_inap li_r7 (z_inap li_r8 (z_inap li_r9 (z_inap li_r10 (z_inap li_r11 (z_inap li_r12 (z_inap li_r13 (z_inap li_r14 (z_inap li_r15 (z_inap li_r16 (z_inap li_r17 (z_inap li_r18 (z_inap li_r19 (z_inap li_r20 (z_inap li_r21 (z_inap li_r22 (z_inap li_r23 (z_inap li_r24 (z_inap li_r25 (z_inap li_r26 (z_inap li_r27 (z_inap li_r28 (z_inap li_r29 (z_inap li_r30 (z_inap li_r31 (z_inap li_r32 (z_inap li_r33 (z_inap li_r34 (z_inap li_r35 (z_inap li_r36 (z_inap li_r37 (z_inap li_r38 (z_inap li_r39 (z_inap li_r40 (z_inap li_r41 (z_inap li_r42 (z_inap li_r43 (z_inap li_r44 (z_inap li_r45 (z_inap li_r46 (z_inap li_r47 (z_inap li_r48 (z_inap li_r49 (z_inap li_r50 (z_inap li_r51 (z_inap li_r52 (z_inap li_r53 (z_inap li_r54 (z_inap li_r55 (z_inap li_r56 (z_inap li_r57 li_r58))))))))))))))))))))))))))))))))))))))))))))))))))))))))) li_X9) li_X10) li_X7) li_X6) li_X5) li_X2) li_X8) li_X0) li_X3) li_X4) li_X1) (fun _ h => absurd h List.not_mem_nil)
theorem wsL_law_x0 : ∀ w ∈ (vx_at0 RX9 157 "java/util/NoSuchElementException" ["java/lang/RuntimeException", "java/lang/Exception"]).filter goodWord, w ∈ lw_tbl := by decide +kernel
theorem wsL_law_in : ∀ w ∈ wsL_law, w ∈ lw_tbl := fun w h => (List.mem_append.mp h).elim (fun h => wsL_law_in0 w h) (fun h => wsL_law_x0 w h)
