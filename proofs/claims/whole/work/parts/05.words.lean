set_option maxRecDepth 100000 in
theorem am_y1_0 : am_nm_0.map (fun Y => some (Cond.code Y.1 Y.2.1 Y.2.2.1 Y.2.2.2.1)) = [126, 134, 175, 181, 255, 278, 300, 310, 352, 382, 408, 461, 465, 470, 474, 478, 481, 484, 488, 492, 497, 501, 504, 508, 512, 515, 519, 523, 527, 531, 535, 539, 544, 548, 553, 557, 561, 565, 569, 572, 576, 580, 584, 587, 591, 595, 600, 605, 609, 612, 623, 626, 630, 634, 638, 645, 650, 655, 659, 663].map am_tb := rfl
set_option maxRecDepth 100000 in
theorem am_y2_0 : am_nm_0.map (fun Y => some (bif Y.2.2.2.2.2.1 then Cond.static Y.1 else Cond.instanceMethod Y.1)) = [125, 133, 174, 180, 254, 277, 299, 309, 351, 381, 407, 459, 463, 468, 472, 476, 480, 483, 487, 491, 496, 500, 503, 506, 511, 514, 517, 521, 526, 530, 534, 537, 542, 546, 552, 556, 560, 564, 567, 571, 575, 578, 582, 586, 590, 594, 599, 603, 608, 611, 622, 625, 629, 632, 636, 643, 648, 653, 657, 661].map am_tb := rfl
set_option maxRecDepth 100000 in
theorem am_y3_0 : am_nm_0.map (fun Y => some (bif (Y.2.2.2.2.2.1 || Y.2.2.2.2.2.2.1) then Cond.initialized Y.1.cls else Cond.selects Y.1.cls Y.1 Y.1)) = [102, 103, 104, 105, 106, 107, 108, 109, 110, 111, 112, 460, 464, 469, 473, 477, 103, 103, 0, 1, 103, 2, 103, 507, 3, 114, 518, 522, 4, 5, 6, 538, 543, 547, 7, 8, 9, 10, 568, 104, 11, 579, 583, 102, 12, 13, 14, 604, 15, 105, 105, 105, 16, 633, 637, 644, 649, 654, 658, 662].map am_tb := rfl
set_option maxRecDepth 100000 in
theorem am_y4_0 : am_nm_0.map (fun Y => some (Cond.initialized Y.1.cls)) = [102, 103, 104, 105, 106, 107, 108, 109, 110, 111, 112, 102, 103, 102, 103, 103, 103, 103, 103, 103, 103, 103, 103, 104, 104, 114, 105, 105, 105, 104, 104, 103, 103, 103, 104, 104, 104, 104, 103, 104, 104, 104, 104, 102, 104, 104, 104, 105, 105, 105, 105, 105, 104, 103, 104, 105, 107, 108, 102, 106].map am_tb := rfl
set_option maxRecDepth 100000 in
theorem am_y5_0 : am_nm_0.map (fun Y => Y.1.cls) = am_nm_0.map (fun Y => am_own Y.2.2.2.2.2.2.2) := rfl
set_option maxRecDepth 100000 in
theorem am_y6_0 : am_nm_0.all (fun Y => decide ((parseMethodDescriptor Y.1.desc).map (fun d => d.parameters.length) = some Y.2.2.2.2.1) && Nat.ble Y.2.2.1 40 && Nat.blt Y.2.2.2.2.2.2.2 16 && (Y.2.2.2.2.2.2.1 == decide (Y.1.name = "<init>"))) = true := by decide +kernel
set_option maxRecDepth 100000 in
theorem am_y1_1 : am_nm_1.map (fun Y => some (Cond.code Y.1 Y.2.1 Y.2.2.1 Y.2.2.2.1)) = [667, 670, 679, 684, 688, 691, 694, 701, 705, 709, 713, 717, 721, 725, 730, 735, 739, 742, 746, 749, 754, 758, 762, 766, 770, 774, 778, 785, 789, 792, 795, 799, 803, 807, 811, 817, 821, 825, 829, 835, 839, 845, 850, 854, 858, 863, 868, 874, 881, 885, 891, 895, 899, 903, 907, 914, 918, 922, 927, 933].map am_tb := rfl
set_option maxRecDepth 100000 in
theorem am_y2_1 : am_nm_1.map (fun Y => some (bif Y.2.2.2.2.2.1 then Cond.static Y.1 else Cond.instanceMethod Y.1)) = [666, 669, 677, 682, 686, 690, 693, 699, 703, 707, 711, 716, 719, 723, 728, 733, 737, 741, 744, 748, 752, 756, 761, 764, 768, 772, 777, 783, 787, 791, 794, 797, 801, 805, 809, 815, 819, 823, 827, 833, 837, 843, 849, 852, 857, 862, 866, 873, 880, 883, 889, 893, 897, 901, 905, 912, 917, 920, 925, 931].map am_tb := rfl
set_option maxRecDepth 100000 in
theorem am_y3_1 : am_nm_1.map (fun Y => some (bif (Y.2.2.2.2.2.1 || Y.2.2.2.2.2.2.1) then Cond.initialized Y.1.cls else Cond.selects Y.1.cls Y.1 Y.1)) = [17, 106, 678, 683, 687, 102, 116, 700, 704, 708, 712, 18, 720, 724, 729, 734, 738, 102, 745, 102, 753, 757, 117, 765, 769, 773, 19, 784, 788, 105, 105, 798, 802, 806, 810, 816, 820, 824, 828, 834, 838, 844, 20, 853, 117, 111, 867, 21, 22, 884, 890, 894, 898, 902, 906, 913, 23, 921, 926, 932].map am_tb := rfl
set_option maxRecDepth 100000 in
theorem am_y4_1 : am_nm_1.map (fun Y => some (Cond.initialized Y.1.cls)) = [106, 106, 106, 102, 104, 102, 116, 102, 104, 107, 102, 102, 107, 107, 107, 104, 104, 102, 104, 102, 108, 107, 117, 107, 104, 107, 107, 104, 105, 105, 105, 104, 102, 102, 102, 102, 108, 102, 107, 107, 102, 102, 102, 111, 117, 111, 111, 111, 111, 102, 102, 111, 102, 102, 102, 102, 102, 107, 110, 110].map am_tb := rfl
set_option maxRecDepth 100000 in
theorem am_y5_1 : am_nm_1.map (fun Y => Y.1.cls) = am_nm_1.map (fun Y => am_own Y.2.2.2.2.2.2.2) := rfl
set_option maxRecDepth 100000 in
theorem am_y6_1 : am_nm_1.all (fun Y => decide ((parseMethodDescriptor Y.1.desc).map (fun d => d.parameters.length) = some Y.2.2.2.2.1) && Nat.ble Y.2.2.1 40 && Nat.blt Y.2.2.2.2.2.2.2 16 && (Y.2.2.2.2.2.2.1 == decide (Y.1.name = "<init>"))) = true := by decide +kernel
set_option maxRecDepth 100000 in
theorem am_y1_2 : am_nm_2.map (fun Y => some (Cond.code Y.1 Y.2.1 Y.2.2.1 Y.2.2.2.1)) = [937, 943, 947, 951, 955, 959, 963, 966, 970, 976, 980, 984, 988, 992, 996, 1000, 1004, 1008, 1012, 1016, 1021, 1025, 1029, 1033, 1039, 1043, 1047, 1051, 1055, 1060, 1065, 1069, 1073, 1077, 1082, 1087, 1091, 1095, 1099, 1104, 1110, 1115, 1119, 1123, 1126, 1130, 1134, 1137, 1143, 1147, 1151, 1155, 1160, 1165, 1169, 1180, 1244, 1248, 1252, 1257].map am_tb := rfl
set_option maxRecDepth 100000 in
theorem am_y2_2 : am_nm_2.map (fun Y => some (bif Y.2.2.2.2.2.1 then Cond.static Y.1 else Cond.instanceMethod Y.1)) = [936, 941, 945, 949, 953, 957, 962, 965, 968, 974, 978, 982, 986, 990, 995, 998, 1002, 1006, 1010, 1015, 1020, 1023, 1027, 1031, 1038, 1041, 1045, 1049, 1053, 1058, 1063, 1067, 1071, 1075, 1081, 1085, 1089, 1093, 1098, 1102, 1108, 1113, 1118, 1121, 1125, 1129, 1132, 1136, 1142, 1146, 1149, 1153, 1158, 1163, 1167, 1179, 1243, 1246, 1250, 1255].map am_tb := rfl
set_option maxRecDepth 100000 in
theorem am_y3_2 : am_nm_2.map (fun Y => some (bif (Y.2.2.2.2.2.1 || Y.2.2.2.2.2.2.1) then Cond.initialized Y.1.cls else Cond.selects Y.1.cls Y.1 Y.1)) = [24, 942, 946, 950, 954, 958, 25, 102, 969, 975, 979, 983, 987, 991, 117, 999, 1003, 1007, 1011, 26, 27, 1024, 1028, 1032, 28, 1042, 1046, 1050, 1054, 1059, 1064, 1068, 1072, 1076, 29, 1086, 1090, 1094, 30, 1103, 1109, 1114, 31, 1122, 102, 32, 1133, 102, 102, 102, 1150, 1154, 1159, 1164, 1168, 102, 102, 1247, 1251, 34].map am_tb := rfl
set_option maxRecDepth 100000 in
theorem am_y4_2 : am_nm_2.map (fun Y => some (Cond.initialized Y.1.cls)) = [110, 102, 107, 102, 102, 102, 102, 102, 110, 102, 102, 102, 102, 104, 117, 102, 102, 107, 112, 112, 112, 102, 102, 112, 112, 102, 102, 102, 102, 102, 102, 102, 102, 102, 102, 102, 109, 102, 102, 110, 109, 102, 102, 102, 102, 102, 102, 102, 102, 102, 102, 108, 109, 108, 102, 102, 102, 113, 113, 113].map am_tb := rfl
set_option maxRecDepth 100000 in
theorem am_y5_2 : am_nm_2.map (fun Y => Y.1.cls) = am_nm_2.map (fun Y => am_own Y.2.2.2.2.2.2.2) := rfl
set_option maxRecDepth 100000 in
theorem am_y6_2 : am_nm_2.all (fun Y => decide ((parseMethodDescriptor Y.1.desc).map (fun d => d.parameters.length) = some Y.2.2.2.2.1) && Nat.ble Y.2.2.1 40 && Nat.blt Y.2.2.2.2.2.2.2 16 && (Y.2.2.2.2.2.2.1 == decide (Y.1.name = "<init>"))) = true := by decide +kernel
set_option maxRecDepth 100000 in
theorem am_y1_3 : am_nm_3.map (fun Y => some (Cond.code Y.1 Y.2.1 Y.2.2.1 Y.2.2.2.1)) = [1261, 1288, 1292, 1296, 1401, 1405, 1408, 1412, 1415, 1420, 1424, 1428, 1432, 1436, 1440, 1444, 1448, 1452, 1456, 1460, 1464, 1468, 1472, 1476, 1480, 1484, 1488, 1492, 1496, 1500, 1504, 1508, 1512, 1516, 1520, 1524, 1528, 1532, 1536, 1539, 1543, 1547, 1551, 1555, 1559, 1563, 1567, 1571, 1575, 1579, 1583, 1587, 1591, 1595, 1599, 1603, 1607, 1611, 1615, 1619].map am_tb := rfl
set_option maxRecDepth 100000 in
theorem am_y2_3 : am_nm_3.map (fun Y => some (bif Y.2.2.2.2.2.1 then Cond.static Y.1 else Cond.instanceMethod Y.1)) = [1260, 1287, 1291, 1295, 1399, 1404, 1407, 1411, 1414, 1419, 1423, 1427, 1431, 1435, 1439, 1443, 1447, 1451, 1455, 1459, 1463, 1467, 1471, 1475, 1479, 1483, 1487, 1491, 1495, 1499, 1503, 1507, 1511, 1515, 1518, 1523, 1527, 1530, 1535, 1538, 1542, 1546, 1550, 1553, 1558, 1562, 1565, 1570, 1574, 1578, 1581, 1586, 1590, 1594, 1598, 1602, 1605, 1609, 1614, 1618].map am_tb := rfl
set_option maxRecDepth 100000 in
theorem am_y3_3 : am_nm_3.map (fun Y => some (bif (Y.2.2.2.2.2.1 || Y.2.2.2.2.2.2.1) then Cond.initialized Y.1.cls else Cond.selects Y.1.cls Y.1 Y.1)) = [113, 35, 36, 37, 1400, 38, 113, 113, 113, 113, 39, 40, 41, 42, 43, 44, 45, 46, 47, 48, 49, 50, 51, 52, 53, 54, 55, 56, 57, 58, 59, 60, 61, 62, 1519, 63, 64, 1531, 65, 113, 66, 67, 68, 1554, 69, 70, 1566, 71, 72, 73, 1582, 74, 75, 76, 77, 78, 1606, 1610, 79, 80].map am_tb := rfl
set_option maxRecDepth 100000 in
theorem am_y4_3 : am_nm_3.map (fun Y => some (Cond.initialized Y.1.cls)) = [113, 113, 113, 113, 113, 113, 113, 113, 113, 113, 113, 113, 113, 113, 113, 113, 113, 113, 113, 113, 113, 113, 113, 113, 113, 113, 113, 113, 113, 113, 113, 113, 113, 113, 113, 113, 113, 113, 113, 113, 113, 113, 113, 113, 113, 113, 113, 113, 113, 113, 113, 113, 113, 113, 113, 113, 113, 113, 113, 113].map am_tb := rfl
set_option maxRecDepth 100000 in
theorem am_y5_3 : am_nm_3.map (fun Y => Y.1.cls) = am_nm_3.map (fun Y => am_own Y.2.2.2.2.2.2.2) := rfl
set_option maxRecDepth 100000 in
theorem am_y6_3 : am_nm_3.all (fun Y => decide ((parseMethodDescriptor Y.1.desc).map (fun d => d.parameters.length) = some Y.2.2.2.2.1) && Nat.ble Y.2.2.1 40 && Nat.blt Y.2.2.2.2.2.2.2 16 && (Y.2.2.2.2.2.2.1 == decide (Y.1.name = "<init>"))) = true := by decide +kernel
set_option maxRecDepth 100000 in
theorem am_y1_4 : am_nm_4.map (fun Y => some (Cond.code Y.1 Y.2.1 Y.2.2.1 Y.2.2.2.1)) = [1623, 1627, 1630, 1634, 1637, 1641, 1645, 1649, 1653, 1657, 1661, 1665, 1669, 1673, 1677, 1681, 1685, 1689, 1693, 1697, 1701, 1705, 1709, 1713, 1717, 1721, 1725, 1729, 1733, 1737, 1741, 1745, 1749, 1753, 1757, 1761, 1765, 1769, 1773, 1777, 1781, 1785, 1789, 1793, 1797, 1801, 1805, 1809, 1813, 1817, 1821, 1825, 1829, 1833, 1837, 1842, 1845, 1849, 1853, 1857].map am_tb := rfl
set_option maxRecDepth 100000 in
theorem am_y2_4 : am_nm_4.map (fun Y => some (bif Y.2.2.2.2.2.1 then Cond.static Y.1 else Cond.instanceMethod Y.1)) = [1622, 1626, 1629, 1633, 1636, 1639, 1643, 1648, 1651, 1655, 1660, 1664, 1667, 1671, 1675, 1679, 1683, 1687, 1692, 1696, 1700, 1704, 1708, 1712, 1715, 1719, 1723, 1727, 1731, 1735, 1739, 1743, 1747, 1751, 1756, 1760, 1763, 1767, 1771, 1775, 1780, 1784, 1787, 1791, 1796, 1800, 1803, 1807, 1811, 1815, 1819, 1823, 1827, 1831, 1835, 1840, 1844, 1847, 1852, 1856].map am_tb := rfl
set_option maxRecDepth 100000 in
theorem am_y3_4 : am_nm_4.map (fun Y => some (bif (Y.2.2.2.2.2.1 || Y.2.2.2.2.2.2.1) then Cond.initialized Y.1.cls else Cond.selects Y.1.cls Y.1 Y.1)) = [81, 82, 113, 83, 113, 1640, 1644, 84, 1652, 1656, 85, 86, 1668, 1672, 1676, 1680, 1684, 1688, 87, 88, 89, 90, 91, 92, 1716, 1720, 1724, 1728, 1732, 1736, 1740, 1744, 1748, 1752, 93, 94, 1764, 1768, 1772, 1776, 95, 96, 1788, 1792, 97, 98, 1804, 1808, 1812, 1816, 1820, 1824, 1828, 1832, 1836, 1841, 113, 1848, 99, 100].map am_tb := rfl
set_option maxRecDepth 100000 in
theorem am_y4_4 : am_nm_4.map (fun Y => some (Cond.initialized Y.1.cls)) = [113, 113, 113, 113, 113, 113, 113, 113, 113, 113, 113, 113, 113, 113, 113, 113, 113, 113, 113, 113, 113, 113, 113, 113, 113, 113, 113, 113, 113, 113, 113, 113, 113, 113, 113, 113, 113, 113, 113, 113, 113, 113, 113, 113, 113, 113, 113, 113, 113, 113, 113, 113, 113, 113, 113, 113, 113, 113, 113, 113].map am_tb := rfl
set_option maxRecDepth 100000 in
theorem am_y5_4 : am_nm_4.map (fun Y => Y.1.cls) = am_nm_4.map (fun Y => am_own Y.2.2.2.2.2.2.2) := rfl
set_option maxRecDepth 100000 in
theorem am_y6_4 : am_nm_4.all (fun Y => decide ((parseMethodDescriptor Y.1.desc).map (fun d => d.parameters.length) = some Y.2.2.2.2.1) && Nat.ble Y.2.2.1 40 && Nat.blt Y.2.2.2.2.2.2.2 16 && (Y.2.2.2.2.2.2.1 == decide (Y.1.name = "<init>"))) = true := by decide +kernel
set_option maxRecDepth 100000 in
theorem am_y1_5 : am_nm_5.map (fun Y => some (Cond.code Y.1 Y.2.1 Y.2.2.1 Y.2.2.2.1)) = [1865, 1869].map am_tb := rfl
set_option maxRecDepth 100000 in
theorem am_y2_5 : am_nm_5.map (fun Y => some (bif Y.2.2.2.2.2.1 then Cond.static Y.1 else Cond.instanceMethod Y.1)) = [1863, 1867].map am_tb := rfl
set_option maxRecDepth 100000 in
theorem am_y3_5 : am_nm_5.map (fun Y => some (bif (Y.2.2.2.2.2.1 || Y.2.2.2.2.2.2.1) then Cond.initialized Y.1.cls else Cond.selects Y.1.cls Y.1 Y.1)) = [1864, 1868].map am_tb := rfl
set_option maxRecDepth 100000 in
theorem am_y4_5 : am_nm_5.map (fun Y => some (Cond.initialized Y.1.cls)) = [113, 113].map am_tb := rfl
set_option maxRecDepth 100000 in
theorem am_y5_5 : am_nm_5.map (fun Y => Y.1.cls) = am_nm_5.map (fun Y => am_own Y.2.2.2.2.2.2.2) := rfl
set_option maxRecDepth 100000 in
theorem am_y6_5 : am_nm_5.all (fun Y => decide ((parseMethodDescriptor Y.1.desc).map (fun d => d.parameters.length) = some Y.2.2.2.2.1) && Nat.ble Y.2.2.1 40 && Nat.blt Y.2.2.2.2.2.2.2 16 && (Y.2.2.2.2.2.2.1 == decide (Y.1.name = "<init>"))) = true := by decide +kernel
set_option maxRecDepth 100000 in
theorem am_wkf_0 : ((am_lkf.drop 0).take 50).map am_wf = [418, 419, 420, 421, 422, 423, 424, 425, 426, 427, 428, 429, 430, 136, 195, 196, 198, 200, 203, 206, 209, 210, 183, 184, 257, 259, 261, 281, 283, 280, 326, 327, 328, 312, 313, 355, 356, 357, 359, 354, 385, 386, 387, 388, 384, 411, 410, 137, 138, 151].map am_tb := rfl
set_option maxRecDepth 100000 in
theorem am_wkf_1 : ((am_lkf.drop 50).take 50).map am_wf = [264, 316, 139, 152, 144, 143, 150, 145, 140, 211, 215, 220, 222, 223, 185, 148, 147, 142, 146, 149, 285, 331, 329, 263, 141, 212, 197, 199, 201, 204, 282, 284, 218, 330, 202, 286, 258, 260, 262, 389, 390, 214, 219, 361, 362, 358, 216, 207, 412, 208].map am_tb := rfl
set_option maxRecDepth 100000 in
theorem am_wkf_2 : ((am_lkf.drop 100).take 50).map am_wf = [213, 315, 314, 360, 217, 205, 221, 332, 1297, 1299, 1298, 1301, 1302, 1303, 1306, 1307, 1308, 1310, 1311, 1312, 1313, 1314, 1316, 1325, 1326, 1327, 1328, 1315, 1309, 1305, 1304, 1300, 1317, 1319, 1320, 1321, 1322, 1323, 1324, 1318, 1329].map am_tb := rfl
set_option maxRecDepth 100000 in
theorem am_wkm_0 : ((am_lkm.drop 0).take 50).map am_wm = [132, 173, 253, 276, 298, 347, 350, 380, 406, 179, 306, 308, 462, 471, 505, 631, 635, 647, 652, 475, 479, 482, 485, 495, 498, 502, 489, 509, 528, 566, 627, 513, 516, 520, 524, 532, 550, 573, 588, 597, 536, 540, 541, 545, 549, 554, 562, 570, 558, 577].map am_tb := rfl
set_option maxRecDepth 100000 in
theorem am_wkm_1 : ((am_lkm.drop 50).take 50).map am_wm = [581, 585, 592, 596, 601, 602, 606, 619, 621, 624, 618, 610, 617, 620, 642, 651, 660, 676, 664, 675, 668, 671, 672, 673, 674, 685, 689, 692, 702, 706, 714, 718, 751, 763, 722, 727, 731, 732, 750, 726, 736, 740, 743, 747, 755, 760, 767, 771, 775, 796].map am_tb := rfl
set_option maxRecDepth 100000 in
theorem am_wkm_2 : ((am_lkm.drop 100).take 50).map am_wm = [779, 780, 781, 782, 786, 790, 793, 812, 813, 818, 826, 832, 830, 831, 840, 841, 846, 847, 851, 865, 855, 856, 859, 860, 861, 864, 870, 871, 878, 875, 876, 877, 886, 887, 892, 908, 909, 910, 915, 930, 919, 924, 923, 928, 934, 938, 944, 960, 964, 967].map am_tb := rfl
set_option maxRecDepth 100000 in
theorem am_wkm_3 : ((am_lkm.drop 150).take 50).map am_wm = [971, 972, 989, 993, 994, 1005, 1009, 1013, 1017, 1018, 1030, 1034, 1035, 1036, 1056, 1061, 1078, 1079, 1083, 1088, 1096, 1100, 1101, 1107, 1105, 1106, 1111, 1116, 1124, 1127, 1135, 1141, 1145, 1152, 1162, 1156, 1157, 1253, 1285, 1289, 1293, 1402, 1421, 1513, 1406, 1410, 1413, 1418, 1425, 1429].map am_tb := rfl
set_option maxRecDepth 100000 in
theorem am_wkm_4 : ((am_lkm.drop 200).take 50).map am_wm = [1469, 1473, 1465, 1477, 1433, 1481, 1505, 1437, 1445, 1449, 1453, 1441, 1457, 1461, 1485, 1489, 1501, 1509, 1493, 1497, 1521, 1525, 1533, 1537, 1540, 1544, 1548, 1556, 1560, 1568, 1576, 1572, 1584, 1588, 1600, 1592, 1596, 1612, 1616, 1620, 1624, 1628, 1631, 1635, 1646, 1658, 1662, 1690, 1694, 1698].map am_tb := rfl
set_option maxRecDepth 100000 in
theorem am_wkm_5 : ((am_lkm.drop 250).take 50).map am_wm = [1702, 1706, 1710, 1754, 1758, 1778, 1782, 1794, 1798, 1843, 1850, 1854, 124, 1259, 458, 1249, 467, 1398, 656, 1517, 681, 1529, 698, 1552, 710, 1564, 800, 1580, 804, 1604, 808, 1608, 814, 1638, 822, 1642, 836, 1650, 842, 1654, 882, 1666, 888, 1670, 896, 1674, 900, 1678, 904, 1682].map am_tb := rfl
set_option maxRecDepth 100000 in
theorem am_wkm_6 : ((am_lkm.drop 300).take 50).map am_wm = [911, 1686, 940, 1714, 948, 1718, 952, 1722, 956, 1750, 973, 1762, 977, 1766, 981, 1726, 985, 1730, 997, 1734, 1001, 1774, 1022, 1786, 1026, 1790, 1040, 1802, 1044, 1770, 1048, 1806, 1052, 1810, 1057, 1814, 1062, 1818, 1066, 1822, 1070, 1830, 1074, 1826, 1084, 1746, 1092, 1738, 1112, 1742].map am_tb := rfl
set_option maxRecDepth 100000 in
theorem am_wkm_7 : ((am_lkm.drop 350).take 50).map am_wm = [1120, 1834, 1839, 1245, 1131, 1846, 1148, 1862, 1166, 1866].map am_tb := rfl
set_option maxRecDepth 100000 in
theorem am_wkk_0 : ((am_lkk.drop 0).take 50).map am_wk = [130, 171, 251, 274, 296, 346, 348, 378, 404, 177, 302, 304, 122, 1258].map am_tb := rfl
set_option maxRecDepth 100000 in
theorem am_wkc_0 : ((am_lkc.drop 0).take 50).map (fun q => some (Cond.constant (am_own q.1) q.2.1 q.2.2)) = [695, 696, 697, 929, 939].map am_tb := rfl
set_option maxRecDepth 100000 in
theorem am_wkl_0 : ((am_lkl.drop 0).take 50).map (fun q => some (Cond.constantLong (am_own q.1) q.2.1 q.2.2)) = [466, 613, 614, 615, 616, 1138, 1139, 1140, 1144, 1263, 1264, 1265, 1266, 1267, 1268, 1269, 1270, 1271, 1272, 1273, 1274, 1275, 1276, 1277, 1278, 1279, 1280, 1281, 1282, 1283, 1284, 1409, 1416, 1417, 1838, 1858, 1859, 1860, 1861, 1870].map am_tb := rfl
set_option maxRecDepth 100000 in
theorem am_wko_0 : ((am_lko.drop 0).take 50).map (fun q => some (Cond.methodLink (am_own q.1) q.2 objectInit)) = [127, 135, 176, 182, 256, 279, 301, 311, 353, 383, 409, 1262].map am_tb := rfl
set_option maxRecDepth 100000 in
theorem am_wka_0 : ((am_lka.drop 0).take 50).map (fun q => some (Cond.methodLink (am_own q.1) q.2 arraycopyName)) = [639, 646, 680, 759, 869, 1161].map am_tb := rfl
