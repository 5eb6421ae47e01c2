set_option maxRecDepth 100000 in
theorem am_y1_0 : am_nm_0.map (fun Y => some (Cond.code Y.1 Y.2.1 Y.2.2.1 Y.2.2.2.1)) = [126, 134, 175, 181, 255, 278, 300, 310, 352, 382, 408, 461, 465, 470, 474, 478, 481, 484, 488, 492, 497, 501, 504, 508, 512, 515, 519, 523, 527, 531, 535, 539, 544, 548, 553, 557, 561, 565, 569, 572, 576, 580, 584, 587, 591, 595, 600, 605, 609, 612, 622, 625, 629, 633, 637, 644, 649, 654, 658, 662].map am_tb := rfl
set_option maxRecDepth 100000 in
theorem am_y2_0 : am_nm_0.map (fun Y => some (bif Y.2.2.2.2.2.1 then Cond.static Y.1 else Cond.instanceMethod Y.1)) = [125, 133, 174, 180, 254, 277, 299, 309, 351, 381, 407, 459, 463, 468, 472, 476, 480, 483, 487, 491, 496, 500, 503, 506, 511, 514, 517, 521, 526, 530, 534, 537, 542, 546, 552, 556, 560, 564, 567, 571, 575, 578, 582, 586, 590, 594, 599, 603, 608, 611, 621, 624, 628, 631, 635, 642, 647, 652, 656, 660].map am_tb := rfl
set_option maxRecDepth 100000 in
theorem am_y3_0 : am_nm_0.map (fun Y => some (bif (Y.2.2.2.2.2.1 || Y.2.2.2.2.2.2.1) then Cond.initialized Y.1.cls else Cond.selects Y.1.cls Y.1 Y.1)) = [102, 103, 104, 105, 106, 107, 108, 109, 110, 111, 112, 460, 464, 469, 473, 477, 103, 103, 0, 1, 103, 2, 103, 507, 3, 114, 518, 522, 4, 5, 6, 538, 543, 547, 7, 8, 9, 10, 568, 104, 11, 579, 583, 102, 12, 13, 14, 604, 15, 105, 105, 105, 16, 632, 636, 643, 648, 653, 657, 661].map am_tb := rfl
set_option maxRecDepth 100000 in
theorem am_y4_0 : am_nm_0.map (fun Y => some (Cond.initialized Y.1.cls)) = [102, 103, 104, 105, 106, 107, 108, 109, 110, 111, 112, 102, 103, 102, 103, 103, 103, 103, 103, 103, 103, 103, 103, 104, 104, 114, 105, 105, 105, 104, 104, 103, 103, 103, 104, 104, 104, 104, 103, 104, 104, 104, 104, 102, 104, 104, 104, 105, 105, 105, 105, 105, 104, 103, 104, 105, 107, 108, 102, 106].map am_tb := rfl
set_option maxRecDepth 100000 in
theorem am_y5_0 : am_nm_0.map (fun Y => Y.1.cls) = am_nm_0.map (fun Y => am_own Y.2.2.2.2.2.2.2) := rfl
set_option maxRecDepth 100000 in
theorem am_y6_0 : am_nm_0.all (fun Y => decide ((parseMethodDescriptor Y.1.desc).map (fun d => d.parameters.length) = some Y.2.2.2.2.1) && Nat.ble Y.2.2.1 40 && Nat.blt Y.2.2.2.2.2.2.2 16 && (Y.2.2.2.2.2.2.1 == decide (Y.1.name = "<init>"))) = true := by decide +kernel
set_option maxRecDepth 100000 in
theorem am_y1_1 : am_nm_1.map (fun Y => some (Cond.code Y.1 Y.2.1 Y.2.2.1 Y.2.2.2.1)) = [666, 669, 678, 683, 687, 690, 693, 700, 704, 708, 712, 716, 720, 724, 729, 734, 738, 741, 745, 748, 753, 757, 761, 765, 769, 773, 777, 784, 788, 791, 794, 798, 802, 806, 810, 816, 820, 824, 828, 834, 838, 844, 849, 853, 857, 862, 867, 873, 880, 884, 890, 894, 898, 902, 906, 913, 917, 921, 926, 932].map am_tb := rfl
set_option maxRecDepth 100000 in
theorem am_y2_1 : am_nm_1.map (fun Y => some (bif Y.2.2.2.2.2.1 then Cond.static Y.1 else Cond.instanceMethod Y.1)) = [665, 668, 676, 681, 685, 689, 692, 698, 702, 706, 710, 715, 718, 722, 727, 732, 736, 740, 743, 747, 751, 755, 760, 763, 767, 771, 776, 782, 786, 790, 793, 796, 800, 804, 808, 814, 818, 822, 826, 832, 836, 842, 848, 851, 856, 861, 865, 872, 879, 882, 888, 892, 896, 900, 904, 911, 916, 919, 924, 930].map am_tb := rfl
set_option maxRecDepth 100000 in
theorem am_y3_1 : am_nm_1.map (fun Y => some (bif (Y.2.2.2.2.2.1 || Y.2.2.2.2.2.2.1) then Cond.initialized Y.1.cls else Cond.selects Y.1.cls Y.1 Y.1)) = [17, 106, 677, 682, 686, 102, 116, 699, 703, 707, 711, 18, 719, 723, 728, 733, 737, 102, 744, 102, 752, 756, 117, 764, 768, 772, 19, 783, 787, 105, 105, 797, 801, 805, 809, 815, 819, 823, 827, 833, 837, 843, 20, 852, 117, 111, 866, 21, 22, 883, 889, 893, 897, 901, 905, 912, 23, 920, 925, 931].map am_tb := rfl
set_option maxRecDepth 100000 in
theorem am_y4_1 : am_nm_1.map (fun Y => some (Cond.initialized Y.1.cls)) = [106, 106, 106, 102, 104, 102, 116, 102, 104, 107, 102, 102, 107, 107, 107, 104, 104, 102, 104, 102, 108, 107, 117, 107, 104, 107, 107, 104, 105, 105, 105, 104, 102, 102, 102, 102, 108, 102, 107, 107, 102, 102, 102, 111, 117, 111, 111, 111, 111, 102, 102, 111, 102, 102, 102, 102, 102, 107, 110, 110].map am_tb := rfl
set_option maxRecDepth 100000 in
theorem am_y5_1 : am_nm_1.map (fun Y => Y.1.cls) = am_nm_1.map (fun Y => am_own Y.2.2.2.2.2.2.2) := rfl
set_option maxRecDepth 100000 in
theorem am_y6_1 : am_nm_1.all (fun Y => decide ((parseMethodDescriptor Y.1.desc).map (fun d => d.parameters.length) = some Y.2.2.2.2.1) && Nat.ble Y.2.2.1 40 && Nat.blt Y.2.2.2.2.2.2.2 16 && (Y.2.2.2.2.2.2.1 == decide (Y.1.name = "<init>"))) = true := by decide +kernel
set_option maxRecDepth 100000 in
theorem am_y1_2 : am_nm_2.map (fun Y => some (Cond.code Y.1 Y.2.1 Y.2.2.1 Y.2.2.2.1)) = [936, 942, 946, 950, 954, 958, 962, 965, 969, 975, 979, 983, 987, 991, 995, 999, 1003, 1007, 1011, 1015, 1020, 1024, 1028, 1032, 1038, 1042, 1046, 1050, 1054, 1059, 1064, 1068, 1072, 1076, 1081, 1086, 1090, 1094, 1098, 1103, 1109, 1114, 1118, 1122, 1125, 1129, 1133, 1136, 1142, 1146, 1150, 1154, 1159, 1164, 1168, 1179, 1243, 1247, 1251, 1256].map am_tb := rfl
set_option maxRecDepth 100000 in
theorem am_y2_2 : am_nm_2.map (fun Y => some (bif Y.2.2.2.2.2.1 then Cond.static Y.1 else Cond.instanceMethod Y.1)) = [935, 940, 944, 948, 952, 956, 961, 964, 967, 973, 977, 981, 985, 989, 994, 997, 1001, 1005, 1009, 1014, 1019, 1022, 1026, 1030, 1037, 1040, 1044, 1048, 1052, 1057, 1062, 1066, 1070, 1074, 1080, 1084, 1088, 1092, 1097, 1101, 1107, 1112, 1117, 1120, 1124, 1128, 1131, 1135, 1141, 1145, 1148, 1152, 1157, 1162, 1166, 1178, 1242, 1245, 1249, 1254].map am_tb := rfl
set_option maxRecDepth 100000 in
theorem am_y3_2 : am_nm_2.map (fun Y => some (bif (Y.2.2.2.2.2.1 || Y.2.2.2.2.2.2.1) then Cond.initialized Y.1.cls else Cond.selects Y.1.cls Y.1 Y.1)) = [24, 941, 945, 949, 953, 957, 25, 102, 968, 974, 978, 982, 986, 990, 117, 998, 1002, 1006, 1010, 26, 27, 1023, 1027, 1031, 28, 1041, 1045, 1049, 1053, 1058, 1063, 1067, 1071, 1075, 29, 1085, 1089, 1093, 30, 1102, 1108, 1113, 31, 1121, 102, 32, 1132, 102, 102, 102, 1149, 1153, 1158, 1163, 1167, 102, 102, 1246, 1250, 34].map am_tb := rfl
set_option maxRecDepth 100000 in
theorem am_y4_2 : am_nm_2.map (fun Y => some (Cond.initialized Y.1.cls)) = [110, 102, 107, 102, 102, 102, 102, 102, 110, 102, 102, 102, 102, 104, 117, 102, 102, 107, 112, 112, 112, 102, 102, 112, 112, 102, 102, 102, 102, 102, 102, 102, 102, 102, 102, 102, 109, 102, 102, 110, 109, 102, 102, 102, 102, 102, 102, 102, 102, 102, 102, 108, 109, 108, 102, 102, 102, 113, 113, 113].map am_tb := rfl
set_option maxRecDepth 100000 in
theorem am_y5_2 : am_nm_2.map (fun Y => Y.1.cls) = am_nm_2.map (fun Y => am_own Y.2.2.2.2.2.2.2) := rfl
set_option maxRecDepth 100000 in
theorem am_y6_2 : am_nm_2.all (fun Y => decide ((parseMethodDescriptor Y.1.desc).map (fun d => d.parameters.length) = some Y.2.2.2.2.1) && Nat.ble Y.2.2.1 40 && Nat.blt Y.2.2.2.2.2.2.2 16 && (Y.2.2.2.2.2.2.1 == decide (Y.1.name = "<init>"))) = true := by decide +kernel
set_option maxRecDepth 100000 in
theorem am_y1_3 : am_nm_3.map (fun Y => some (Cond.code Y.1 Y.2.1 Y.2.2.1 Y.2.2.2.1)) = [1260, 1287, 1291, 1295, 1400, 1404, 1407, 1411, 1414, 1419, 1423, 1427, 1431, 1435, 1439, 1443, 1447, 1451, 1455, 1459, 1463, 1467, 1471, 1475, 1479, 1483, 1487, 1491, 1495, 1499, 1503, 1507, 1511, 1515, 1519, 1523, 1527, 1531, 1535, 1538, 1542, 1546, 1550, 1554, 1558, 1562, 1566, 1570, 1574, 1578, 1582, 1586, 1590, 1594, 1598, 1602, 1606, 1610, 1614, 1618].map am_tb := rfl
set_option maxRecDepth 100000 in
theorem am_y2_3 : am_nm_3.map (fun Y => some (bif Y.2.2.2.2.2.1 then Cond.static Y.1 else Cond.instanceMethod Y.1)) = [1259, 1286, 1290, 1294, 1398, 1403, 1406, 1410, 1413, 1418, 1422, 1426, 1430, 1434, 1438, 1442, 1446, 1450, 1454, 1458, 1462, 1466, 1470, 1474, 1478, 1482, 1486, 1490, 1494, 1498, 1502, 1506, 1510, 1514, 1517, 1522, 1526, 1529, 1534, 1537, 1541, 1545, 1549, 1552, 1557, 1561, 1564, 1569, 1573, 1577, 1580, 1585, 1589, 1593, 1597, 1601, 1604, 1608, 1613, 1617].map am_tb := rfl
set_option maxRecDepth 100000 in
theorem am_y3_3 : am_nm_3.map (fun Y => some (bif (Y.2.2.2.2.2.1 || Y.2.2.2.2.2.2.1) then Cond.initialized Y.1.cls else Cond.selects Y.1.cls Y.1 Y.1)) = [113, 35, 36, 37, 1399, 38, 113, 113, 113, 113, 39, 40, 41, 42, 43, 44, 45, 46, 47, 48, 49, 50, 51, 52, 53, 54, 55, 56, 57, 58, 59, 60, 61, 62, 1518, 63, 64, 1530, 65, 113, 66, 67, 68, 1553, 69, 70, 1565, 71, 72, 73, 1581, 74, 75, 76, 77, 78, 1605, 1609, 79, 80].map am_tb := rfl
set_option maxRecDepth 100000 in
theorem am_y4_3 : am_nm_3.map (fun Y => some (Cond.initialized Y.1.cls)) = [113, 113, 113, 113, 113, 113, 113, 113, 113, 113, 113, 113, 113, 113, 113, 113, 113, 113, 113, 113, 113, 113, 113, 113, 113, 113, 113, 113, 113, 113, 113, 113, 113, 113, 113, 113, 113, 113, 113, 113, 113, 113, 113, 113, 113, 113, 113, 113, 113, 113, 113, 113, 113, 113, 113, 113, 113, 113, 113, 113].map am_tb := rfl
set_option maxRecDepth 100000 in
theorem am_y5_3 : am_nm_3.map (fun Y => Y.1.cls) = am_nm_3.map (fun Y => am_own Y.2.2.2.2.2.2.2) := rfl
set_option maxRecDepth 100000 in
theorem am_y6_3 : am_nm_3.all (fun Y => decide ((parseMethodDescriptor Y.1.desc).map (fun d => d.parameters.length) = some Y.2.2.2.2.1) && Nat.ble Y.2.2.1 40 && Nat.blt Y.2.2.2.2.2.2.2 16 && (Y.2.2.2.2.2.2.1 == decide (Y.1.name = "<init>"))) = true := by decide +kernel
set_option maxRecDepth 100000 in
theorem am_y1_4 : am_nm_4.map (fun Y => some (Cond.code Y.1 Y.2.1 Y.2.2.1 Y.2.2.2.1)) = [1622, 1626, 1629, 1633, 1636, 1640, 1644, 1648, 1652, 1656, 1660, 1664, 1668, 1672, 1676, 1680, 1684, 1688, 1692, 1696, 1700, 1704, 1708, 1712, 1716, 1720, 1724, 1728, 1732, 1736, 1740, 1744, 1748, 1752, 1756, 1760, 1764, 1768, 1772, 1776, 1780, 1784, 1788, 1792, 1796, 1800, 1804, 1808, 1812, 1816, 1820, 1824, 1828, 1832, 1836, 1841, 1844, 1848, 1852, 1856].map am_tb := rfl
set_option maxRecDepth 100000 in
theorem am_y2_4 : am_nm_4.map (fun Y => some (bif Y.2.2.2.2.2.1 then Cond.static Y.1 else Cond.instanceMethod Y.1)) = [1621, 1625, 1628, 1632, 1635, 1638, 1642, 1647, 1650, 1654, 1659, 1663, 1666, 1670, 1674, 1678, 1682, 1686, 1691, 1695, 1699, 1703, 1707, 1711, 1714, 1718, 1722, 1726, 1730, 1734, 1738, 1742, 1746, 1750, 1755, 1759, 1762, 1766, 1770, 1774, 1779, 1783, 1786, 1790, 1795, 1799, 1802, 1806, 1810, 1814, 1818, 1822, 1826, 1830, 1834, 1839, 1843, 1846, 1851, 1855].map am_tb := rfl
set_option maxRecDepth 100000 in
theorem am_y3_4 : am_nm_4.map (fun Y => some (bif (Y.2.2.2.2.2.1 || Y.2.2.2.2.2.2.1) then Cond.initialized Y.1.cls else Cond.selects Y.1.cls Y.1 Y.1)) = [81, 82, 113, 83, 113, 1639, 1643, 84, 1651, 1655, 85, 86, 1667, 1671, 1675, 1679, 1683, 1687, 87, 88, 89, 90, 91, 92, 1715, 1719, 1723, 1727, 1731, 1735, 1739, 1743, 1747, 1751, 93, 94, 1763, 1767, 1771, 1775, 95, 96, 1787, 1791, 97, 98, 1803, 1807, 1811, 1815, 1819, 1823, 1827, 1831, 1835, 1840, 113, 1847, 99, 100].map am_tb := rfl
set_option maxRecDepth 100000 in
theorem am_y4_4 : am_nm_4.map (fun Y => some (Cond.initialized Y.1.cls)) = [113, 113, 113, 113, 113, 113, 113, 113, 113, 113, 113, 113, 113, 113, 113, 113, 113, 113, 113, 113, 113, 113, 113, 113, 113, 113, 113, 113, 113, 113, 113, 113, 113, 113, 113, 113, 113, 113, 113, 113, 113, 113, 113, 113, 113, 113, 113, 113, 113, 113, 113, 113, 113, 113, 113, 113, 113, 113, 113, 113].map am_tb := rfl
set_option maxRecDepth 100000 in
theorem am_y5_4 : am_nm_4.map (fun Y => Y.1.cls) = am_nm_4.map (fun Y => am_own Y.2.2.2.2.2.2.2) := rfl
set_option maxRecDepth 100000 in
theorem am_y6_4 : am_nm_4.all (fun Y => decide ((parseMethodDescriptor Y.1.desc).map (fun d => d.parameters.length) = some Y.2.2.2.2.1) && Nat.ble Y.2.2.1 40 && Nat.blt Y.2.2.2.2.2.2.2 16 && (Y.2.2.2.2.2.2.1 == decide (Y.1.name = "<init>"))) = true := by decide +kernel
set_option maxRecDepth 100000 in
theorem am_y1_5 : am_nm_5.map (fun Y => some (Cond.code Y.1 Y.2.1 Y.2.2.1 Y.2.2.2.1)) = [1864, 1868].map am_tb := rfl
set_option maxRecDepth 100000 in
theorem am_y2_5 : am_nm_5.map (fun Y => some (bif Y.2.2.2.2.2.1 then Cond.static Y.1 else Cond.instanceMethod Y.1)) = [1862, 1866].map am_tb := rfl
set_option maxRecDepth 100000 in
theorem am_y3_5 : am_nm_5.map (fun Y => some (bif (Y.2.2.2.2.2.1 || Y.2.2.2.2.2.2.1) then Cond.initialized Y.1.cls else Cond.selects Y.1.cls Y.1 Y.1)) = [1863, 1867].map am_tb := rfl
set_option maxRecDepth 100000 in
theorem am_y4_5 : am_nm_5.map (fun Y => some (Cond.initialized Y.1.cls)) = [113, 113].map am_tb := rfl
set_option maxRecDepth 100000 in
theorem am_y5_5 : am_nm_5.map (fun Y => Y.1.cls) = am_nm_5.map (fun Y => am_own Y.2.2.2.2.2.2.2) := rfl
set_option maxRecDepth 100000 in
theorem am_y6_5 : am_nm_5.all (fun Y => decide ((parseMethodDescriptor Y.1.desc).map (fun d => d.parameters.length) = some Y.2.2.2.2.1) && Nat.ble Y.2.2.1 40 && Nat.blt Y.2.2.2.2.2.2.2 16 && (Y.2.2.2.2.2.2.1 == decide (Y.1.name = "<init>"))) = true := by decide +kernel
set_option maxRecDepth 100000 in
theorem am_wkf_0 : ((am_lkf.drop 0).take 50).map am_wf = [418, 419, 420, 421, 422, 423, 424, 425, 426, 427, 428, 429, 430, 136, 195, 196, 198, 200, 203, 206, 209, 210, 183, 184, 257, 259, 261, 281, 283, 280, 326, 327, 328, 312, 313, 355, 356, 357, 359, 354, 385, 386, 387, 388, 384, 411, 410, 137, 138, 151].map am_tb := rfl
set_option maxRecDepth 100000 in
theorem am_wkf_1 : ((am_lkf.drop 50).take 50).map am_wf = [264, 316, 139, 152, 144, 143, 150, 145, 140, 211, 215, 220, 222, 223, 185, 148, 147, 142, 146, 149, 285, 331, 329, 263, 141, 212, 197, 199, 201, 204, 282, 284, 218, 330, 202, 286, 258, 260, 262, 389, 390, 214, 219, 361, 362, 358, 216, 207, 412, 208].map am_tb := rfl
set_option maxRecDepth 100000 in
theorem am_wkf_2 : ((am_lkf.drop 100).take 50).map am_wf = [213, 315, 314, 360, 217, 205, 221, 332, 1296, 1298, 1297, 1300, 1301, 1302, 1305, 1306, 1307, 1309, 1310, 1311, 1312, 1313, 1315, 1324, 1325, 1326, 1327, 1314, 1308, 1304, 1303, 1299, 1316, 1318, 1319, 1320, 1321, 1322, 1323, 1317, 1328].map am_tb := rfl
set_option maxRecDepth 100000 in
theorem am_wkm_0 : ((am_lkm.drop 0).take 50).map am_wm = [132, 173, 253, 276, 298, 347, 350, 380, 406, 179, 306, 308, 462, 471, 505, 630, 634, 646, 651, 475, 479, 482, 485, 495, 498, 502, 489, 509, 528, 566, 626, 513, 516, 520, 524, 532, 550, 573, 588, 597, 602, 536, 540, 541, 545, 549, 554, 562, 570, 558].map am_tb := rfl
set_option maxRecDepth 100000 in
theorem am_wkm_1 : ((am_lkm.drop 50).take 50).map am_wm = [577, 581, 585, 592, 596, 601, 606, 619, 620, 623, 618, 610, 617, 641, 650, 659, 675, 663, 674, 667, 670, 671, 672, 673, 684, 688, 691, 701, 705, 713, 717, 750, 762, 721, 726, 730, 731, 749, 725, 735, 739, 742, 746, 754, 759, 766, 770, 774, 795, 778].map am_tb := rfl
set_option maxRecDepth 100000 in
theorem am_wkm_2 : ((am_lkm.drop 100).take 50).map am_wm = [779, 780, 781, 785, 789, 792, 811, 812, 817, 825, 831, 829, 830, 839, 840, 845, 846, 850, 864, 854, 855, 858, 859, 860, 863, 869, 870, 877, 874, 875, 876, 885, 886, 891, 907, 908, 909, 914, 929, 918, 923, 922, 927, 933, 937, 943, 959, 963, 966, 970].map am_tb := rfl
set_option maxRecDepth 100000 in
theorem am_wkm_3 : ((am_lkm.drop 150).take 50).map am_wm = [971, 988, 992, 993, 1004, 1008, 1012, 1016, 1017, 1029, 1033, 1034, 1035, 1055, 1060, 1077, 1078, 1082, 1087, 1095, 1099, 1100, 1106, 1104, 1105, 1110, 1115, 1123, 1126, 1134, 1140, 1144, 1151, 1161, 1155, 1156, 1252, 1284, 1288, 1292, 1401, 1420, 1512, 1405, 1409, 1412, 1417, 1424, 1428, 1468].map am_tb := rfl
set_option maxRecDepth 100000 in
theorem am_wkm_4 : ((am_lkm.drop 200).take 50).map am_wm = [1472, 1464, 1476, 1432, 1480, 1504, 1436, 1444, 1448, 1452, 1440, 1456, 1460, 1484, 1488, 1500, 1508, 1492, 1496, 1520, 1524, 1532, 1536, 1539, 1543, 1547, 1555, 1559, 1567, 1575, 1571, 1583, 1587, 1599, 1591, 1595, 1611, 1615, 1619, 1623, 1627, 1630, 1634, 1645, 1657, 1661, 1689, 1693, 1697, 1701].map am_tb := rfl
set_option maxRecDepth 100000 in
theorem am_wkm_5 : ((am_lkm.drop 250).take 50).map am_wm = [1705, 1709, 1753, 1757, 1777, 1781, 1793, 1797, 1842, 1849, 1853, 124, 1258, 458, 1248, 467, 1397, 655, 1516, 680, 1528, 697, 1551, 709, 1563, 799, 1579, 803, 1603, 807, 1607, 813, 1637, 821, 1641, 835, 1649, 841, 1653, 881, 1665, 887, 1669, 895, 1673, 899, 1677, 903, 1681, 910].map am_tb := rfl
set_option maxRecDepth 100000 in
theorem am_wkm_6 : ((am_lkm.drop 300).take 50).map am_wm = [1685, 939, 1713, 947, 1717, 951, 1721, 955, 1749, 972, 1761, 976, 1765, 980, 1725, 984, 1729, 996, 1733, 1000, 1773, 1021, 1785, 1025, 1789, 1039, 1801, 1043, 1769, 1047, 1805, 1051, 1809, 1056, 1813, 1061, 1817, 1065, 1821, 1069, 1829, 1073, 1825, 1083, 1745, 1091, 1737, 1111, 1741, 1119].map am_tb := rfl
set_option maxRecDepth 100000 in
theorem am_wkm_7 : ((am_lkm.drop 350).take 50).map am_wm = [1833, 1838, 1244, 1130, 1845, 1147, 1861, 1165, 1865].map am_tb := rfl
set_option maxRecDepth 100000 in
theorem am_wkk_0 : ((am_lkk.drop 0).take 50).map am_wk = [130, 171, 251, 274, 296, 346, 348, 378, 404, 177, 302, 304, 122, 1257].map am_tb := rfl
set_option maxRecDepth 100000 in
theorem am_wkc_0 : ((am_lkc.drop 0).take 50).map (fun q => some (Cond.constant (am_own q.1) q.2.1 q.2.2)) = [694, 695, 696, 928, 938].map am_tb := rfl
set_option maxRecDepth 100000 in
theorem am_wkl_0 : ((am_lkl.drop 0).take 50).map (fun q => some (Cond.constantLong (am_own q.1) q.2.1 q.2.2)) = [466, 613, 614, 615, 616, 1137, 1138, 1139, 1143, 1262, 1263, 1264, 1265, 1266, 1267, 1268, 1269, 1270, 1271, 1272, 1273, 1274, 1275, 1276, 1277, 1278, 1279, 1280, 1281, 1282, 1283, 1408, 1415, 1416, 1837, 1857, 1858, 1859, 1860, 1869].map am_tb := rfl
set_option maxRecDepth 100000 in
theorem am_wko_0 : ((am_lko.drop 0).take 50).map (fun q => some (Cond.methodLink (am_own q.1) q.2 objectInit)) = [127, 135, 176, 182, 256, 279, 301, 311, 353, 383, 409, 1261].map am_tb := rfl
set_option maxRecDepth 100000 in
theorem am_wka_0 : ((am_lka.drop 0).take 50).map (fun q => some (Cond.methodLink (am_own q.1) q.2 arraycopyName)) = [638, 645, 679, 758, 868, 1160].map am_tb := rfl
