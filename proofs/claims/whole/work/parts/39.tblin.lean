theorem mem_idx {T ws : List Cond} (is : List Nat) (h : is.map (fun i => T[i]?) = ws.map some) : ∀ w ∈ ws, w ∈ T := fun w hw => by
  have h1 : some w ∈ ws.map some := List.mem_map.mpr ⟨w, hw, rfl⟩
  rw [← h] at h1
  obtain ⟨i, -, hi⟩ := List.mem_map.mp h1
  exact List.mem_of_getElem? hi
set_option maxRecDepth 20000 in
theorem inr_1 : ∀ w ∈ wsL_law0_r1, w ∈ lw_tbl := mem_idx [110, 111, 83, 1257, 1258, 92, 1743, 747, 748, 82, 749, 112, 113, 114, 115, 116, 117, 118, 119, 84, 120, 121, 122, 123] rfl
set_option maxRecDepth 20000 in
theorem inr_2 : ∀ w ∈ wsL_law0_r2, w ∈ lw_tbl := mem_idx [124, 125, 85, 319, 141, 142, 86, 320, 158, 159, 87, 321, 196, 197, 88, 322, 313, 233, 91, 323, 324, 315, 203, 89] rfl
set_option maxRecDepth 20000 in
theorem inr_3 : ∀ w ∈ wsL_law0_r3, w ∈ lw_tbl := mem_idx [325, 326, 317, 217, 90, 327, 328, 329, 126, 127, 128, 129, 130, 140, 134, 144, 145, 146, 157, 147, 148, 160, 161, 162] rfl
set_option maxRecDepth 20000 in
theorem inr_4 : ∀ w ∈ wsL_law0_r4, w ∈ lw_tbl := mem_idx [163, 174, 164, 198, 199, 200, 201, 202, 284, 285, 216, 286, 281, 167, 282, 232, 283, 132, 312, 287, 288, 289, 205, 206] rfl
set_option maxRecDepth 20000 in
theorem inr_5 : ∀ w ∈ wsL_law0_r5, w ∈ lw_tbl := mem_idx [207, 208, 219, 220, 221, 222, 223, 234, 235, 236, 237, 253, 254, 255, 248, 166, 238, 131, 249, 314, 1259, 1260, 1261, 1262] rfl
set_option maxRecDepth 20000 in
theorem inr_6 : ∀ w ∈ wsL_law0_r6, w ∈ lw_tbl := mem_idx [1263, 1266, 1267, 1268, 1284, 1285, 1286, 1287, 1288, 1289, 1290, 1291, 1292, 1264, 1392, 1293, 1294, 1295, 1299, 1304, 1305, 1306, 1265, 353] rfl
set_option maxRecDepth 20000 in
theorem inr_7 : ∀ w ∈ wsL_law0_r7, w ∈ lw_tbl := mem_idx [354, 355, 356, 357, 358, 359, 360, 1397, 1398, 1399, 1400, 1270, 1271, 361, 362, 363, 364, 365, 366, 367, 368, 149, 369, 370] rfl
set_option maxRecDepth 20000 in
theorem inr_8 : ∀ w ∈ wsL_law0_r8, w ∈ lw_tbl := mem_idx [93, 371, 1401, 1402, 1403, 1404, 1269, 372, 373, 374, 375, 376, 377, 378, 379, 1405, 1406, 1407, 1408, 750, 751, 752, 753, 754] rfl
set_option maxRecDepth 20000 in
theorem inr_9 : ∀ w ∈ wsL_law0_r9, w ∈ lw_tbl := mem_idx [755, 756, 757, 771, 103, 170, 173, 758, 759, 760, 761, 422, 424, 1, 425, 426, 428, 2, 429, 133, 430, 431, 432, 762] rfl
set_option maxRecDepth 20000 in
theorem inr_10 : ∀ w ∈ wsL_law0_r10, w ∈ lw_tbl := mem_idx [763, 764, 765, 766, 767, 768, 769, 770, 529, 530, 94, 531, 533, 534, 535, 95, 536, 537, 538, 539, 540, 1746, 541, 542] rfl
set_option maxRecDepth 20000 in
theorem inr_11 : ∀ w ∈ wsL_law0_r11, w ∈ lw_tbl := mem_idx [543, 544, 545, 1745, 547, 548, 549, 550, 551, 552, 553, 554, 555, 556, 96, 557, 561, 562, 558, 559, 560, 563, 564, 565] rfl
set_option maxRecDepth 20000 in
theorem inr_12 : ∀ w ∈ wsL_law0_r12, w ∈ lw_tbl := mem_idx [566, 567, 97, 568, 569, 570, 571, 572, 573, 574, 575, 576, 577, 578, 579, 580, 581, 582, 583, 584, 586, 587, 98, 588] rfl
set_option maxRecDepth 20000 in
theorem inr_13 : ∀ w ∈ wsL_law0_r13, w ∈ lw_tbl := mem_idx [589, 590, 591, 592, 593, 594, 595, 597, 599, 601, 602, 603, 604, 605, 99, 606, 607, 608, 609, 610, 611, 612, 613, 614] rfl
set_option maxRecDepth 20000 in
theorem inr_14 : ∀ w ∈ wsL_law0_r14, w ∈ lw_tbl := mem_idx [839, 840, 841, 842, 843, 844, 845, 846, 847, 417, 868, 869, 870, 446, 445, 848, 849, 850, 851, 852, 389, 390, 391, 853] rfl
set_option maxRecDepth 20000 in
theorem inr_15 : ∀ w ∈ wsL_law0_r15, w ∈ lw_tbl := mem_idx [854, 855, 856, 857, 858, 859, 860, 861, 862, 863, 864, 865, 866, 867, 419, 420, 421, 433, 435, 3, 436, 175, 176, 177] rfl
set_option maxRecDepth 20000 in
theorem inr_16 : ∀ w ∈ wsL_law0_r16, w ∈ lw_tbl := mem_idx [178, 172, 169, 871, 872, 873, 874, 875, 413, 414, 415, 416, 876, 472, 473, 474, 877, 879, 15, 880, 881, 882, 883, 884] rfl
set_option maxRecDepth 20000 in
theorem inr_17 : ∀ w ∈ wsL_law0_r17, w ∈ lw_tbl := mem_idx [885, 886, 388, 887, 888, 889, 890, 891, 392, 394, 0, 395, 1568, 1569, 1570, 1571, 1580, 1585, 1586, 1587, 1588, 1589, 1590, 1591] rfl
set_option maxRecDepth 20000 in
theorem inr_18 : ∀ w ∈ wsL_law0_r18, w ∈ lw_tbl := mem_idx [1451, 1450, 1597, 1598, 1279, 1278, 1572, 1574, 60, 1575, 1516, 1517, 1518, 1520, 1576, 1578, 61, 1579, 1581, 1583, 62, 1584, 1417, 1419] rfl
set_option maxRecDepth 20000 in
theorem inr_19 : ∀ w ∈ wsL_law0_r19, w ∈ lw_tbl := mem_idx [33, 1420, 1272, 1273, 1274, 1275, 1276, 1433, 1277, 1421, 1423, 34, 1424, 1425, 1427, 35, 1428, 1429, 1431, 36, 1432, 1434, 1436, 37] rfl
set_option maxRecDepth 20000 in
theorem inr_20 : ∀ w ∈ wsL_law0_r20, w ∈ lw_tbl := mem_idx [1437, 1592, 1594, 63, 1595, 1596, 1446, 1448, 40, 1449, 1476, 1478, 47, 1479, 1560, 1562, 59, 1563, 1280, 1393, 1394, 1395, 1396, 380] rfl
set_option maxRecDepth 20000 in
theorem inr_21 : ∀ w ∈ wsL_law0_r21, w ∈ lw_tbl := mem_idx [381, 382, 383, 384, 385, 386, 387, 1556, 1557, 1558, 1559, 396, 397, 398, 399, 400, 401, 402, 403, 290, 168, 404, 405, 406] rfl
set_option maxRecDepth 20000 in
theorem inr_22 : ∀ w ∈ wsL_law0_r22, w ∈ lw_tbl := mem_idx [407, 408, 409, 410, 411, 412, 418, 437, 438, 439, 440, 441, 442, 443, 444, 447, 448, 449, 450, 451, 453, 4, 454, 455] rfl
set_option maxRecDepth 20000 in
theorem inr_23 : ∀ w ∈ wsL_law0_r23, w ∈ lw_tbl := mem_idx [457, 5, 458, 244, 459, 461, 6, 462, 171, 465, 463, 464, 466, 467, 468, 469, 240, 250, 251, 252, 243, 246, 470, 471] rfl
set_option maxRecDepth 20000 in
theorem inr_24 : ∀ w ∈ wsL_law0_r24, w ∈ lw_tbl := mem_idx [475, 476, 477, 478, 479, 480, 482, 7, 483, 484, 485, 486, 487, 488, 489, 490, 491, 492, 493, 494, 496, 8, 497, 498] rfl
set_option maxRecDepth 20000 in
theorem inr_25 : ∀ w ∈ wsL_law0_r25, w ∈ lw_tbl := mem_idx [499, 500, 104, 501, 502, 503, 504, 505, 506, 507, 508, 509, 511, 512, 513, 514, 515, 516, 518, 9, 519, 520, 521, 522] rfl
set_option maxRecDepth 20000 in
theorem inr_26 : ∀ w ∈ wsL_law0_r26, w ∈ lw_tbl := mem_idx [523, 524, 525, 526, 527, 528, 615, 616, 618, 10, 619, 620, 621, 622, 623, 624, 625, 626, 627, 209, 239, 630, 631, 628] rfl
set_option maxRecDepth 20000 in
theorem inr_27 : ∀ w ∈ wsL_law0_r27, w ∈ lw_tbl := mem_idx [629, 633, 634, 635, 636, 637, 638, 639, 640, 641, 642, 643, 645, 646, 647, 648, 653, 649, 650, 651, 652, 654, 655, 656] rfl
set_option maxRecDepth 20000 in
theorem inr_28 : ∀ w ∈ wsL_law0_r28, w ∈ lw_tbl := mem_idx [657, 658, 659, 660, 661, 663, 11, 664, 241, 665, 666, 667, 668, 669, 670, 671, 672, 674, 673, 675, 676, 677, 678, 679] rfl
set_option maxRecDepth 20000 in
theorem inr_29 : ∀ w ∈ wsL_law0_r29, w ∈ lw_tbl := mem_idx [680, 681, 682, 683, 684, 685, 686, 687, 688, 689, 690, 691, 692, 693, 694, 695, 696, 697, 698, 699, 700, 701, 702, 704] rfl
set_option maxRecDepth 20000 in
theorem inr_30 : ∀ w ∈ wsL_law0_r30, w ∈ lw_tbl := mem_idx [705, 706, 708, 707, 105, 709, 711, 12, 712, 713, 714, 715, 716, 717, 718, 719, 720, 721, 722, 723, 724, 725, 727, 13] rfl
set_option maxRecDepth 20000 in
theorem inr_31 : ∀ w ∈ wsL_law0_r31, w ∈ lw_tbl := mem_idx [728, 1409, 1410, 1411, 1412, 1281, 1413, 1415, 32, 1416, 1282, 1283, 1298, 1438, 1440, 38, 1441, 1442, 1444, 39, 1445, 1452, 1454, 41] rfl
set_option maxRecDepth 20000 in
theorem inr_32 : ∀ w ∈ wsL_law0_r32, w ∈ lw_tbl := mem_idx [1455, 1456, 1458, 42, 1459, 1296, 1297, 1301, 1302, 1460, 1462, 43, 1463, 1464, 1466, 44, 1467, 1468, 1470, 45, 1471, 1472, 1474, 46] rfl
set_option maxRecDepth 20000 in
theorem inr_33 : ∀ w ∈ wsL_law0_r33, w ∈ lw_tbl := mem_idx [1475, 1480, 1482, 48, 1483, 1484, 1486, 49, 1487, 1300, 1303, 1488, 1490, 50, 1491, 1492, 1494, 51, 1495, 1496, 1497, 1498, 1499, 1500] rfl
set_option maxRecDepth 20000 in
theorem inr_34 : ∀ w ∈ wsL_law0_r34, w ∈ lw_tbl := mem_idx [1501, 1502, 1503, 1504, 1505, 1506, 1507, 1508, 1509, 1510, 1511, 1512, 1514, 52, 1515, 1521, 1523, 53, 1524, 1525, 1527, 54, 1528, 1529] rfl
set_option maxRecDepth 20000 in
theorem inr_35 : ∀ w ∈ wsL_law0_r35, w ∈ lw_tbl := mem_idx [1530, 1531, 1532, 1533, 1535, 55, 1536, 1537, 1538, 1539, 1541, 1543, 56, 1544, 1545, 1547, 57, 1548, 1549, 1551, 58, 1552, 1553, 1554] rfl
set_option maxRecDepth 20000 in
theorem inr_36 : ∀ w ∈ wsL_law0_r36, w ∈ lw_tbl := mem_idx [1555, 729, 730, 731, 732, 733, 734, 735, 736, 737, 738, 1564, 1565, 1566, 1567, 739, 740, 741, 742, 743, 744, 745, 746, 1599] rfl
set_option maxRecDepth 20000 in
theorem inr_37 : ∀ w ∈ wsL_law0_r37, w ∈ lw_tbl := mem_idx [1600, 1601, 1602, 1603, 1605, 64, 1606, 892, 893, 894, 895, 896, 897, 898, 899, 242, 900, 902, 16, 903, 904, 106, 920, 921] rfl
set_option maxRecDepth 20000 in
theorem inr_38 : ∀ w ∈ wsL_law0_r38, w ∈ lw_tbl := mem_idx [922, 923, 924, 925, 926, 927, 1607, 1608, 1609, 1610, 1611, 1613, 65, 1614, 1615, 1617, 66, 1618, 1619, 1621, 67, 1622, 928, 929] rfl
set_option maxRecDepth 20000 in
theorem inr_39 : ∀ w ∈ wsL_law0_r39, w ∈ lw_tbl := mem_idx [930, 931, 932, 933, 934, 935, 936, 938, 17, 939, 940, 107, 956, 957, 958, 959, 960, 961, 962, 963, 964, 965, 966, 1623] rfl
set_option maxRecDepth 20000 in
theorem inr_40 : ∀ w ∈ wsL_law0_r40, w ∈ lw_tbl := mem_idx [1624, 1625, 1626, 1627, 1629, 68, 1630, 1631, 1633, 69, 1634, 1635, 1637, 70, 1638, 1639, 1640, 1641, 967, 968, 969, 970, 971, 972] rfl
set_option maxRecDepth 20000 in
theorem inr_41 : ∀ w ∈ wsL_law0_r41, w ∈ lw_tbl := mem_idx [973, 974, 976, 18, 977, 978, 980, 19, 981, 982, 983, 985, 20, 986, 987, 988, 989, 990, 991, 993, 21, 994, 995, 1642] rfl
set_option maxRecDepth 20000 in
theorem inr_42 : ∀ w ∈ wsL_law0_r42, w ∈ lw_tbl := mem_idx [1643, 1644, 1645, 1646, 1648, 71, 1649, 1650, 1651, 1652, 1653, 1654, 1655, 1656, 1657, 997, 998, 999, 1000, 1001, 1002, 1003, 1004, 1005] rfl
set_option maxRecDepth 20000 in
theorem inr_43 : ∀ w ∈ wsL_law0_r43, w ∈ lw_tbl := mem_idx [1006, 1007, 1008, 1009, 1010, 1658, 1659, 1660, 1661, 1662, 1664, 72, 1665, 1011, 1012, 1013, 1014, 1015, 1016, 1017, 1666, 1667, 1668, 1669] rfl
set_option maxRecDepth 20000 in
theorem inr_44 : ∀ w ∈ wsL_law0_r44, w ∈ lw_tbl := mem_idx [1019, 1020, 1021, 1022, 1023, 1024, 1025, 1670, 1671, 1672, 1673, 1026, 1027, 1028, 1029, 1030, 1031, 1032, 1033, 1091, 108, 1034, 1035, 1036] rfl
set_option maxRecDepth 20000 in
theorem inr_45 : ∀ w ∈ wsL_law0_r45, w ∈ lw_tbl := mem_idx [1037, 1038, 1039, 1040, 1042, 22, 1043, 1044, 1046, 1047, 1048, 1049, 210, 1050, 1051, 1052, 1053, 1054, 1055, 1056, 1057, 1058, 1060, 1062] rfl
set_option maxRecDepth 20000 in
theorem inr_46 : ∀ w ∈ wsL_law0_r46, w ∈ lw_tbl := mem_idx [23, 1063, 1064, 1065, 1066, 1067, 224, 1068, 1069, 1070, 1071, 1072, 1073, 1074, 1075, 1076, 1077, 1078, 1079, 1080, 1081, 1082, 1083, 1084] rfl
set_option maxRecDepth 20000 in
theorem inr_47 : ∀ w ∈ wsL_law0_r47, w ∈ lw_tbl := mem_idx [1085, 1086, 1087, 1088, 1089, 1090, 1107, 1109, 24, 1110, 1111, 1112, 1113, 1114, 1115, 1116, 1117, 1118, 1119, 1121, 25, 1122, 1123, 1124] rfl
set_option maxRecDepth 20000 in
theorem inr_48 : ∀ w ∈ wsL_law0_r48, w ∈ lw_tbl := mem_idx [1125, 1126, 1127, 1128, 1129, 1131, 26, 1132, 247, 245, 1133, 1134, 1135, 1136, 1137, 1138, 1139, 1140, 1141, 1142, 1143, 1144, 1674, 1675] rfl
set_option maxRecDepth 20000 in
theorem inr_49 : ∀ w ∈ wsL_law0_r49, w ∈ lw_tbl := mem_idx [1676, 1677, 1711, 1712, 1713, 1678, 1680, 73, 1681, 1682, 1684, 74, 1685, 1686, 1688, 75, 1689, 1690, 1692, 76, 1693, 1694, 1695, 1696] rfl
set_option maxRecDepth 20000 in
theorem inr_50 : ∀ w ∈ wsL_law0_r50, w ∈ lw_tbl := mem_idx [1697, 1699, 77, 1700, 1701, 1703, 78, 1704, 1705, 1707, 79, 1708, 1709, 1710, 1145, 1146, 1147, 1148, 1149, 1150, 1151, 1152, 1154, 27] rfl
set_option maxRecDepth 20000 in
theorem inr_51 : ∀ w ∈ wsL_law0_r51, w ∈ lw_tbl := mem_idx [1155, 1157, 1159, 28, 1160, 1171, 1172, 109, 1161, 1163, 29, 1164, 1165, 1166, 1167, 1168, 1169, 1170, 1173, 1174, 1175, 1176, 1183, 165] rfl
set_option maxRecDepth 20000 in
theorem inr_52 : ∀ w ∈ wsL_law0_r52, w ∈ lw_tbl := mem_idx [1184, 1185, 1186, 1187, 1177, 1178, 1179, 1180, 1181, 1182, 1199, 1200, 1201, 1202, 1203, 1204, 1205, 1206, 1714, 1715, 1716, 1717, 1718, 1720] rfl
set_option maxRecDepth 20000 in
theorem inr_53 : ∀ w ∈ wsL_law0_r53, w ∈ lw_tbl := mem_idx [80, 1721, 1722, 1724, 81, 1725, 1207, 1208, 1209, 1210, 1211, 1212, 1213, 1214, 1726, 1727, 1728, 1729, 1730, 1216, 1217, 1218, 1219, 1220] rfl
set_option maxRecDepth 20000 in
theorem inr_54 : ∀ w ∈ wsL_law0_r54, w ∈ lw_tbl := mem_idx [1221, 1222, 1224, 1226, 30, 1227, 1233, 1228, 1229, 1230, 1231, 1232, 1731, 1732, 1733, 1734, 1234, 1235, 1236, 1237, 1238, 1239, 1240, 1735] rfl
set_option maxRecDepth 20000 in
theorem inr_55 : ∀ w ∈ wsL_law0_r55, w ∈ lw_tbl := mem_idx [1736, 1737, 1738, 1242, 1243, 1244, 1245, 1246, 1247, 1248, 1249, 1251, 31, 1252, 1253, 1254, 1255, 1739, 1740, 1741, 1742] rfl
set_option maxRecDepth 20000 in
theorem inr_wsX100 : ∀ w ∈ wsX100, w ∈ lw_tbl := by decide +kernel
set_option maxRecDepth 20000 in
theorem inr_wsX110 : ∀ w ∈ wsX110, w ∈ lw_tbl := by decide +kernel
set_option maxRecDepth 20000 in
theorem inr_wsX30 : ∀ w ∈ wsX30, w ∈ lw_tbl := by decide +kernel
set_option maxRecDepth 20000 in
theorem inr_wsX80 : ∀ w ∈ wsX80, w ∈ lw_tbl := by decide +kernel
set_option maxRecDepth 20000 in
theorem inr_wsX90 : ∀ w ∈ wsX90, w ∈ lw_tbl := by decide +kernel
set_option maxRecDepth 20000 in
theorem inr_wsX00 : ∀ w ∈ wsX00, w ∈ lw_tbl := by decide +kernel
set_option maxRecDepth 20000 in
theorem inr_wsX20 : ∀ w ∈ wsX20, w ∈ lw_tbl := by decide +kernel
set_option maxRecDepth 20000 in
theorem inr_wsX60 : ∀ w ∈ wsX60, w ∈ lw_tbl := by decide +kernel
set_option maxRecDepth 20000 in
theorem inr_wsX70 : ∀ w ∈ wsX70, w ∈ lw_tbl := by decide +kernel
set_option maxRecDepth 20000 in
theorem inr_wsX40 : ∀ w ∈ wsX40, w ∈ lw_tbl := by decide +kernel
theorem inG {a b : List Cond} (ha : ∀ w ∈ a, w ∈ lw_tbl) (hb : ∀ w ∈ b, w ∈ lw_tbl) : ∀ w ∈ a ++ b, w ∈ lw_tbl := fun w h => (List.mem_append.mp h).elim (ha w) (hb w)
theorem TB_tbl : ∀ w ∈ TB, w ∈ lw_tbl := inG (inG (inG (inG (inG (inG (inG (inG (inG (inG (inG (inG inr_1 (inG inr_2 (inG inr_3 (inG inr_4 (inG inr_5 (inG inr_6 (inG inr_7 (inG inr_8 (inG inr_9 (inG inr_10 (inG inr_11 (inG inr_12 (inG inr_13 (inG inr_14 (inG inr_15 (inG inr_16 (inG inr_17 (inG inr_18 (inG inr_19 (inG inr_20 (inG inr_21 (inG inr_22 (inG inr_23 (inG inr_24 (inG inr_25 (inG inr_26 (inG inr_27 (inG inr_28 (inG inr_29 (inG inr_30 (inG inr_31 (inG inr_32 (inG inr_33 (inG inr_34 (inG inr_35 (inG inr_36 (inG inr_37 (inG inr_38 (inG inr_39 (inG inr_40 (inG inr_41 (inG inr_42 (inG inr_43 (inG inr_44 (inG inr_45 (inG inr_46 (inG inr_47 (inG inr_48 (inG inr_49 (inG inr_50 (inG inr_51 (inG inr_52 (inG inr_53 (inG inr_54 inr_55)))))))))))))))))))))))))))))))))))))))))))))))))))))) inr_wsX100) inr_wsX110) inr_wsX30) inr_wsX80) inr_wsX90) inr_wsX00) inr_wsX20) inr_wsX60) inr_wsX70) inr_wsX40) (fun _ h => absurd h List.not_mem_nil)
set_option maxRecDepth 20000 in
theorem inx_0 : ∀ w ∈ (vx_atS RX10 307 "java/lang/IllegalStateException" ["java/lang/RuntimeException", "java/lang/Exception"]).filter goodWord, w ∈ lw_tbl := by decide +kernel
set_option maxRecDepth 20000 in
theorem inx_1 : ∀ w ∈ (vx_atS RX10 312 "java/lang/IndexOutOfBoundsException" ["java/lang/RuntimeException", "java/lang/Exception"]).filter goodWord, w ∈ lw_tbl := by decide +kernel
set_option maxRecDepth 20000 in
theorem inx_2 : ∀ w ∈ (vx_atS RX10 110 "java/lang/IllegalArgumentException" ["java/lang/RuntimeException", "java/lang/Exception"]).filter goodWord, w ∈ lw_tbl := by decide +kernel
set_option maxRecDepth 20000 in
theorem inx_3 : ∀ w ∈ (vx_atS RX10 254 "java/lang/UnsupportedOperationException" ["java/lang/RuntimeException", "java/lang/Exception"]).filter goodWord, w ∈ lw_tbl := by decide +kernel
theorem TBX_tbl : ∀ w ∈ TBX, w ∈ lw_tbl := inG TB_tbl (inG inx_0 (inG inx_1 (inG inx_2 inx_3)))
