set_option maxRecDepth 20000 in
theorem inr_29 : ∀ w ∈ wsL_law0_r29, w ∈ lw_tbl := mem_idx [680, 681, 682, 683, 684, 685, 686, 687, 688, 689, 690, 691, 692, 693, 694, 695, 696, 697, 698, 699, 700, 701, 702, 704] (by decide +kernel)
set_option maxRecDepth 20000 in
theorem inr_30 : ∀ w ∈ wsL_law0_r30, w ∈ lw_tbl := mem_idx [705, 706, 708, 707, 105, 709, 711, 12, 712, 713, 714, 715, 716, 717, 718, 719, 720, 721, 722, 723, 724, 725, 727, 13] (by decide +kernel)
set_option maxRecDepth 20000 in
theorem inr_31 : ∀ w ∈ wsL_law0_r31, w ∈ lw_tbl := mem_idx [728, 1409, 1410, 1411, 1412, 1281, 1413, 1415, 32, 1416, 1282, 1283, 1298, 1438, 1440, 38, 1441, 1442, 1444, 39, 1445, 1452, 1454, 41] (by decide +kernel)
set_option maxRecDepth 20000 in
theorem inr_32 : ∀ w ∈ wsL_law0_r32, w ∈ lw_tbl := mem_idx [1455, 1456, 1458, 42, 1459, 1296, 1297, 1301, 1302, 1460, 1462, 43, 1463, 1464, 1466, 44, 1467, 1468, 1470, 45, 1471, 1472, 1474, 46] (by decide +kernel)
set_option maxRecDepth 20000 in
theorem inr_33 : ∀ w ∈ wsL_law0_r33, w ∈ lw_tbl := mem_idx [1475, 1480, 1482, 48, 1483, 1484, 1486, 49, 1487, 1300, 1303, 1488, 1490, 50, 1491, 1492, 1494, 51, 1495, 1496, 1497, 1498, 1499, 1500] (by decide +kernel)
set_option maxRecDepth 20000 in
theorem inr_34 : ∀ w ∈ wsL_law0_r34, w ∈ lw_tbl := mem_idx [1501, 1502, 1503, 1504, 1505, 1506, 1507, 1508, 1509, 1510, 1511, 1512, 1514, 52, 1515, 1521, 1523, 53, 1524, 1525, 1527, 54, 1528, 1529] (by decide +kernel)
set_option maxRecDepth 20000 in
theorem inr_35 : ∀ w ∈ wsL_law0_r35, w ∈ lw_tbl := mem_idx [1530, 1531, 1532, 1533, 1535, 55, 1536, 1537, 1538, 1539, 1541, 1543, 56, 1544, 1545, 1547, 57, 1548, 1549, 1551, 58, 1552, 1553, 1554] (by decide +kernel)
set_option maxRecDepth 20000 in
theorem inr_36 : ∀ w ∈ wsL_law0_r36, w ∈ lw_tbl := mem_idx [1555, 729, 730, 731, 732, 733, 734, 735, 736, 737, 738, 1564, 1565, 1566, 1567, 739, 740, 741, 742, 743, 744, 745, 746, 1599] (by decide +kernel)
set_option maxRecDepth 20000 in
theorem inr_37 : ∀ w ∈ wsL_law0_r37, w ∈ lw_tbl := mem_idx [1600, 1601, 1602, 1603, 1605, 64, 1606, 892, 893, 894, 895, 896, 897, 898, 899, 242, 900, 902, 16, 903, 904, 106, 920, 921] (by decide +kernel)
set_option maxRecDepth 20000 in
theorem inr_38 : ∀ w ∈ wsL_law0_r38, w ∈ lw_tbl := mem_idx [922, 923, 924, 925, 926, 927, 1607, 1608, 1609, 1610, 1611, 1613, 65, 1614, 1615, 1617, 66, 1618, 1619, 1621, 67, 1622, 928, 929] (by decide +kernel)
set_option maxRecDepth 20000 in
theorem inr_39 : ∀ w ∈ wsL_law0_r39, w ∈ lw_tbl := mem_idx [930, 931, 932, 933, 934, 935, 936, 938, 17, 939, 940, 107, 956, 957, 958, 959, 960, 961, 962, 963, 964, 965, 966, 1623] (by decide +kernel)
set_option maxRecDepth 20000 in
theorem inr_40 : ∀ w ∈ wsL_law0_r40, w ∈ lw_tbl := mem_idx [1624, 1625, 1626, 1627, 1629, 68, 1630, 1631, 1633, 69, 1634, 1635, 1637, 70, 1638, 1639, 1640, 1641, 967, 968, 969, 970, 971, 972] (by decide +kernel)
set_option maxRecDepth 20000 in
theorem inr_41 : ∀ w ∈ wsL_law0_r41, w ∈ lw_tbl := mem_idx [973, 974, 976, 18, 977, 978, 980, 19, 981, 982, 983, 985, 20, 986, 987, 988, 989, 990, 991, 993, 21, 994, 995, 1642] (by decide +kernel)
set_option maxRecDepth 20000 in
theorem inr_42 : ∀ w ∈ wsL_law0_r42, w ∈ lw_tbl := mem_idx [1643, 1644, 1645, 1646, 1648, 71, 1649, 1650, 1651, 1652, 1653, 1654, 1655, 1656, 1657, 997, 998, 999, 1000, 1001, 1002, 1003, 1004, 1005] (by decide +kernel)
