set_option maxRecDepth 20000 in
theorem inr_15 : ∀ w ∈ wsL_law0_r15, w ∈ lw_tbl := mem_idx [854, 855, 856, 857, 858, 859, 860, 861, 862, 863, 864, 865, 866, 867, 419, 420, 421, 433, 435, 3, 436, 175, 176, 177] (by decide +kernel)
set_option maxRecDepth 20000 in
theorem inr_16 : ∀ w ∈ wsL_law0_r16, w ∈ lw_tbl := mem_idx [178, 172, 169, 871, 872, 873, 874, 875, 413, 414, 415, 416, 876, 472, 473, 474, 877, 879, 15, 880, 881, 882, 883, 884] (by decide +kernel)
set_option maxRecDepth 20000 in
theorem inr_17 : ∀ w ∈ wsL_law0_r17, w ∈ lw_tbl := mem_idx [885, 886, 388, 887, 888, 889, 890, 891, 392, 394, 0, 395, 1568, 1569, 1570, 1571, 1580, 1585, 1586, 1587, 1588, 1589, 1590, 1591] (by decide +kernel)
set_option maxRecDepth 20000 in
theorem inr_18 : ∀ w ∈ wsL_law0_r18, w ∈ lw_tbl := mem_idx [1451, 1450, 1597, 1598, 1279, 1278, 1572, 1574, 60, 1575, 1516, 1517, 1518, 1520, 1576, 1578, 61, 1579, 1581, 1583, 62, 1584, 1417, 1419] (by decide +kernel)
set_option maxRecDepth 20000 in
theorem inr_19 : ∀ w ∈ wsL_law0_r19, w ∈ lw_tbl := mem_idx [33, 1420, 1272, 1273, 1274, 1275, 1276, 1433, 1277, 1421, 1423, 34, 1424, 1425, 1427, 35, 1428, 1429, 1431, 36, 1432, 1434, 1436, 37] (by decide +kernel)
set_option maxRecDepth 20000 in
theorem inr_20 : ∀ w ∈ wsL_law0_r20, w ∈ lw_tbl := mem_idx [1437, 1592, 1594, 63, 1595, 1596, 1446, 1448, 40, 1449, 1476, 1478, 47, 1479, 1560, 1562, 59, 1563, 1280, 1393, 1394, 1395, 1396, 380] (by decide +kernel)
set_option maxRecDepth 20000 in
theorem inr_21 : ∀ w ∈ wsL_law0_r21, w ∈ lw_tbl := mem_idx [381, 382, 383, 384, 385, 386, 387, 1556, 1557, 1558, 1559, 396, 397, 398, 399, 400, 401, 402, 403, 290, 168, 404, 405, 406] (by decide +kernel)
set_option maxRecDepth 20000 in
theorem inr_22 : ∀ w ∈ wsL_law0_r22, w ∈ lw_tbl := mem_idx [407, 408, 409, 410, 411, 412, 418, 437, 438, 439, 440, 441, 442, 443, 444, 447, 448, 449, 450, 451, 453, 4, 454, 455] (by decide +kernel)
set_option maxRecDepth 20000 in
theorem inr_23 : ∀ w ∈ wsL_law0_r23, w ∈ lw_tbl := mem_idx [457, 5, 458, 244, 459, 461, 6, 462, 171, 465, 463, 464, 466, 467, 468, 469, 240, 250, 251, 252, 243, 246, 470, 471] (by decide +kernel)
set_option maxRecDepth 20000 in
theorem inr_24 : ∀ w ∈ wsL_law0_r24, w ∈ lw_tbl := mem_idx [475, 476, 477, 478, 479, 480, 482, 7, 483, 484, 485, 486, 487, 488, 489, 490, 491, 492, 493, 494, 496, 8, 497, 498] (by decide +kernel)
set_option maxRecDepth 20000 in
theorem inr_25 : ∀ w ∈ wsL_law0_r25, w ∈ lw_tbl := mem_idx [499, 500, 104, 501, 502, 503, 504, 505, 506, 507, 508, 509, 511, 512, 513, 514, 515, 516, 518, 9, 519, 520, 521, 522] (by decide +kernel)
set_option maxRecDepth 20000 in
theorem inr_26 : ∀ w ∈ wsL_law0_r26, w ∈ lw_tbl := mem_idx [523, 524, 525, 526, 527, 528, 615, 616, 618, 10, 619, 620, 621, 622, 623, 624, 625, 626, 627, 209, 239, 630, 631, 628] (by decide +kernel)
set_option maxRecDepth 20000 in
theorem inr_27 : ∀ w ∈ wsL_law0_r27, w ∈ lw_tbl := mem_idx [629, 633, 634, 635, 636, 637, 638, 639, 640, 641, 642, 643, 645, 646, 647, 648, 653, 649, 650, 651, 652, 654, 655, 656] (by decide +kernel)
set_option maxRecDepth 20000 in
theorem inr_28 : ∀ w ∈ wsL_law0_r28, w ∈ lw_tbl := mem_idx [657, 658, 659, 660, 661, 663, 11, 664, 241, 665, 666, 667, 668, 669, 670, 671, 672, 674, 673, 675, 676, 677, 678, 679] (by decide +kernel)
