set_option maxRecDepth 20000 in
theorem inr_43 : ∀ w ∈ wsL_law0_r43, w ∈ lw_tbl := mem_idx [1006, 1007, 1008, 1009, 1010, 1658, 1659, 1660, 1661, 1662, 1664, 72, 1665, 1011, 1012, 1013, 1014, 1015, 1016, 1017, 1666, 1667, 1668, 1669] (by decide +kernel)
set_option maxRecDepth 20000 in
theorem inr_44 : ∀ w ∈ wsL_law0_r44, w ∈ lw_tbl := mem_idx [1019, 1020, 1021, 1022, 1023, 1024, 1025, 1670, 1671, 1672, 1673, 1026, 1027, 1028, 1029, 1030, 1031, 1032, 1033, 1091, 108, 1034, 1035, 1036] (by decide +kernel)
set_option maxRecDepth 20000 in
theorem inr_45 : ∀ w ∈ wsL_law0_r45, w ∈ lw_tbl := mem_idx [1037, 1038, 1039, 1040, 1042, 22, 1043, 1044, 1046, 1047, 1048, 1049, 210, 1050, 1051, 1052, 1053, 1054, 1055, 1056, 1057, 1058, 1060, 1062] (by decide +kernel)
set_option maxRecDepth 20000 in
theorem inr_46 : ∀ w ∈ wsL_law0_r46, w ∈ lw_tbl := mem_idx [23, 1063, 1064, 1065, 1066, 1067, 224, 1068, 1069, 1070, 1071, 1072, 1073, 1074, 1075, 1076, 1077, 1078, 1079, 1080, 1081, 1082, 1083, 1084] (by decide +kernel)
set_option maxRecDepth 20000 in
theorem inr_47 : ∀ w ∈ wsL_law0_r47, w ∈ lw_tbl := mem_idx [1085, 1086, 1087, 1088, 1089, 1090, 1107, 1109, 24, 1110, 1111, 1112, 1113, 1114, 1115, 1116, 1117, 1118, 1119, 1121, 25, 1122, 1123, 1124] (by decide +kernel)
set_option maxRecDepth 20000 in
theorem inr_48 : ∀ w ∈ wsL_law0_r48, w ∈ lw_tbl := mem_idx [1125, 1126, 1127, 1128, 1129, 1131, 26, 1132, 247, 245, 1133, 1134, 1135, 1136, 1137, 1138, 1139, 1140, 1141, 1142, 1143, 1144, 1674, 1675] (by decide +kernel)
set_option maxRecDepth 20000 in
theorem inr_49 : ∀ w ∈ wsL_law0_r49, w ∈ lw_tbl := mem_idx [1676, 1677, 1711, 1712, 1713, 1678, 1680, 73, 1681, 1682, 1684, 74, 1685, 1686, 1688, 75, 1689, 1690, 1692, 76, 1693, 1694, 1695, 1696] (by decide +kernel)
set_option maxRecDepth 20000 in
theorem inr_50 : ∀ w ∈ wsL_law0_r50, w ∈ lw_tbl := mem_idx [1697, 1699, 77, 1700, 1701, 1703, 78, 1704, 1705, 1707, 79, 1708, 1709, 1710, 1145, 1146, 1147, 1148, 1149, 1150, 1151, 1152, 1154, 27] (by decide +kernel)
set_option maxRecDepth 20000 in
theorem inr_51 : ∀ w ∈ wsL_law0_r51, w ∈ lw_tbl := mem_idx [1155, 1157, 1159, 28, 1160, 1171, 1172, 109, 1161, 1163, 29, 1164, 1165, 1166, 1167, 1168, 1169, 1170, 1173, 1174, 1175, 1176, 1183, 165] (by decide +kernel)
set_option maxRecDepth 20000 in
theorem inr_52 : ∀ w ∈ wsL_law0_r52, w ∈ lw_tbl := mem_idx [1184, 1185, 1186, 1187, 1177, 1178, 1179, 1180, 1181, 1182, 1199, 1200, 1201, 1202, 1203, 1204, 1205, 1206, 1714, 1715, 1716, 1717, 1718, 1720] (by decide +kernel)
set_option maxRecDepth 20000 in
theorem inr_53 : ∀ w ∈ wsL_law0_r53, w ∈ lw_tbl := mem_idx [80, 1721, 1722, 1724, 81, 1725, 1207, 1208, 1209, 1210, 1211, 1212, 1213, 1214, 1726, 1727, 1728, 1729, 1730, 1216, 1217, 1218, 1219, 1220] (by decide +kernel)
set_option maxRecDepth 20000 in
theorem inr_54 : ∀ w ∈ wsL_law0_r54, w ∈ lw_tbl := mem_idx [1221, 1222, 1224, 1226, 30, 1227, 1233, 1228, 1229, 1230, 1231, 1232, 1731, 1732, 1733, 1734, 1234, 1235, 1236, 1237, 1238, 1239, 1240, 1735] (by decide +kernel)
set_option maxRecDepth 20000 in
theorem inr_55 : ∀ w ∈ wsL_law0_r55, w ∈ lw_tbl := mem_idx [1736, 1737, 1738, 1242, 1243, 1244, 1245, 1246, 1247, 1248, 1249, 1251, 31, 1252, 1253, 1254, 1255, 1739, 1740, 1741, 1742] (by decide +kernel)
