/-! THE WORDS OF THE LINKS (the places written by a program of mine) -/
def zCn (a : Nat) : String := z_cn.getD a ""
def zTt (a : Nat) : u_T := match z_cls[a]? with
  | some r => r.2.1
  | none => fun _ => ("", "", "", false)
def zNn (a : Nat) : Nat := match z_cls[a]? with
  | some r => r.2.2
  | none => 0
def zY (j : Nat) : MethodName := match z_meth[j]? with
  | some m => m.1
  | none => ⟨"", "", ""⟩
def zEn (a : Nat) : String := z_exc.getD a ""
def zSn (a : Nat) : String × String × String := z_spn.getD a ("", "", "")
def zHost : String := "PactLedger"
def zKl (a : Nat) : Int64 := match z_kv[a]? with
  | some (.long v) => v
  | _ => 0
/-- the words of a link -/
def zlw (own : String) (q : Nat × Nat × Nat × Nat) : List Cond := match q with
  | (x, 0, a, b) => [.fieldLink own x (zTt a b).1 (zTt a b).2.1 (zTt a b).2.2.1]
  | (x, 1, a, b) => [.fieldLinkNest own x (zTt a b).1 (zTt a b).2.1 (zTt a b).2.2.1 zHost]
  | (x, 2, a, _) => [.classLink own x (zCn a), .instantiable (zCn a) (zNn a), .initialized (zCn a)]
  | (x, 3, a, _) => [.classLink own (x - 100000) (zCn (z_acl.getD a 0)), .arrayOver (.object (zCn (z_acl.getD a 0)))]
  | (x, 4, a, _) => [.classLink own x (zEn a), .initialized (zEn a)]
  | (x, 5, j, _) => [.methodLink own x (zY j), .static (zY j), .initialized (zY j).cls]
  | (x, 6, j, _) => [.methodLinkNest own x (zY j) zHost, .static (zY j), .initialized (zY j).cls]
  | (x, 7, j, _) => [.methodLink own x (zY j), .instanceMethod (zY j), .selects (zY j).cls (zY j) (zY j), .initialized (zY j).cls]
  | (x, 8, j, _) => [.methodLinkNest own x (zY j) zHost, .instanceMethod (zY j), .selects (zY j).cls (zY j) (zY j), .initialized (zY j).cls]
  | (x, 9, j, _) => [.methodLink own x (zY j), .instanceMethod (zY j), .initialized (zY j).cls]
  | (x, 10, j, _) => [.methodLinkNest own x (zY j) zHost, .instanceMethod (zY j), .initialized (zY j).cls]
  | (x, 11, _, _) => [.methodLink own x objectInit, .instanceMethod objectInit]
  | (x, 12, a, 0) => [.fieldLink own x (zSn a).1 (zSn a).2.1 (zSn a).2.2]
  | (x, 12, a, _) => [.fieldLinkNest own x (zSn a).1 (zSn a).2.1 (zSn a).2.2 zHost]
  | (x, 13, a, _) => [.constantLong own x (zKl a)]
  | (x, 15, a, _) => [.classLink own x (zEn a)]
  | _ => []
/-- a method's code as a word -/
def zcw (j : Nat) : Cond := match z_meth[j]? with
  | some mt => if z_hh.getD j [] = [] then .code mt.1 mt.2.1 mt.2.2.1 mt.2.2.2.1 else .codeWith mt.1 mt.2.1 mt.2.2.1 mt.2.2.2.1 (z_hh.getD j [])
  | none => .returned
set_option maxRecDepth 100000 in
theorem z_lw_0 : (z_link.getD 0 []).flatMap (zlw (zCn 0)) = ([139, 140, 142, 143, 112, 144, 145, 112, 192, 176, 177, 113, 178, 179, 113, 193, 190, 830, 131, 194, 195, 268, 118, 153, 332, 119, 347, 348, 349, 112, 359, 360, 361, 112, 363, 364, 365, 112, 527, 528, 124, 529, 530, 124, 545, 546, 547, 120, 549, 550, 551, 124, 608, 609, 610, 120, 614, 615, 126, 619, 620, 127, 643, 644, 645, 124, 826, 649, 650, 127, 827, 746, 127, 470, 828, 560, 561, 124, 829, 762, 763, 126, 484, 831, 832, 131, 535, 843, 537, 845, 156, 875, 876, 877, 113, 221, 223, 0, 111, 836, 879, 880, 881, 112, 884, 885, 132, 886, 887, 132, 841, 915, 521, 123, 916, 917, 918, 132, 839, 920, 921, 922, 132, 1152, 939, 940, 132, 1153, 238, 239, 123, 241, 242, 243, 123, 1154, 787, 788, 123, 1155, 133, 847, 849, 899, 1157, 1007, 1008, 113, 1165, 1166, 1167, 131, 184, 225, 226, 227, 131, 1182, 1183, 1184, 131, 233, 234, 235, 131, 1186, 1119, 1120, 123, 213, 214, 215, 113, 439, 190, 191, 612, 613] : List Nat).filterMap (fun i => lw_tbl[i]?) := by decide +kernel
set_option maxRecDepth 100000 in
theorem z_lw_1 : (z_link.getD 1 []).flatMap (zlw (zCn 1)) = ([147, 140, 150, 148, 367, 120, 151, 152, 154, 157, 158, 159, 368, 370, 3, 112, 523, 524, 123, 464, 465, 120, 380, 382, 6, 112, 883, 762, 763, 126, 485, 372, 374, 4, 112, 376, 378, 5, 112, 386, 388, 7, 112, 498, 500, 8, 112, 502, 504, 9, 112, 509, 510, 120, 517, 518, 120, 390, 391, 121, 403, 404, 121, 396, 397, 121, 399, 400, 121, 405, 406, 121, 424, 425, 123, 506, 507, 123, 384, 118, 148, 149] : List Nat).filterMap (fun i => lw_tbl[i]?) := by decide +kernel
set_option maxRecDepth 100000 in
theorem z_lw_2 : (z_link.getD 2 []).flatMap (zlw (zCn 2)) = ([181, 140, 182, 183, 433, 1010, 1012, 32, 113, 1014, 1015, 1016, 123, 1019, 1021, 33, 113, 1026, 1028, 34, 113, 1030, 1032, 35, 113, 1036, 1038, 36, 113, 445, 447, 1040, 238, 239, 123, 1035, 1007, 1008, 113, 1041, 787, 788, 123, 437, 1034, 251, 252, 123, 441, 410, 416, 414, 1023, 1024, 1025] : List Nat).filterMap (fun i => lw_tbl[i]?) := by decide +kernel
set_option maxRecDepth 100000 in
theorem z_lw_3 : (z_link.getD 3 []).flatMap (zlw (zCn 3)) = ([431, 140, 432, 427, 248, 123, 435, 440, 443, 444, 446, 448, 428, 429, 123, 526, 515, 123, 1060, 521, 123, 1018, 981, 121, 411, 784, 238, 239, 123, 785, 782, 123, 786, 787, 788, 123, 790, 791, 121, 793, 794, 129, 796, 797, 130, 245, 247, 1, 123, 254, 242, 243, 123, 250, 251, 252, 123, 974, 394, 122, 1122, 1124, 42, 123, 1126, 1128, 43, 123, 1130, 1111, 123, 1131, 1090, 123, 427, 513] : List Nat).filterMap (fun i => lw_tbl[i]?) := by decide +kernel
set_option maxRecDepth 100000 in
theorem z_lw_4 : (z_link.getD 4 []).flatMap (zlw (zCn 4)) = ([467, 140, 468, 472, 476, 479, 483, 514, 515, 123, 520, 521, 123, 656, 557, 512, 513] : List Nat).filterMap (fun i => lw_tbl[i]?) := by decide +kernel
set_option maxRecDepth 100000 in
theorem z_lw_5 : (z_link.getD 5 []).flatMap (zlw (zCn 5)) = ([983, 404, 121, 408, 140, 409, 413, 415, 984, 406, 121, 393, 394, 122, 402, 1049, 1050, 1051, 121, 1068, 1069, 121, 1086, 1087, 1095, 1096, 121, 1099, 981, 121, 1100, 1066, 121, 1101, 1102, 1103, 121, 1105, 1080, 1081, 121, 983, 1098] : List Nat).filterMap (fun i => lw_tbl[i]?) := by decide +kernel
set_option maxRecDepth 100000 in
theorem z_lw_6 : (z_link.getD 6 []).flatMap (zlw (zCn 6)) = ([532, 140, 534, 536, 533, 155, 563, 125, 553, 554, 555, 120, 477, 469, 559, 560, 561, 124, 480, 578, 546, 547, 120, 579, 550, 551, 124, 596, 580, 581, 126, 582, 583, 126, 594, 473, 629, 647, 394, 122, 648, 649, 650, 127, 652, 653, 654, 120, 658, 660, 10, 124, 702, 703, 128, 662, 663, 664, 127, 704, 705, 128, 734, 736, 13, 124, 676, 667, 668, 127, 677, 230, 231, 126, 678, 679, 126, 682, 683, 684, 126, 686, 688, 11, 124, 694, 696, 12, 124, 690, 691, 692, 126, 698, 699, 700, 126, 719, 738, 671, 672, 127, 739, 644, 645, 124, 740, 640, 641, 127, 741, 743, 14, 124, 749, 751, 15, 124, 757, 759, 16, 124, 808, 810, 20, 124, 815, 817, 21, 124, 819, 821, 22, 124, 722, 745, 746, 127, 590, 753, 615, 126, 754, 755, 126, 761, 762, 763, 126, 812, 813, 126, 823, 824, 127] : List Nat).filterMap (fun i => lw_tbl[i]?) := by decide +kernel
set_option maxRecDepth 100000 in
theorem z_lw_7 : (z_link.getD 7 []).flatMap (zlw (zCn 7)) = ([585, 140, 587, 617, 581, 126, 591, 592, 593, 586, 394, 122, 595, 618, 583, 126, 681, 679, 126, 765, 767, 17, 126, 772, 683, 684, 126, 773, 775, 18, 126, 800, 802, 19, 126, 471, 769, 230, 231, 126, 770, 546, 547, 120, 771, 762, 763, 126, 799, 691, 692, 126, 481, 478, 777, 778, 779, 120, 474, 486, 804, 805, 806, 123, 781, 782, 123] : List Nat).filterMap (fun i => lw_tbl[i]?) := by decide +kernel
set_option maxRecDepth 100000 in
theorem z_lw_8 : (z_link.getD 8 []).flatMap (zlw (zCn 8)) = ([627, 140, 628, 622, 623, 127, 630, 631, 624, 625, 127, 639, 640, 641, 127, 670, 671, 672, 127, 674, 581, 126, 675, 583, 126, 666, 667, 668, 127, 589, 748, 679, 126] : List Nat).filterMap (fun i => lw_tbl[i]?) := by decide +kernel
set_option maxRecDepth 100000 in
theorem z_lw_9 : (z_link.getD 9 []).flatMap (zlw (zCn 9)) = ([707, 140, 475, 711, 713, 708, 546, 547, 120, 482, 715, 709, 609, 610, 120, 717, 720, 710, 613] : List Nat).filterMap (fun i => lw_tbl[i]?) := by decide +kernel
set_option maxRecDepth 100000 in
theorem z_lw_10 : (z_link.getD 10 []).flatMap (zlw (zCn 10)) = ([834, 140, 842, 844, 846, 848, 835, 837, 838, 840, 588, 229, 230, 231, 126, 237, 238, 239, 123, 1169, 226, 227, 131, 1170, 234, 235, 131, 436, 1171, 981, 121, 1172, 425, 123, 1173, 787, 788, 123, 1174, 521, 123] : List Nat).filterMap (fun i => lw_tbl[i]?) := by decide +kernel
set_option maxRecDepth 100000 in
theorem z_lw_11 : (z_link.getD 11 []).flatMap (zlw (zCn 11)) = ([889, 140, 892, 891, 524, 123, 893, 897, 898, 894, 895, 896, 928, 930, 24, 132, 942, 394, 122, 936, 119, 924, 926, 23, 132, 712, 714, 438, 932, 934, 25, 132, 938, 939, 940, 132, 718, 943, 921, 922, 132, 944, 917, 918, 132, 945, 947, 26, 132, 953, 955, 27, 132, 958, 960, 28, 132, 966, 968, 29, 132, 975, 977, 30, 132, 1061, 1063, 38, 132, 1114, 1116, 41, 132, 1140, 1142, 44, 132, 962, 963, 964, 123, 434, 970, 971, 972, 123, 949, 251, 252, 123, 950, 238, 239, 123, 721, 951, 787, 788, 123, 952, 521, 123, 957, 515, 123, 716, 1110, 1111, 123, 1089, 1090, 123, 980, 981, 121, 985, 425, 123, 1144, 1146, 45, 132, 1148, 1149, 1150, 123, 1118, 1119, 1120, 123, 1132, 1133, 1134, 123, 1136, 1137, 1138, 123, 1057, 1058, 123, 1044, 1015, 1016, 123, 1065, 1066, 121, 1071, 1073, 39, 132, 1079, 1080, 1081, 121, 1083, 1084, 121, 1088, 1050, 1051, 121, 1092, 1093, 121, 1106, 1108, 40, 132, 1113, 1102, 1103, 121, 412, 1075, 1076, 1077, 121, 990, 133, 979, 782, 123, 986, 988, 31, 132, 1006, 1007, 1008, 113, 1042, 125, 1045, 1046, 1047, 121, 1053, 1055, 37, 132, 442, 1005, 507, 123, 890, 513] : List Nat).filterMap (fun i => lw_tbl[i]?) := by decide +kernel
set_option maxRecDepth 100000 in
theorem z_lw_12 : (z_link.getD 12 []).flatMap (zlw (zCn 12)) = ([1192, 140, 1194, 1195, 1198, 1202, 1203, 1204, 1205, 1206, 1207, 1208, 1209, 1210, 1211, 1212, 1213, 1215, 1216, 1217, 1218, 1219, 1223, 1224, 1225, 1226, 1227, 1228, 1229, 1230, 1231, 1232, 1233, 1234, 1235, 1236, 1237, 1238, 1239, 1240, 1241, 1254, 1255, 1256, 1257, 1193, 1199, 1200, 1201, 1420, 1422, 48, 114, 1424, 1426, 49, 114, 1428, 1430, 50, 114, 1214, 1447, 1449, 54, 114, 1440, 1441, 114, 1443, 1445, 53, 114, 1451, 1453, 55, 114, 1220, 1221, 1533, 1535, 74, 114, 1545, 1547, 77, 114, 1521, 1523, 71, 114, 1517, 1519, 70, 114, 1525, 1527, 72, 114, 1529, 1531, 73, 114, 1549, 1551, 78, 114, 1537, 1539, 75, 114, 1541, 1543, 76, 114, 1553, 1555, 79, 114, 1557, 1558, 114, 1599, 1601, 87, 114, 1197, 1627, 1222, 1619, 1621, 92, 114, 1603, 1605, 88, 114, 1623, 1625, 93, 114, 1628, 1630, 94, 114, 1632, 1634, 95, 114, 1636, 1638, 96, 114, 1259, 1258, 1251, 1660, 1662, 102, 114, 1664, 1666, 103, 114, 1668, 1670, 104, 114, 1672, 1674, 105, 114, 1680, 1682, 107, 114, 1242, 1479, 1481, 62, 114, 1475, 1477, 61, 114, 1243, 1244, 1494, 1496, 65, 114, 1498, 1500, 66, 114, 1436, 1438, 52, 114, 1513, 1515, 69, 114, 1459, 1461, 57, 114, 1463, 1465, 58, 114, 1471, 1473, 60, 114, 1483, 1485, 63, 114, 1245, 1247, 1249, 1250, 1467, 1469, 59, 114, 1487, 1488, 114, 1490, 1492, 64, 114, 1502, 1503, 114, 1505, 1507, 67, 114, 1509, 1511, 68, 114, 1560, 1561, 114, 1248, 1252, 1253, 1595, 1597, 86, 114, 1591, 1593, 85, 114, 1607, 1609, 89, 114, 1611, 1613, 90, 114, 1615, 1617, 91, 114, 1640, 1642, 97, 114, 1652, 1654, 100, 114, 1644, 1646, 98, 114, 1648, 1650, 99, 114, 1656, 1658, 101, 114, 1676, 1678, 106, 114, 1684, 1686, 108, 114, 1416, 1418, 47, 114, 1432, 1434, 51, 114, 1563, 1565, 80, 114, 1196, 1407, 1246, 1412, 1414, 46, 114, 1455, 1457, 56, 114, 1575, 1577, 81, 114, 1579, 1581, 82, 114, 1583, 1585, 83, 114, 1587, 1589, 84, 114, 1688, 1690, 109, 114] : List Nat).filterMap (fun i => lw_tbl[i]?) := by decide +kernel
set_option maxRecDepth 100000 in
theorem z_lw_13 : (z_link.getD 13 []).flatMap (zlw (zCn 13)) = ([264, 265, 266, 111, 134, 135, 111, 262, 263, 355, 356, 357, 111, 354, 871, 872, 873, 111, 870, 1161, 1162, 1163, 111, 1178, 1179, 1180, 111, 136, 137, 111, 1187, 1188, 114, 1189, 1190, 114, 1712, 259, 260, 110, 1403, 1404, 1405, 114, 1399, 1400, 1401, 114, 351, 352, 110, 1408, 1409, 1410, 114, 205, 206, 207, 111, 1567, 1568, 1569, 114, 867, 868, 110, 1571, 1572, 1573, 114, 1158, 1159, 110, 1692, 1693, 1694, 114, 1175, 1176, 110, 1696, 1697, 1698, 114, 209, 210, 211, 111, 1700, 1701, 1702, 114, 217, 218, 219, 111, 1704, 1705, 1706, 114, 255, 256, 257, 111, 1708, 1709, 1710, 114] : List Nat).filterMap (fun i => lw_tbl[i]?) := by decide +kernel
set_option maxRecDepth 100000 in
theorem z_lw_14 : (z_link.getD 14 []).flatMap (zlw (zCn 14)) = ([] : List Nat).filterMap (fun i => lw_tbl[i]?) := by decide +kernel
set_option maxRecDepth 100000 in
theorem z_lw_15 : (z_link.getD 15 []).flatMap (zlw (zCn 15)) = ([] : List Nat).filterMap (fun i => lw_tbl[i]?) := by decide +kernel
set_option maxRecDepth 100000 in
theorem z_lw_16 : (z_link.getD 16 []).flatMap (zlw (zCn 16)) = ([] : List Nat).filterMap (fun i => lw_tbl[i]?) := by decide +kernel
set_option maxRecDepth 100000 in
theorem z_uw_0 : u_ws (zCn 0) (zTt 0) (zNn 0) = ([196, 198, 200, 202] : List Nat).filterMap (fun i => lw_tbl[i]?) := by decide +kernel
set_option maxRecDepth 100000 in
theorem z_uw_1 : u_ws (zCn 1) (zTt 1) (zNn 1) = ([160, 162, 164, 166, 168, 170, 172] : List Nat).filterMap (fun i => lw_tbl[i]?) := by decide +kernel
set_option maxRecDepth 100000 in
theorem z_uw_2 : u_ws (zCn 2) (zTt 2) (zNn 2) = ([185, 187] : List Nat).filterMap (fun i => lw_tbl[i]?) := by decide +kernel
set_option maxRecDepth 100000 in
theorem z_uw_3 : u_ws (zCn 3) (zTt 3) (zNn 3) = ([449, 451, 453, 455, 457, 459, 461] : List Nat).filterMap (fun i => lw_tbl[i]?) := by decide +kernel
set_option maxRecDepth 100000 in
theorem z_uw_4 : u_ws (zCn 4) (zTt 4) (zNn 4) = ([487, 489, 491, 493, 495] : List Nat).filterMap (fun i => lw_tbl[i]?) := by decide +kernel
set_option maxRecDepth 100000 in
theorem z_uw_5 : u_ws (zCn 5) (zTt 5) (zNn 5) = ([417, 419, 421] : List Nat).filterMap (fun i => lw_tbl[i]?) := by decide +kernel
set_option maxRecDepth 100000 in
theorem z_uw_6 : u_ws (zCn 6) (zTt 6) (zNn 6) = ([538, 540, 542] : List Nat).filterMap (fun i => lw_tbl[i]?) := by decide +kernel
set_option maxRecDepth 100000 in
theorem z_uw_7 : u_ws (zCn 7) (zTt 7) (zNn 7) = ([597, 599, 601, 603, 605] : List Nat).filterMap (fun i => lw_tbl[i]?) := by decide +kernel
set_option maxRecDepth 100000 in
theorem z_uw_8 : u_ws (zCn 8) (zTt 8) (zNn 8) = ([632, 634, 636] : List Nat).filterMap (fun i => lw_tbl[i]?) := by decide +kernel
set_option maxRecDepth 100000 in
theorem z_uw_9 : u_ws (zCn 9) (zTt 9) (zNn 9) = ([723, 725, 727, 729, 731] : List Nat).filterMap (fun i => lw_tbl[i]?) := by decide +kernel
set_option maxRecDepth 100000 in
theorem z_uw_10 : u_ws (zCn 10) (zTt 10) (zNn 10) = ([850, 852, 854, 856, 858, 860, 862, 864] : List Nat).filterMap (fun i => lw_tbl[i]?) := by decide +kernel
set_option maxRecDepth 100000 in
theorem z_uw_11 : u_ws (zCn 11) (zTt 11) (zNn 11) = ([900, 902, 904, 906, 908, 910, 912] : List Nat).filterMap (fun i => lw_tbl[i]?) := by decide +kernel
set_option maxRecDepth 100000 in
theorem z_uw_12 : u_ws (zCn 12) (zTt 12) (zNn 12) = ([1260, 1262, 1264, 1266, 1268, 1270, 1272, 1274, 1276, 1278, 1280, 1282, 1284, 1286, 1288, 1290, 1292, 1294, 1296, 1298, 1300, 1302, 1304, 1306, 1308, 1310, 1312, 1314, 1316, 1318, 1320, 1322, 1324, 1326, 1328, 1330, 1332, 1334, 1336, 1338, 1340, 1342, 1344, 1346, 1348, 1350, 1352, 1354, 1356, 1358, 1360, 1362, 1364, 1366, 1368, 1370, 1372, 1374, 1376, 1378, 1380, 1382, 1384, 1386, 1388, 1390, 1392] : List Nat).filterMap (fun i => lw_tbl[i]?) := by decide +kernel
theorem zmem_places {L : List Cond} {ps : List Nat} (h : L = ps.filterMap (fun i => lw_tbl[i]?)) : ∀ w ∈ L, w ∈ lw_tbl := by
  intro w hw; rw [h] at hw; obtain ⟨i, -, hi⟩ := List.mem_filterMap.mp hw; exact List.mem_of_getElem? hi
theorem z_lw : ∀ (c : Nat), ∀ w ∈ (z_link.getD c []).flatMap (zlw (zCn c)), w ∈ lw_tbl
  | 0 => zmem_places z_lw_0
  | 1 => zmem_places z_lw_1
  | 2 => zmem_places z_lw_2
  | 3 => zmem_places z_lw_3
  | 4 => zmem_places z_lw_4
  | 5 => zmem_places z_lw_5
  | 6 => zmem_places z_lw_6
  | 7 => zmem_places z_lw_7
  | 8 => zmem_places z_lw_8
  | 9 => zmem_places z_lw_9
  | 10 => zmem_places z_lw_10
  | 11 => zmem_places z_lw_11
  | 12 => zmem_places z_lw_12
  | 13 => zmem_places z_lw_13
  | 14 => zmem_places z_lw_14
  | 15 => zmem_places z_lw_15
  | 16 => zmem_places z_lw_16
  | k + 17 => fun w hw => by have h0 : z_link.getD (k + 17) [] = [] := rfl; rw [h0] at hw; exact absurd hw List.not_mem_nil
theorem z_uw : ∀ (c : Nat), c < 13 → ∀ w ∈ u_ws (zCn c) (zTt c) (zNn c), w ∈ lw_tbl
  | 0, _ => zmem_places z_uw_0
  | 1, _ => zmem_places z_uw_1
  | 2, _ => zmem_places z_uw_2
  | 3, _ => zmem_places z_uw_3
  | 4, _ => zmem_places z_uw_4
  | 5, _ => zmem_places z_uw_5
  | 6, _ => zmem_places z_uw_6
  | 7, _ => zmem_places z_uw_7
  | 8, _ => zmem_places z_uw_8
  | 9, _ => zmem_places z_uw_9
  | 10, _ => zmem_places z_uw_10
  | 11, _ => zmem_places z_uw_11
  | 12, _ => zmem_places z_uw_12
  | k + 13, h => absurd h (by omega)
theorem z_clq : ∀ (c : Nat), c < 13 → z_cls[c]? = some (zCn c, zTt c, zNn c)
  | 0, _ => rfl
  | 1, _ => rfl
  | 2, _ => rfl
  | 3, _ => rfl
  | 4, _ => rfl
  | 5, _ => rfl
  | 6, _ => rfl
  | 7, _ => rfl
  | 8, _ => rfl
  | 9, _ => rfl
  | 10, _ => rfl
  | 11, _ => rfl
  | 12, _ => rfl
  | k + 13, h => absurd h (by omega)
