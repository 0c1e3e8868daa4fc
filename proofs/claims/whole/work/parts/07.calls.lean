/-! the words that calls, constants and new cells want, by the tables -/
def zin (w : Jvm.Cond) : Bool := decide (w ∈ lw_tbl) && goodWord w
def zHost : String := "DungeonBuilder"
def zRaw : MethodName := ⟨"java/lang/Double", "doubleToRawLongBits", "(D)J"⟩
def zMp : List (List Nat) := [[241], [537, 73, 534, 535, 536], [541, 76, 538, 540, 6], [544, 76, 542, 543, 0], [565, 76, 562, 564, 11], [571, 76, 568, 570, 12], [548, 76, 545, 547, 7], [557, 76, 554, 556, 9], [561, 76, 558, 560, 10], [552, 76, 549, 551, 8], [566], [422, 73, 567, 420, 421], [575, 73, 572, 573, 574], [448, 73, 587, 446, 447], [101], [414, 73, 411, 413, 0], [418, 73, 415, 417, 1], [425, 73, 423, 424, 0], [429, 73, 426, 428, 2], [452, 73, 449, 450, 451], [456, 73, 453, 454, 455], [461], [462], [575, 73, 596, 573, 574], [448, 73, 597, 446, 447], [476, 73, 473, 474, 475], [479, 72, 477, 478, 0], [482, 72, 480, 481, 0], [514, 73, 511, 513, 5], [517, 73, 515, 516, 0], [460, 73, 457, 458, 459], [579, 73, 576, 577, 578], [580], [586, 73, 583, 584, 585], [623, 72, 632, 622, 0], [758, 73, 755, 756, 757], [798, 73, 795, 796, 797], [294], [653, 83, 878, 652, 0], [881, 78, 879, 880, 0], [887, 78, 884, 886, 23], [758, 73, 882, 756, 757], [798, 73, 883, 796, 797], [890, 78, 888, 889, 0], [623, 72, 893, 622, 0], [620, 83, 891, 619, 0], [631, 73, 892, 629, 630], [348], [656, 86, 763, 655, 0], [767, 80, 764, 766, 20], [774, 80, 771, 773, 21], [770, 72, 768, 769, 0], [575, 73, 775, 573, 574], [778, 80, 776, 777, 0], [579, 73, 779, 577, 578], [586, 73, 780, 584, 585], [781], [782], [783], [786, 85, 784, 785, 0], [852, 80, 850, 851, 0], [868, 80, 865, 867, 22], [860, 80, 869, 858, 859], [186], [100, 73, 189, 99, 0], [410, 73, 407, 408, 409], [438], [284], [608, 77, 606, 607, 0], [642, 77, 640, 641, 0], [648, 77, 645, 647, 13], [611, 83, 609, 610, 0], [635, 85, 633, 634, 0], [639], [627, 73, 643, 625, 626], [623, 72, 644, 622, 0], [614, 83, 649, 613, 0], [617, 83, 650, 616, 0], [653, 83, 651, 652, 0], [620, 83, 618, 619, 0], [631, 73, 628, 629, 630], [614, 83, 612, 613, 0], [617, 83, 615, 616, 0], [623, 72, 621, 622, 0], [627, 73, 624, 625, 626], [801, 83, 805, 800, 0], [656, 86, 654, 655, 0], [452, 73, 657, 450, 451], [660, 83, 658, 659, 0], [205], [676, 75, 673, 675, 14], [688, 75, 685, 687, 15], [692, 75, 689, 691, 16], [700, 75, 697, 699, 18], [696, 75, 693, 695, 17], [703, 75, 701, 702, 0], [706, 75, 704, 705, 0], [710, 75, 707, 709, 19], [717, 75, 715, 716, 0], [422, 73, 718, 420, 421], [448, 73, 719, 446, 447], [472, 73, 720, 470, 471], [494, 73, 721, 492, 493], [502, 73, 722, 500, 501], [320], [656, 86, 947, 655, 0], [951, 79, 948, 950, 24], [956, 79, 953, 955, 25], [456, 73, 957, 454, 455], [631, 73, 958, 629, 630], [627, 73, 952, 625, 626], [962, 79, 971, 960, 961], [93], [100, 73, 98, 99, 0], [185, 74, 183, 184, 0], [204, 75, 202, 203, 0], [240, 76, 238, 239, 0], [283, 77, 281, 282, 0], [293, 78, 291, 292, 0], [319, 79, 317, 318, 0], [347, 80, 345, 346, 0], [406, 74, 403, 404, 405], [422, 73, 419, 420, 421], [433, 72, 430, 432, 3], [448, 73, 445, 446, 447], [472, 73, 469, 470, 471], [486, 72, 483, 485, 4], [494, 73, 491, 492, 493], [502, 73, 499, 500, 501], [510, 73, 507, 508, 509], [525, 73, 522, 523, 524], [533, 76, 530, 531, 532], [595, 73, 592, 593, 594], [605, 77, 602, 603, 604], [672, 75, 669, 670, 671], [684, 75, 681, 682, 683], [714, 75, 711, 712, 713], [726, 74, 723, 724, 725], [738, 74, 735, 736, 737], [746, 73, 743, 744, 745], [750, 73, 747, 748, 749], [754, 73, 751, 752, 753], [762, 80, 759, 760, 761], [790, 80, 787, 788, 789], [794, 73, 791, 792, 793], [801, 83, 799, 800, 0], [804, 83, 802, 803, 0], [452, 73, 810, 450, 451], [482, 72, 811, 481, 0], [798, 73, 812, 796, 797], [579, 73, 813, 577, 578], [586, 73, 814, 584, 585], [476, 73, 819, 474, 475], [823, 80, 820, 821, 822], [456, 73, 828, 454, 455], [770, 72, 837, 769, 0], [841, 80, 838, 839, 840], [849, 80, 846, 847, 848], [860, 80, 857, 858, 859], [864, 80, 861, 862, 863], [877, 78, 874, 875, 876], [909, 78, 906, 907, 908], [917, 78, 914, 915, 916], [928, 83, 926, 927, 0], [620, 83, 929, 619, 0], [623, 72, 934, 622, 0], [946, 79, 943, 944, 945], [962, 79, 959, 960, 961], [970, 79, 967, 968, 969], [976], [984, 78, 981, 982, 983], [996, 78, 993, 994, 995], [1004, 72, 1002, 1003, 0], [410, 73, 1012, 408, 409], [1020, 74, 1017, 1018, 1019], [437, 74, 434, 435, 436], [1026], [1119, 81, 1117, 1118, 0], [1127, 81, 1124, 1126, 29], [1225, 81, 1222, 1224, 44], [1228, 81, 1226, 1227, 0], [1232, 81, 1229, 1231, 45], [1135, 81, 1132, 1134, 31], [1123, 81, 1120, 1122, 28], [1155, 81, 1152, 1154, 35], [1147, 81, 1144, 1146, 33], [1151, 81, 1148, 1150, 34], [1167, 81, 1164, 1166, 37], [1170, 81, 1168, 1169, 0], [1112, 81, 1109, 1111, 26], [1116, 81, 1113, 1115, 27], [1131, 81, 1128, 1130, 30], [1143, 81, 1140, 1142, 32], [1163, 81, 1160, 1162, 36], [1178, 81, 1175, 1177, 38], [1186, 81, 1183, 1185, 39], [1194, 81, 1191, 1193, 40], [1209, 81, 1206, 1208, 41], [1205, 81, 1203, 1204, 0], [1221, 81, 1218, 1220, 43], [1213, 81, 1211, 1212, 0], [1217, 81, 1214, 1216, 42], [1248, 81, 1245, 1247, 47], [1272, 81, 1269, 1271, 53], [1276, 81, 1273, 1275, 54], [1260, 81, 1257, 1259, 50], [1264, 81, 1261, 1263, 51], [1268, 81, 1265, 1267, 52], [1256, 81, 1253, 1255, 49], [1244, 81, 1241, 1243, 46], [1252, 81, 1249, 1251, 48], [1295, 81, 1293, 1294, 0], [1299, 81, 1296, 1298, 56], [1303, 81, 1300, 1302, 57], [1292, 81, 1289, 1291, 55], [1307, 81, 1304, 1306, 58], [1333, 81, 1331, 1332, 0], [1330, 81, 1327, 1329, 60], [1322, 81, 1320, 1321, 0], [1326, 81, 1323, 1325, 59], [1345, 81, 1342, 1344, 61], [1349, 81, 1346, 1348, 62], [1357, 81, 1354, 1356, 63], [1369, 81, 1366, 1368, 64], [1393, 81, 1390, 1392, 65], [1433, 81, 1430, 1432, 68], [1429, 81, 1426, 1428, 67], [1425, 81, 1422, 1424, 66], [1437, 81, 1434, 1436, 69], [1445, 81, 1442, 1444, 70], [1469, 87, 1467, 1468, 0], [1472, 87, 1470, 1471, 0], [1473], [92, 72, 90, 91, 0], [1025, 81, 1023, 1024, 0], [402, 72, 399, 400, 401], [1108, 81, 1105, 1106, 1107], [444, 72, 441, 442, 443], [1139, 81, 1136, 1137, 1138], [468, 72, 465, 466, 467], [1159, 81, 1156, 1157, 1158], [490, 72, 487, 488, 489], [1174, 81, 1171, 1172, 1173], [498, 72, 495, 496, 497], [1182, 81, 1179, 1180, 1181], [506, 72, 503, 504, 505], [1190, 81, 1187, 1188, 1189], [521, 72, 518, 519, 520], [1198, 81, 1195, 1196, 1197], [529, 72, 526, 527, 528], [1202, 81, 1199, 1200, 1201], [591, 72, 588, 589, 590], [1236, 81, 1233, 1234, 1235], [601, 72, 598, 599, 600], [1240, 81, 1237, 1238, 1239], [664, 72, 661, 662, 663], [1280, 81, 1277, 1278, 1279], [668, 72, 665, 666, 667], [1284, 81, 1281, 1282, 1283], [680, 72, 677, 678, 679], [1288, 81, 1285, 1286, 1287], [730, 72, 727, 728, 729], [1311, 81, 1308, 1309, 1310], [734, 72, 731, 732, 733], [1315, 81, 1312, 1313, 1314], [742, 72, 739, 740, 741], [1353, 81, 1350, 1351, 1352], [809, 72, 806, 807, 808], [1361, 81, 1358, 1359, 1360], [818, 72, 815, 816, 817], [1365, 81, 1362, 1363, 1364], [827, 72, 824, 825, 826], [1373, 81, 1370, 1371, 1372], [832, 72, 829, 830, 831], [1377, 81, 1374, 1375, 1376], [836, 72, 833, 834, 835], [1319, 81, 1316, 1317, 1318], [845, 72, 842, 843, 844], [1337, 81, 1334, 1335, 1336], [856, 72, 853, 854, 855], [1341, 81, 1338, 1339, 1340], [873, 72, 870, 871, 872], [1381, 81, 1378, 1379, 1380], [897, 72, 894, 895, 896], [1385, 81, 1382, 1383, 1384], [901, 72, 898, 899, 900], [1389, 81, 1386, 1387, 1388], [905, 72, 902, 903, 904], [1397, 81, 1394, 1395, 1396], [913, 72, 910, 911, 912], [1401, 81, 1398, 1399, 1400], [921, 72, 918, 919, 920], [1405, 81, 1402, 1403, 1404], [925, 72, 922, 923, 924], [1409, 81, 1406, 1407, 1408], [933, 72, 930, 931, 932], [1413, 81, 1410, 1411, 1412], [938, 72, 935, 936, 937], [1417, 81, 1414, 1415, 1416], [942, 72, 939, 940, 941], [1421, 81, 1418, 1419, 1420], [966, 72, 963, 964, 965], [1441, 81, 1438, 1439, 1440], [975, 72, 972, 973, 974], [1449, 81, 1446, 1447, 1448], [980, 72, 977, 978, 979], [1453, 81, 1450, 1451, 1452], [988, 72, 985, 986, 987], [1457, 81, 1454, 1455, 1456], [992, 72, 989, 990, 991], [1461, 81, 1458, 1459, 1460], [1000, 72, 997, 998, 999], [1465, 81, 1462, 1463, 1464], [1011, 72, 1008, 1009, 1010], [1480, 81, 1477, 1478, 1479], [1016, 72, 1013, 1014, 1015], [1484, 81, 1481, 1482, 1483]]

def zpos (i : Nat) (w : Jvm.Cond) : Bool := decide (lw_tbl[i]? = some w) && goodWord w
theorem zpos_in {i : Nat} {w : Jvm.Cond} (h : zpos i w = true) : w ∈ zWs := by
  unfold zpos at h
  simp only [Bool.and_eq_true, decide_eq_true_eq] at h
  exact List.mem_filter.mpr ⟨List.mem_of_getElem? h.1, h.2⟩
def zCws : List Jvm.Cond := (zMs.take 255).map (fun q => .code q.2.1 q.2.2.1 q.2.2.2.1 q.2.2.2.2.1)
set_option maxRecDepth 100000 in
set_option maxHeartbeats 4000000 in
theorem zCws_in : GoodIn lw_tbl zCws := goodIn_p _ [240, 533, 552, 541, 544, 557, 561, 548, 565, 571, 100, 410, 414, 418, 537, 452, 476, 422, 425, 429, 448, 595, 472, 494, 502, 510, 514, 517, 525, 460, 456, 798, 579, 586, 575, 631, 627, 746, 750, 758, 754, 794, 293, 877, 881, 887, 890, 909, 917, 984, 996, 347, 762, 767, 774, 778, 823, 790, 860, 841, 849, 852, 864, 868, 185, 406, 437, 726, 738, 1020, 283, 605, 608, 642, 648, 617, 928, 614, 620, 611, 801, 804, 653, 660, 204, 672, 676, 684, 688, 700, 703, 710, 692, 696, 706, 714, 717, 319, 946, 956, 951, 962, 970, 92, 402, 444, 468, 490, 498, 506, 521, 529, 591, 601, 664, 668, 680, 730, 734, 742, 809, 818, 827, 832, 836, 845, 856, 873, 897, 901, 905, 913, 921, 925, 933, 938, 942, 966, 975, 980, 988, 992, 1000, 1011, 1016, 433, 486, 482, 479, 623, 770, 1004, 1025, 1119, 1147, 1167, 1127, 1155, 1225, 1232, 1228, 1221, 1112, 1135, 1131, 1123, 1116, 1151, 1143, 1170, 1163, 1178, 1186, 1194, 1108, 1139, 1159, 1174, 1182, 1190, 1198, 1209, 1205, 1213, 1217, 1202, 1236, 1248, 1272, 1276, 1268, 1264, 1260, 1256, 1393, 1244, 1252, 1240, 1280, 1284, 1299, 1295, 1303, 1292, 1307, 1288, 1311, 1315, 1322, 1333, 1330, 1326, 1369, 1319, 1337, 1345, 1349, 1341, 1357, 1353, 1361, 1365, 1373, 1377, 1381, 1385, 1389, 1397, 1401, 1405, 1409, 1413, 1417, 1433, 1429, 1445, 1437, 1425, 1421, 1441, 1449, 1453, 1457, 1461, 1465, 1480, 1484, 1472, 1469, 635, 786, 582, 464, 440, 656] rfl (by decide +kernel)
theorem zcode_in {k : Nat} (h : k < 255) : Cond.code (zm k).2.1 (zm k).2.2.1 (zmax k) (zrty k) ∈ zWs := by
  have h1 : Cond.code (zm k).2.1 (zm k).2.2.1 (zmax k) (zrty k) ∈ zCws := by
    have hk : k < zMs.length := Nat.lt_of_lt_of_le h (by decide +kernel)
    have h2 : zm k = zMs[k] := by unfold zm; rw [List.getD_eq_getElem?_getD, List.getElem?_eq_getElem hk, Option.getD_some]
    unfold zmax zrty
    rw [h2]
    refine List.mem_map.mpr ⟨zMs[k], List.mem_take_iff_getElem.mpr ⟨k, by omega, rfl⟩, rfl⟩
  have h2 := zCws_in _ h1
  exact List.mem_filter.mpr ⟨h2.1, by rcases h2.2 with q | ⟨ty, q⟩
                                      · exact q
                                      · cases q⟩
/-- a method's own words: its code, its class, its arguments -/
def zMok (ps : List Nat) (k : Nat) : Bool := decide (k < 255) && zpos (ps.getD 1 0) (.initialized (zm k).2.1.cls) && decide ((zm k).2.1.cls ≠ "java/lang/invoke/MethodHandle") && decide ((zm k).2.1.cls ≠ "java/lang/invoke/VarHandle") && Jvm.plainName (zm k).2.1.cls && decide ((zm k).2.1.cls = zCnm (zown k))
def zpar (k : Nat) : Option Nat := (parseMethodDescriptor (zm k).2.1.desc).map (fun d => d.parameters.length)
def zMchk (q : Nat × Nat × Nat) (ps : List Nat) : Bool := match q.2.2 with
  | 0 => zMok ps q.2.1 && zpos (ps.getD 2 0) (.methodLink (zCnm (q.1 / 4096)) (q.1 % 4096) (zm q.2.1).2.1) && zpos (ps.getD 3 0) (.instanceMethod (zm q.2.1).2.1) && zpos (ps.getD 4 0) (.selects (zm q.2.1).2.1.cls (zm q.2.1).2.1 (zm q.2.1).2.1) && decide (zpar q.2.1 = some (znA q.2.1 - 1) ∧ 1 ≤ znA q.2.1 ∧ zown q.2.1 < 11 ∧ (zm q.2.1).2.1.cls = zC (zown q.2.1))
  | 1 => zMok ps q.2.1 && zpos (ps.getD 2 0) (.methodLink (zCnm (q.1 / 4096)) (q.1 % 4096) (zm q.2.1).2.1) && zpos (ps.getD 3 0) (.static (zm q.2.1).2.1) && decide (zpar q.2.1 = some (znA q.2.1))
  | 2 => zMok ps q.2.1 && zpos (ps.getD 2 0) (.methodLink (zCnm (q.1 / 4096)) (q.1 % 4096) (zm q.2.1).2.1) && zpos (ps.getD 3 0) (.instanceMethod (zm q.2.1).2.1) && decide ((zm q.2.1).2.1.name = "<init>" ∧ zpar q.2.1 = some (znA q.2.1 - 1) ∧ 1 ≤ znA q.2.1 ∧ zrty q.2.1 = none)
  | 4 => zMok ps q.2.1 && decide (lw_tbl[ps.getD 2 0]? = some (Jvm.Cond.methodLinkNest (zCnm (q.1 / 4096)) (q.1 % 4096) (zm q.2.1).2.1 zHost)) && zpos (ps.getD 3 0) (.static (zm q.2.1).2.1) && decide (zpar q.2.1 = some (znA q.2.1))
  | 5 => zMok ps q.2.1 && decide (lw_tbl[ps.getD 2 0]? = some (Jvm.Cond.methodLinkNest (zCnm (q.1 / 4096)) (q.1 % 4096) (zm q.2.1).2.1 zHost)) && zpos (ps.getD 3 0) (.instanceMethod (zm q.2.1).2.1) && decide ((zm q.2.1).2.1.name = "<init>" ∧ zpar q.2.1 = some (znA q.2.1 - 1) ∧ 1 ≤ znA q.2.1 ∧ zrty q.2.1 = none)
  | 6 => decide (q.2.1 = 0) && zpos (ps.getD 0 0) (.methodLink (zCnm (q.1 / 4096)) (q.1 % 4096) Jvm.Lib.objectInit)
  | 7 => decide (q.2.1 = 0) && zpos (ps.getD 0 0) (.methodLink (zCnm (q.1 / 4096)) (q.1 % 4096) zRaw)
  | 8 => decide (q.2.1 = 0) && zpos (ps.getD 0 0) (.methodLink (zCnm (q.1 / 4096)) (q.1 % 4096) Lib.Math.abs.name)
  | 9 => decide (q.2.1 = 0) && zpos (ps.getD 0 0) (.methodLink (zCnm (q.1 / 4096)) (q.1 % 4096) Lib.Math.max.name)
  | 10 => decide (q.2.1 = 0) && zpos (ps.getD 0 0) (.methodLink (zCnm (q.1 / 4096)) (q.1 % 4096) Lib.Math.min.name)
  | _ => false
theorem zMl_ok0 : (((zMl.zip zMp).drop 0).take 40).all (fun x => zMchk x.1 x.2) = true := by decide +kernel
theorem zMl_ok1 : (((zMl.zip zMp).drop 40).take 40).all (fun x => zMchk x.1 x.2) = true := by decide +kernel
theorem zMl_ok2 : (((zMl.zip zMp).drop 80).take 40).all (fun x => zMchk x.1 x.2) = true := by decide +kernel
theorem zMl_ok3 : (((zMl.zip zMp).drop 120).take 40).all (fun x => zMchk x.1 x.2) = true := by decide +kernel
theorem zMl_ok4 : (((zMl.zip zMp).drop 160).take 40).all (fun x => zMchk x.1 x.2) = true := by decide +kernel
theorem zMl_ok5 : (((zMl.zip zMp).drop 200).take 40).all (fun x => zMchk x.1 x.2) = true := by decide +kernel
theorem zMl_ok6 : (((zMl.zip zMp).drop 240).take 40).all (fun x => zMchk x.1 x.2) = true := by decide +kernel
theorem zMl_ok7 : (((zMl.zip zMp).drop 280).take 40).all (fun x => zMchk x.1 x.2) = true := by decide +kernel
theorem zMl_end : (zMl.zip zMp).drop 320 = [] := by decide +kernel
theorem zMl_len : zMp.length = zMl.length := by decide +kernel
theorem zall_cut {α : Type} {l : List α} {f : α → Bool} {n : Nat} (h1 : (l.take n).all f = true) (h2 : (l.drop n).all f = true) : l.all f = true := by
  rw [← List.take_append_drop n l, List.all_append, h1, h2]; rfl
theorem zMl_t8 : ((zMl.zip zMp).drop 320).all (fun x => zMchk x.1 x.2) = true := by rw [zMl_end]; rfl
theorem zMl_t7 : ((zMl.zip zMp).drop 280).all (fun x => zMchk x.1 x.2) = true := zall_cut zMl_ok7 (by rw [List.drop_drop]; exact zMl_t8)
theorem zMl_t6 : ((zMl.zip zMp).drop 240).all (fun x => zMchk x.1 x.2) = true := zall_cut zMl_ok6 (by rw [List.drop_drop]; exact zMl_t7)
theorem zMl_t5 : ((zMl.zip zMp).drop 200).all (fun x => zMchk x.1 x.2) = true := zall_cut zMl_ok5 (by rw [List.drop_drop]; exact zMl_t6)
theorem zMl_t4 : ((zMl.zip zMp).drop 160).all (fun x => zMchk x.1 x.2) = true := zall_cut zMl_ok4 (by rw [List.drop_drop]; exact zMl_t5)
theorem zMl_t3 : ((zMl.zip zMp).drop 120).all (fun x => zMchk x.1 x.2) = true := zall_cut zMl_ok3 (by rw [List.drop_drop]; exact zMl_t4)
theorem zMl_t2 : ((zMl.zip zMp).drop 80).all (fun x => zMchk x.1 x.2) = true := zall_cut zMl_ok2 (by rw [List.drop_drop]; exact zMl_t3)
theorem zMl_t1 : ((zMl.zip zMp).drop 40).all (fun x => zMchk x.1 x.2) = true := zall_cut zMl_ok1 (by rw [List.drop_drop]; exact zMl_t2)
theorem zMl_t0 : ((zMl.zip zMp).drop 0).all (fun x => zMchk x.1 x.2) = true := zall_cut zMl_ok0 (by rw [List.drop_drop]; exact zMl_t1)
theorem zzip_mem {α β : Type} {l : List α} {m : List β} (hl : m.length = l.length) {q : α} (h : q ∈ l) : ∃ r, (q, r) ∈ l.zip m := by
  obtain ⟨i, hi, rfl⟩ := List.getElem_of_mem h
  have hi2 : i < m.length := by rw [hl]; exact hi
  refine ⟨m[i], List.mem_iff_getElem.mpr ⟨i, by rw [List.length_zip]; omega, by rw [List.getElem_zip]⟩⟩
theorem zMl_chk {q : Nat × Nat × Nat} (h : q ∈ zMl) : ∃ ps, zMchk q ps = true := by
  obtain ⟨ps, hp⟩ := zzip_mem zMl_len h
  have h0 : (zMl.zip zMp).all (fun x => zMchk x.1 x.2) = true := zMl_t0
  exact ⟨ps, List.all_eq_true.mp h0 (q, ps) hp⟩
theorem zObj_ok : (zin (.instanceMethod Jvm.Lib.objectInit) && zin (.code Jvm.Lib.objectInit ⟨#[0xb1]⟩ 1 none) && zin (.native zRaw) && zin (.static zRaw) && zin (.initialized "java/lang/Double") && zin (.arrayClass .int) && zin (.arrayClass .char) && zin (.arrayClass .boolean) && zin (.static Lib.Math.abs.name) && zin (.static Lib.Math.max.name) && zin (.static Lib.Math.min.name) && zin (.initialized "java/lang/Math") && zin (.code Lib.Math.abs.name Lib.Math.abs.code 1 (some .int)) && zin (.code Lib.Math.max.name Lib.Math.max.code 2 (some .int)) && zin (.code Lib.Math.min.name Lib.Math.min.code 2 (some .int))) = true := by decide +kernel
theorem zKi_ok : zKi.all (fun q => zin (.constant (zCnm (q.1 / 4096)) (q.1 % 4096) (Int32.ofInt q.2))) = true := by decide +kernel
theorem zKl_ok : zKl.all (fun q => zin (.constantLong (zCnm (q.1 / 4096)) (q.1 % 4096) q.2)) = true := by decide +kernel
theorem zKd_ok : zKd.all (fun q => zin (.constantDouble (zCnm (q.1 / 4096)) (q.1 % 4096) q.2)) = true := by decide +kernel
theorem zNl_w : zNl.all (fun q => zin (.classLink (zCnm (q.1 / 4096)) (q.1 % 4096) (zC q.2)) && zin (.instantiable (zC q.2) (zN q.2)) && zin (.initialized (zC q.2))) = true := by decide +kernel
theorem zAn_ok : (zin (.classLink (zCnm 4) 11 zDg) && zin (.classLink (zCnm 7) 21 "[[I") && decide (Jvm.Cond.arrayOver (.object zDg) ∈ lw_tbl) && decide (Jvm.Cond.arrayOver (.array .int) ∈ lw_tbl)) = true := by decide +kernel
/-- where an instruction may go on, beside the next one -/
def zoff (i : Instr) : List Int := match i with
  | .ifCond _ f => [f]
  | .if_icmp _ f => [f]
  | .goto f => [f]
  | .tableswitch d _ _ fs => d :: fs.toList
  | .lookupswitch d ps => d :: ps.toList.map (·.2)
  | _ => []
def zidx (i : Instr) : Nat := match i with
  | .ldc x => x
  | .ldc_w x => x
  | .ldc2_w x => x
  | .getfield x => x
  | .putfield x => x
  | .new x => x
  | .anewarray x => x
  | .multianewarray x _ => x
  | .invokevirtual x => x
  | .invokestatic x => x
  | .invokespecial x => x
  | _ => 0
theorem zst2_all : zCodes.all (fun c => c.all (fun q => (zoff q.2.2).all (fun f => decide (0 ≤ (q.1 : Int) + f)) && decide (zidx q.2.2 < 4096))) = true := by decide +kernel
theorem zft_st2 {k pc n : Nat} {i : Instr} (h : zft k pc = some (n, i)) : (∀ f, f ∈ zoff i → 0 ≤ (pc : Int) + f) ∧ zidx i < 4096 := by
  have h1 := zft_mem h
  by_cases hk : k < zCodes.length
  · rw [List.getD_eq_getElem?_getD, List.getElem?_eq_getElem hk, Option.getD_some] at h1
    have h2 := List.all_eq_true.mp (List.all_eq_true.mp zst2_all _ (List.getElem_mem hk)) _ h1
    simp only [Bool.and_eq_true, decide_eq_true_eq, List.all_eq_true] at h2
    exact h2
  · rw [List.getD_eq_getElem?_getD, List.getElem?_eq_none (by omega), Option.getD_none] at h1
    cases h1
