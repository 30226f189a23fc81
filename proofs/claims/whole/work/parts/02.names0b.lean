theorem mem_r {big : List Cond} (ws : List Cond) (ps : List Nat) (hp : ws = ps.filterMap (fun i => big[i]?)) : ∀ w ∈ ws, w ∈ big := by
  intro w hw
  rw [hp] at hw
  obtain ⟨i, -, hi⟩ := List.mem_filterMap.mp hw
  first | exact List.mem_of_getElem? hi | exact List.getElem?_mem hi
theorem all_app {a b : List Cond} {P : Cond → Prop} (ha : ∀ w ∈ a, P w) (hb : ∀ w ∈ b, P w) : ∀ w ∈ a ++ b, P w := fun w h => (List.mem_append.mp h).elim (ha w) (hb w)
set_option maxRecDepth 20000 in
theorem in_wsL_law_r1 : ∀ w ∈ wsL_law_r1, w ∈ lw_tbl := mem_r _ [83, 84, 64, 946, 947, 76, 1456, 85, 86, 87, 88, 89, 90, 91, 92, 65, 358, 359, 360, 189, 190, 69, 361, 217] (by decide +kernel)
set_option maxRecDepth 20000 in
theorem in_wsL_law_r2 : ∀ w ∈ wsL_law_r2, w ∈ lw_tbl := mem_r _ [218, 70, 362, 254, 255, 71, 363, 364, 279, 280, 72, 365, 304, 305, 74, 366, 341, 342, 75, 367, 111, 368, 369, 93] (by decide +kernel)
set_option maxRecDepth 20000 in
theorem in_wsL_law_r3 : ∀ w ∈ wsL_law_r3, w ∈ lw_tbl := mem_r _ [94, 95, 96, 170, 97, 98, 66, 173, 112, 113, 67, 175, 153, 154, 68, 178, 100, 101, 102, 103, 115, 116, 117, 118] (by decide +kernel)
set_option maxRecDepth 20000 in
theorem in_wsL_law_r4 : ∀ w ∈ wsL_law_r4, w ∈ lw_tbl := mem_r _ [120, 123, 127, 131, 133, 135, 137, 156, 157, 158, 159, 160, 161, 192, 193, 194, 195, 197, 199, 201, 202, 203, 220, 221] (by decide +kernel)
set_option maxRecDepth 20000 in
theorem in_wsL_law_r5 : ∀ w ∈ wsL_law_r5, w ∈ lw_tbl := mem_r _ [222, 223, 224, 225, 226, 227, 228, 229, 230, 231, 232, 256, 257, 258, 259, 260, 262, 261, 263, 264, 265, 281, 282, 283] (by decide +kernel)
set_option maxRecDepth 20000 in
theorem in_wsL_law_r6 : ∀ w ∈ wsL_law_r6, w ∈ lw_tbl := mem_r _ [284, 288, 290, 292, 303, 293, 285, 286, 73, 287, 307, 308, 309, 310, 312, 314, 316, 317, 318, 319, 320, 321, 343, 344] (by decide +kernel)
set_option maxRecDepth 20000 in
theorem in_wsL_law_r7 : ∀ w ∈ wsL_law_r7, w ∈ lw_tbl := mem_r _ [345, 346, 348, 357, 350, 347, 948, 949, 950, 951, 952, 953, 956, 957, 958, 959, 960, 961, 962, 963, 964, 965, 966, 967] (by decide +kernel)
set_option maxRecDepth 20000 in
theorem in_wsL_law_r8 : ∀ w ∈ wsL_law_r8, w ∈ lw_tbl := mem_r _ [969, 970, 971, 972, 973, 974, 975, 976, 977, 981, 985, 986, 988, 989, 992, 993, 995, 996, 395, 396, 397, 398, 171, 402] (by decide +kernel)
set_option maxRecDepth 20000 in
theorem in_wsL_law_r9 : ∀ w ∈ wsL_law_r9, w ∈ lw_tbl := mem_r _ [399, 400, 401, 1088, 1089, 1090, 1091, 1092, 1093, 1094, 1095, 1096, 1097, 1098, 1099, 77, 1100, 1101, 1102, 1103, 1104, 1105, 1106, 1107] (by decide +kernel)
set_option maxRecDepth 20000 in
theorem in_wsL_law_r10 : ∀ w ∈ wsL_law_r10, w ∈ lw_tbl := mem_r _ [403, 404, 405, 406, 1108, 1109, 1110, 1111, 407, 408, 409, 410, 411, 412, 78, 413, 1112, 1113, 1114, 1115, 1116, 1118, 30, 1119] (by decide +kernel)
set_option maxRecDepth 20000 in
theorem in_wsL_law_r11 : ∀ w ∈ wsL_law_r11, w ∈ lw_tbl := mem_r _ [414, 415, 416, 417, 174, 105, 418, 419, 420, 422, 423, 424, 1120, 1121, 1122, 1123, 1124, 1125, 1126, 1127, 1128, 1129, 425, 426] (by decide +kernel)
set_option maxRecDepth 20000 in
theorem in_wsL_law_r12 : ∀ w ∈ wsL_law_r12, w ∈ lw_tbl := mem_r _ [427, 428, 1130, 1131, 1132, 1133, 429, 430, 431, 432, 433, 434, 435, 436, 1134, 1135, 1136, 1137, 1138, 1140, 31, 1141, 437, 438] (by decide +kernel)
set_option maxRecDepth 20000 in
theorem in_wsL_law_r13 : ∀ w ∈ wsL_law_r13, w ∈ lw_tbl := mem_r _ [439, 440, 441, 442, 443, 444, 445, 1142, 1143, 1144, 1145, 1146, 1148, 32, 1149, 446, 447, 448, 449, 196, 450, 451, 452, 453] (by decide +kernel)
set_option maxRecDepth 20000 in
theorem in_wsL_law_r14 : ∀ w ∈ wsL_law_r14, w ∈ lw_tbl := mem_r _ [454, 455, 456, 457, 458, 459, 460, 461, 462, 463, 464, 465, 466, 467, 468, 469, 470, 471, 473, 472, 79, 474, 476, 0] (by decide +kernel)
set_option maxRecDepth 20000 in
theorem in_wsL_law_r15 : ∀ w ∈ wsL_law_r15, w ∈ lw_tbl := mem_r _ [477, 106, 478, 479, 481, 1, 482, 1150, 1151, 1152, 1153, 1154, 1156, 33, 1157, 1158, 1160, 34, 1161, 1162, 1164, 35, 1165, 1166] (by decide +kernel)
set_option maxRecDepth 20000 in
theorem in_wsL_law_r16 : ∀ w ∈ wsL_law_r16, w ∈ lw_tbl := mem_r _ [1168, 36, 1169, 1170, 1172, 37, 1173, 1174, 1176, 38, 1177, 1178, 1180, 39, 1181, 483, 484, 485, 486, 198, 487, 488, 489, 490] (by decide +kernel)
set_option maxRecDepth 20000 in
theorem in_wsL_law_r17 : ∀ w ∈ wsL_law_r17, w ∈ lw_tbl := mem_r _ [491, 492, 493, 494, 495, 496, 497, 498, 499, 500, 501, 502, 503, 504, 506, 2, 507, 1182, 1183, 1184, 1185, 1186, 1188, 40] (by decide +kernel)
set_option maxRecDepth 20000 in
theorem in_wsL_law_r18 : ∀ w ∈ wsL_law_r18, w ∈ lw_tbl := mem_r _ [1189, 1190, 1191, 1192, 508, 509, 510, 511, 177, 130, 512, 513, 514, 515, 176, 172, 516, 517, 518, 519, 104, 520, 521, 522] (by decide +kernel)
set_option maxRecDepth 20000 in
theorem in_wsL_law_r19 : ∀ w ∈ wsL_law_r19, w ∈ lw_tbl := mem_r _ [523, 524, 525, 526, 527, 529, 3, 530, 531, 533, 4, 534, 535, 536, 538, 5, 539, 540, 541, 542, 544, 6, 545, 552] (by decide +kernel)
set_option maxRecDepth 20000 in
theorem in_wsL_law_r20 : ∀ w ∈ wsL_law_r20, w ∈ lw_tbl := mem_r _ [546, 548, 7, 549, 550, 551, 553, 555, 8, 556, 121, 107, 125, 129, 1193, 1194, 1195, 1196, 954, 955, 1197, 1199, 41, 1200] (by decide +kernel)
set_option maxRecDepth 20000 in
theorem in_wsL_law_r21 : ∀ w ∈ wsL_law_r21, w ∈ lw_tbl := mem_r _ [1201, 1203, 42, 1204, 1205, 1207, 43, 1208, 1209, 1211, 44, 1212, 1213, 1215, 45, 1216, 1217, 1219, 46, 1220, 557, 558, 559, 560] (by decide +kernel)
set_option maxRecDepth 20000 in
theorem in_wsL_law_r22 : ∀ w ∈ wsL_law_r22, w ∈ lw_tbl := mem_r _ [126, 561, 562, 563, 564, 1221, 1222, 1223, 1224, 565, 566, 567, 568, 122, 1225, 1226, 1227, 1228, 569, 570, 571, 572, 573, 574] (by decide +kernel)
set_option maxRecDepth 20000 in
theorem in_wsL_law_r23 : ∀ w ∈ wsL_law_r23, w ∈ lw_tbl := mem_r _ [575, 576, 577, 1229, 1230, 1231, 1232, 578, 579, 580, 581, 582, 583, 584, 585, 586, 587, 588, 589, 590, 591, 593, 9, 594] (by decide +kernel)
set_option maxRecDepth 20000 in
theorem in_wsL_law_r24 : ∀ w ∈ wsL_law_r24, w ∈ lw_tbl := mem_r _ [599, 595, 596, 597, 598, 600, 602, 10, 603, 1233, 1234, 1235, 1236, 1237, 1239, 47, 1240, 1241, 1242, 1243, 1244, 1246, 48, 1247] (by decide +kernel)
set_option maxRecDepth 20000 in
theorem in_wsL_law_r25 : ∀ w ∈ wsL_law_r25, w ∈ lw_tbl := mem_r _ [604, 605, 606, 607, 132, 134, 136, 1248, 1249, 1250, 1251, 608, 609, 610, 611, 612, 613, 1252, 1253, 1254, 1255, 614, 615, 616] (by decide +kernel)
set_option maxRecDepth 20000 in
theorem in_wsL_law_r26 : ∀ w ∈ wsL_law_r26, w ∈ lw_tbl := mem_r _ [617, 200, 618, 619, 620, 621, 622, 623, 624, 625, 626, 627, 628, 630, 11, 631, 1256, 1257, 1258, 1259, 1260, 1262, 49, 1263] (by decide +kernel)
set_option maxRecDepth 20000 in
theorem in_wsL_law_r27 : ∀ w ∈ wsL_law_r27, w ∈ lw_tbl := mem_r _ [1264, 1266, 50, 1267, 632, 633, 634, 635, 636, 637, 638, 639, 640, 1268, 1269, 1270, 1271, 641, 642, 643, 644, 645, 646, 647] (by decide +kernel)
set_option maxRecDepth 20000 in
theorem in_wsL_law_r28 : ∀ w ∈ wsL_law_r28, w ∈ lw_tbl := mem_r _ [648, 649, 650, 651, 652, 653, 655, 12, 656, 657, 659, 13, 660, 661, 663, 14, 664, 665, 666, 667, 668, 669, 670, 671] (by decide +kernel)
set_option maxRecDepth 20000 in
theorem in_wsL_law_r29 : ∀ w ∈ wsL_law_r29, w ∈ lw_tbl := mem_r _ [672, 673, 674, 676, 15, 677, 678, 680, 16, 681, 682, 684, 17, 685, 686, 688, 18, 689, 690, 692, 19, 693, 694, 695] (by decide +kernel)
set_option maxRecDepth 20000 in
theorem in_wsL_law_r30 : ∀ w ∈ wsL_law_r30, w ∈ lw_tbl := mem_r _ [696, 1272, 1273, 1274, 1275, 1276, 1278, 1277, 81, 1279, 1281, 51, 1282, 1283, 1284, 81, 1285, 1289, 1291, 1290, 1292, 1286, 1287, 1288] (by decide +kernel)
set_option maxRecDepth 20000 in
theorem in_wsL_law_r31 : ∀ w ∈ wsL_law_r31, w ∈ lw_tbl := mem_r _ [697, 698, 699, 700, 701, 702, 703, 704, 1293, 1294, 1295, 1296, 1297, 1299, 52, 1300, 705, 706, 707, 708, 709, 710, 711, 712] (by decide +kernel)
set_option maxRecDepth 20000 in
theorem in_wsL_law_r32 : ∀ w ∈ wsL_law_r32, w ∈ lw_tbl := mem_r _ [713, 714, 715, 717, 20, 718, 1301, 1302, 1303, 1304, 719, 720, 721, 722, 723, 724, 725, 726, 727, 728, 1305, 1306, 1307, 1308] (by decide +kernel)
set_option maxRecDepth 20000 in
theorem in_wsL_law_r33 : ∀ w ∈ wsL_law_r33, w ∈ lw_tbl := mem_r _ [729, 730, 731, 732, 1309, 1310, 1311, 1312, 1313, 1315, 1314, 82, 1316, 1318, 53, 1319, 1320, 1321, 82, 1322, 1326, 1328, 1327, 1329] (by decide +kernel)
set_option maxRecDepth 20000 in
theorem in_wsL_law_r34 : ∀ w ∈ wsL_law_r34, w ∈ lw_tbl := mem_r _ [1323, 1324, 1325, 733, 734, 735, 736, 737, 738, 739, 740, 1330, 1331, 1332, 1333, 741, 742, 743, 744, 179, 162, 745, 746, 747] (by decide +kernel)
set_option maxRecDepth 20000 in
theorem in_wsL_law_r35 : ∀ w ∈ wsL_law_r35, w ∈ lw_tbl := mem_r _ [748, 1334, 1335, 1336, 1337, 968, 749, 750, 751, 752, 1338, 1339, 1340, 1341, 753, 754, 755, 756, 757, 758, 759, 760, 761, 762] (by decide +kernel)
set_option maxRecDepth 20000 in
theorem in_wsL_law_r36 : ∀ w ∈ wsL_law_r36, w ∈ lw_tbl := mem_r _ [763, 764, 765, 766, 767, 768, 769, 770, 771, 772, 773, 774, 1342, 1343, 1344, 1345, 1346, 1348, 54, 1349, 1350, 1352, 55, 1353] (by decide +kernel)
set_option maxRecDepth 20000 in
theorem in_wsL_law_r37 : ∀ w ∈ wsL_law_r37, w ∈ lw_tbl := mem_r _ [1354, 1356, 56, 1357, 775, 776, 777, 778, 779, 1358, 1359, 1360, 1361, 780, 781, 782, 783, 784, 785, 786, 787, 788, 789, 790] (by decide +kernel)
set_option maxRecDepth 20000 in
theorem in_wsL_law_r38 : ∀ w ∈ wsL_law_r38, w ∈ lw_tbl := mem_r _ [791, 1362, 1363, 1364, 1365, 1366, 1367, 1368, 792, 793, 794, 795, 289, 291, 796, 797, 798, 799, 1369, 1370, 1371, 1372, 800, 801] (by decide +kernel)
set_option maxRecDepth 20000 in
theorem in_wsL_law_r39 : ∀ w ∈ wsL_law_r39, w ∈ lw_tbl := mem_r _ [802, 803, 804, 805, 806, 807, 808, 809, 810, 811, 812, 1373, 1374, 1375, 1376, 1377, 813, 814, 815, 816, 817, 818, 819, 820] (by decide +kernel)
set_option maxRecDepth 20000 in
theorem in_wsL_law_r40 : ∀ w ∈ wsL_law_r40, w ∈ lw_tbl := mem_r _ [1378, 1379, 1380, 1381, 821, 822, 823, 824, 311, 825, 826, 827, 828, 1382, 1383, 1384, 1385, 978, 829, 830, 831, 832, 1386, 1387] (by decide +kernel)
set_option maxRecDepth 20000 in
theorem in_wsL_law_r41 : ∀ w ∈ wsL_law_r41, w ∈ lw_tbl := mem_r _ [1388, 1389, 833, 834, 835, 836, 313, 837, 838, 839, 840, 841, 842, 844, 21, 845, 846, 848, 22, 849, 850, 852, 23, 853] (by decide +kernel)
set_option maxRecDepth 20000 in
theorem in_wsL_law_r42 : ∀ w ∈ wsL_law_r42, w ∈ lw_tbl := mem_r _ [854, 856, 24, 857, 858, 860, 25, 861, 862, 863, 864, 865, 867, 26, 868, 870, 1390, 1391, 1392, 1393, 979, 980, 1394, 1396] (by decide +kernel)
set_option maxRecDepth 20000 in
theorem in_wsL_law_r43 : ∀ w ∈ wsL_law_r43, w ∈ lw_tbl := mem_r _ [57, 1397, 1398, 1400, 58, 1401, 1402, 1404, 59, 1405, 871, 872, 873, 874, 315, 875, 876, 877, 878, 879, 881, 27, 882, 883] (by decide +kernel)
set_option maxRecDepth 20000 in
theorem in_wsL_law_r44 : ∀ w ∈ wsL_law_r44, w ∈ lw_tbl := mem_r _ [885, 28, 886, 887, 889, 29, 890, 1406, 1407, 1408, 1409, 982, 983, 984, 1410, 1412, 60, 1413, 1418, 1419, 77, 1420, 1414, 1416] (by decide +kernel)
set_option maxRecDepth 20000 in
theorem in_wsL_law_r45 : ∀ w ∈ wsL_law_r45, w ∈ lw_tbl := mem_r _ [61, 1417, 1421, 1423, 62, 1424, 891, 892, 893, 894, 895, 896, 897, 898, 1425, 1426, 1427, 1428, 1429, 1430, 1431, 899, 900, 901] (by decide +kernel)
set_option maxRecDepth 20000 in
theorem in_wsL_law_r46 : ∀ w ∈ wsL_law_r46, w ∈ lw_tbl := mem_r _ [902, 349, 351, 1432, 1433, 1434, 1435, 903, 904, 905, 906, 1436, 1437, 1438, 1439, 907, 908, 909, 910, 911, 912, 913, 914, 128] (by decide +kernel)
set_option maxRecDepth 20000 in
theorem in_wsL_law_r47 : ∀ w ∈ wsL_law_r47, w ∈ lw_tbl := mem_r _ [124, 1440, 1441, 1442, 1443, 915, 916, 917, 918, 919, 920, 921, 922, 923, 924, 925, 926, 927, 928, 929, 930, 931, 932, 933] (by decide +kernel)
set_option maxRecDepth 20000 in
theorem in_wsL_law_r48 : ∀ w ∈ wsL_law_r48, w ∈ lw_tbl := mem_r _ [934, 1444, 1445, 1446, 1447, 987, 990, 991, 994, 935, 936, 937, 938, 1448, 1449, 1450, 1451, 939, 940, 941, 942, 943, 944, 945] (by decide +kernel)
set_option maxRecDepth 20000 in
theorem in_wsL_law_r49 : ∀ w ∈ wsL_law_r49, w ∈ lw_tbl := mem_r _ [1452, 1453, 1454, 1455] (by decide +kernel)
set_option maxRecDepth 20000 in
theorem in_wsX110 : ∀ w ∈ wsX110, w ∈ lw_tbl := mem_r _ [370, 372, 374, 376, 378, 380, 382, 384, 386, 388, 390, 392] (by decide +kernel)
set_option maxRecDepth 20000 in
theorem in_wsX120 : ∀ w ∈ wsX120, w ∈ lw_tbl := mem_r _ [997, 999, 1001, 1003, 1005, 1007, 1009, 1011, 1013, 1015, 1017, 1019, 1021, 1023, 1025, 1027, 1029, 1031, 1033, 1035, 1037, 1039, 1041, 1043, 1045, 1047, 1049, 1051, 1053, 1055, 1057, 1059, 1061, 1063, 1065, 1067, 1069, 1071, 1073, 1075, 1077, 1079, 1081, 1083, 1085] (by decide +kernel)
set_option maxRecDepth 20000 in
theorem in_wsX90 : ∀ w ∈ wsX90, w ∈ lw_tbl := mem_r _ [180, 182, 184, 186] (by decide +kernel)
set_option maxRecDepth 20000 in
theorem in_wsX20 : ∀ w ∈ wsX20, w ∈ lw_tbl := mem_r _ [204, 206, 208, 210, 212, 214] (by decide +kernel)
set_option maxRecDepth 20000 in
theorem in_wsX80 : ∀ w ∈ wsX80, w ∈ lw_tbl := mem_r _ [233, 235, 237, 239, 241, 243, 245, 247, 249, 251] (by decide +kernel)
set_option maxRecDepth 20000 in
theorem in_wsX70 : ∀ w ∈ wsX70, w ∈ lw_tbl := mem_r _ [266, 268, 270, 272, 274, 276] (by decide +kernel)
set_option maxRecDepth 20000 in
theorem in_wsX60 : ∀ w ∈ wsX60, w ∈ lw_tbl := mem_r _ [294, 296, 298, 300] (by decide +kernel)
set_option maxRecDepth 20000 in
theorem in_wsX100 : ∀ w ∈ wsX100, w ∈ lw_tbl := mem_r _ [322, 324, 326, 328, 330, 332, 334, 336, 338] (by decide +kernel)
set_option maxRecDepth 20000 in
theorem in_wsX10 : ∀ w ∈ wsX10, w ∈ lw_tbl := mem_r _ [352, 354] (by decide +kernel)
set_option maxRecDepth 20000 in
theorem in_wsX40 : ∀ w ∈ wsX40, w ∈ lw_tbl := mem_r _ [108] (by decide +kernel)
set_option maxRecDepth 20000 in
theorem in_wsX00 : ∀ w ∈ wsX00, w ∈ lw_tbl := mem_r _ [138, 140, 142, 144, 146, 148, 150] (by decide +kernel)
set_option maxRecDepth 20000 in
theorem in_wsX50 : ∀ w ∈ wsX50, w ∈ lw_tbl := mem_r _ [163, 165, 167] (by decide +kernel)
theorem wsL_law_in : ∀ w ∈ wsL_law, w ∈ lw_tbl := by
  unfold wsL_law
  exact (all_app (all_app (all_app (all_app (all_app (all_app (all_app (all_app (all_app (all_app (all_app (all_app (all_app (all_app in_wsL_law_r1 (all_app in_wsL_law_r2 (all_app in_wsL_law_r3 (all_app in_wsL_law_r4 (all_app in_wsL_law_r5 (all_app in_wsL_law_r6 (all_app in_wsL_law_r7 (all_app in_wsL_law_r8 (all_app in_wsL_law_r9 (all_app in_wsL_law_r10 (all_app in_wsL_law_r11 (all_app in_wsL_law_r12 (all_app in_wsL_law_r13 (all_app in_wsL_law_r14 (all_app in_wsL_law_r15 (all_app in_wsL_law_r16 (all_app in_wsL_law_r17 (all_app in_wsL_law_r18 (all_app in_wsL_law_r19 (all_app in_wsL_law_r20 (all_app in_wsL_law_r21 (all_app in_wsL_law_r22 (all_app in_wsL_law_r23 (all_app in_wsL_law_r24 (all_app in_wsL_law_r25 (all_app in_wsL_law_r26 (all_app in_wsL_law_r27 (all_app in_wsL_law_r28 (all_app in_wsL_law_r29 (all_app in_wsL_law_r30 (all_app in_wsL_law_r31 (all_app in_wsL_law_r32 (all_app in_wsL_law_r33 (all_app in_wsL_law_r34 (all_app in_wsL_law_r35 (all_app in_wsL_law_r36 (all_app in_wsL_law_r37 (all_app in_wsL_law_r38 (all_app in_wsL_law_r39 (all_app in_wsL_law_r40 (all_app in_wsL_law_r41 (all_app in_wsL_law_r42 (all_app in_wsL_law_r43 (all_app in_wsL_law_r44 (all_app in_wsL_law_r45 (all_app in_wsL_law_r46 (all_app in_wsL_law_r47 (all_app in_wsL_law_r48 in_wsL_law_r49)))))))))))))))))))))))))))))))))))))))))))))))) in_wsX110) in_wsX120) in_wsX90) in_wsX20) in_wsX80) in_wsX70) in_wsX60) in_wsX100) in_wsX10) in_wsX40) in_wsX00) in_wsX50) (fun _ h => absurd h List.not_mem_nil))
theorem inlX0 : ∀ w ∈ wsX00, w ∈ wsL_law := fun _ h => List.mem_append_left _ (List.mem_append_left _ (List.mem_append_right _ h))
theorem inX0 : ∀ w ∈ wsX00, w ∈ lw_tbl := fun w h => wsL_law_in w (inlX0 w h)
theorem inlX1 : ∀ w ∈ wsX10, w ∈ wsL_law := fun _ h => List.mem_append_left _ (List.mem_append_left _ (List.mem_append_left _ (List.mem_append_left _ (List.mem_append_right _ h))))
theorem inX1 : ∀ w ∈ wsX10, w ∈ lw_tbl := fun w h => wsL_law_in w (inlX1 w h)
theorem inlX2 : ∀ w ∈ wsX20, w ∈ wsL_law := fun _ h => List.mem_append_left _ (List.mem_append_left _ (List.mem_append_left _ (List.mem_append_left _ (List.mem_append_left _ (List.mem_append_left _ (List.mem_append_left _ (List.mem_append_left _ (List.mem_append_left _ (List.mem_append_right _ h)))))))))
theorem inX2 : ∀ w ∈ wsX20, w ∈ lw_tbl := fun w h => wsL_law_in w (inlX2 w h)
theorem inX3 : ∀ w ∈ wsX30, w ∈ lw_tbl := by decide +kernel
theorem inlX4 : ∀ w ∈ wsX40, w ∈ wsL_law := fun _ h => List.mem_append_left _ (List.mem_append_left _ (List.mem_append_left _ (List.mem_append_right _ h)))
theorem inX4 : ∀ w ∈ wsX40, w ∈ lw_tbl := fun w h => wsL_law_in w (inlX4 w h)
theorem inlX5 : ∀ w ∈ wsX50, w ∈ wsL_law := fun _ h => List.mem_append_left _ (List.mem_append_right _ h)
theorem inX5 : ∀ w ∈ wsX50, w ∈ lw_tbl := fun w h => wsL_law_in w (inlX5 w h)
theorem inlX6 : ∀ w ∈ wsX60, w ∈ wsL_law := fun _ h => List.mem_append_left _ (List.mem_append_left _ (List.mem_append_left _ (List.mem_append_left _ (List.mem_append_left _ (List.mem_append_left _ (List.mem_append_right _ h))))))
theorem inX6 : ∀ w ∈ wsX60, w ∈ lw_tbl := fun w h => wsL_law_in w (inlX6 w h)
theorem inlX7 : ∀ w ∈ wsX70, w ∈ wsL_law := fun _ h => List.mem_append_left _ (List.mem_append_left _ (List.mem_append_left _ (List.mem_append_left _ (List.mem_append_left _ (List.mem_append_left _ (List.mem_append_left _ (List.mem_append_right _ h)))))))
theorem inX7 : ∀ w ∈ wsX70, w ∈ lw_tbl := fun w h => wsL_law_in w (inlX7 w h)
theorem inlX8 : ∀ w ∈ wsX80, w ∈ wsL_law := fun _ h => List.mem_append_left _ (List.mem_append_left _ (List.mem_append_left _ (List.mem_append_left _ (List.mem_append_left _ (List.mem_append_left _ (List.mem_append_left _ (List.mem_append_left _ (List.mem_append_right _ h))))))))
theorem inX8 : ∀ w ∈ wsX80, w ∈ lw_tbl := fun w h => wsL_law_in w (inlX8 w h)
theorem inlX9 : ∀ w ∈ wsX90, w ∈ wsL_law := fun _ h => List.mem_append_left _ (List.mem_append_left _ (List.mem_append_left _ (List.mem_append_left _ (List.mem_append_left _ (List.mem_append_left _ (List.mem_append_left _ (List.mem_append_left _ (List.mem_append_left _ (List.mem_append_left _ (List.mem_append_right _ h))))))))))
theorem inX9 : ∀ w ∈ wsX90, w ∈ lw_tbl := fun w h => wsL_law_in w (inlX9 w h)
theorem inlX10 : ∀ w ∈ wsX100, w ∈ wsL_law := fun _ h => List.mem_append_left _ (List.mem_append_left _ (List.mem_append_left _ (List.mem_append_left _ (List.mem_append_left _ (List.mem_append_right _ h)))))
theorem inX10 : ∀ w ∈ wsX100, w ∈ lw_tbl := fun w h => wsL_law_in w (inlX10 w h)
theorem inlX11 : ∀ w ∈ wsX110, w ∈ wsL_law := fun _ h => List.mem_append_left _ (List.mem_append_left _ (List.mem_append_left _ (List.mem_append_left _ (List.mem_append_left _ (List.mem_append_left _ (List.mem_append_left _ (List.mem_append_left _ (List.mem_append_left _ (List.mem_append_left _ (List.mem_append_left _ (List.mem_append_left _ (List.mem_append_right _ h))))))))))))
theorem inX11 : ∀ w ∈ wsX110, w ∈ lw_tbl := fun w h => wsL_law_in w (inlX11 w h)
theorem inlX12 : ∀ w ∈ wsX120, w ∈ wsL_law := fun _ h => List.mem_append_left _ (List.mem_append_left _ (List.mem_append_left _ (List.mem_append_left _ (List.mem_append_left _ (List.mem_append_left _ (List.mem_append_left _ (List.mem_append_left _ (List.mem_append_left _ (List.mem_append_left _ (List.mem_append_left _ (List.mem_append_right _ h)))))))))))
theorem inX12 : ∀ w ∈ wsX120, w ∈ lw_tbl := fun w h => wsL_law_in w (inlX12 w h)
theorem inJx145de : ∀ w ∈ wsJx145de0, w ∈ lw_tbl := by decide +kernel
theorem inJxb160c : ∀ w ∈ wsJxb160c0, w ∈ lw_tbl := by decide +kernel
theorem inJxe99ae : ∀ w ∈ wsJxe99ae0, w ∈ lw_tbl := by decide +kernel
theorem inJxf58ca : ∀ w ∈ wsJxf58ca0, w ∈ lw_tbl := by decide +kernel
theorem inJ9 : ∀ w ∈ wsJ90, w ∈ lw_tbl := by decide +kernel
theorem inJxd2413 : ∀ w ∈ wsJxd24130, w ∈ lw_tbl := by decide +kernel
theorem inJ10 : ∀ w ∈ wsJ100, w ∈ lw_tbl := by decide +kernel
theorem inJxfd54e : ∀ w ∈ wsJxfd54e0, w ∈ lw_tbl := by decide +kernel
theorem inJx3cf43 : ∀ w ∈ wsJx3cf430, w ∈ lw_tbl := by decide +kernel
theorem inJ7 : ∀ w ∈ wsJ70, w ∈ lw_tbl := by decide +kernel
