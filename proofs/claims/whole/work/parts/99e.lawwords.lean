theorem mem_p {big : List Cond} (ws : List Cond) (ps : List Nat) (hp : ws = ps.filterMap (fun i => big[i]?)) : ∀ w ∈ ws, w ∈ big := by
  intro w hw
  rw [hp] at hw
  obtain ⟨i, -, hi⟩ := List.mem_filterMap.mp hw
  exact List.mem_of_getElem? hi
set_option maxRecDepth 20000 in
theorem wl_r1 : ∀ w ∈ wsL_law0_r1, w ∈ lw_tbl := mem_p _ [62, 63, 39, 980, 981, 51, 207, 64, 65, 66, 67, 68, 69, 70, 71, 40, 208, 209, 210, 177, 212, 93, 213, 214] (by decide +kernel)
set_option maxRecDepth 20000 in
theorem wl_r2 : ∀ w ∈ wsL_law0_r2, w ∈ lw_tbl := mem_p _ [215, 179, 50, 73, 74, 75, 76, 77, 41, 151, 94, 96, 42, 102, 103, 43, 109, 110, 44, 116, 117, 45, 123, 124] (by decide +kernel)
set_option maxRecDepth 20000 in
theorem wl_r3 : ∀ w ∈ wsL_law0_r3, w ∈ lw_tbl := mem_p _ [46, 130, 131, 47, 137, 138, 48, 144, 145, 49, 153, 154, 155, 79, 80, 81, 84, 85, 98, 99, 100, 105, 106, 112] (by decide +kernel)
set_option maxRecDepth 20000 in
theorem wl_r4 : ∀ w ∈ wsL_law0_r4, w ∈ lw_tbl := mem_p _ [113, 119, 120, 126, 127, 133, 134, 140, 141, 147, 148, 181, 182, 183, 184, 192, 982, 983, 984, 985, 986, 987, 988, 989] (by decide +kernel)
set_option maxRecDepth 20000 in
theorem wl_r5 : ∀ w ∈ wsL_law0_r5, w ∈ lw_tbl := mem_p _ [994, 995, 996, 997, 998, 1000, 1001, 1002, 1003, 1004, 1005, 233, 234, 235, 236, 237, 239, 0, 240, 241, 242, 243, 244, 245] (by decide +kernel)
set_option maxRecDepth 20000 in
theorem wl_r6 : ∀ w ∈ wsL_law0_r6, w ∈ lw_tbl := mem_p _ [246, 247, 248, 249, 250, 251, 252, 253, 254, 255, 256, 257, 258, 189, 259, 260, 261, 262, 263, 264, 265, 191, 266, 267] (by decide +kernel)
set_option maxRecDepth 20000 in
theorem wl_r7 : ∀ w ∈ wsL_law0_r7, w ∈ lw_tbl := mem_p _ [268, 269, 270, 271, 272, 273, 274, 275, 276, 277, 278, 279, 280, 281, 282, 283, 291, 290, 289, 52, 156, 158, 160, 284] (by decide +kernel)
set_option maxRecDepth 20000 in
theorem wl_r8 : ∀ w ∈ wsL_law0_r8, w ∈ lw_tbl := mem_p _ [285, 286, 287, 82, 288, 292, 294, 1, 295, 296, 297, 298, 299, 301, 302, 304, 305, 306, 307, 308, 309, 310, 311, 312] (by decide +kernel)
set_option maxRecDepth 20000 in
theorem wl_r9 : ∀ w ∈ wsL_law0_r9, w ∈ lw_tbl := mem_p _ [313, 314, 315, 316, 317, 318, 321, 322, 319, 331, 319, 323, 324, 325, 326, 327, 318, 320, 328, 329, 330, 332, 333, 334] (by decide +kernel)
set_option maxRecDepth 20000 in
theorem wl_r10 : ∀ w ∈ wsL_law0_r10, w ∈ lw_tbl := mem_p _ [335, 336, 337, 338, 339, 340, 341, 342, 343, 344, 345, 346, 347, 348, 349, 350, 351, 352, 353, 354, 355, 356, 357, 358] (by decide +kernel)
set_option maxRecDepth 20000 in
theorem wl_r11 : ∀ w ∈ wsL_law0_r11, w ∈ lw_tbl := mem_p _ [359, 360, 361, 362, 363, 364, 365, 366, 367, 368, 369, 370, 372, 2, 373, 374, 375, 376, 377, 378, 379, 380, 381, 382] (by decide +kernel)
set_option maxRecDepth 20000 in
theorem wl_r12 : ∀ w ∈ wsL_law0_r12, w ∈ lw_tbl := mem_p _ [385, 383, 386, 387, 388, 389, 1386, 143, 390, 391, 392, 1387, 129, 393, 394, 408, 395, 396, 397, 398, 399, 382, 383, 384] (by decide +kernel)
set_option maxRecDepth 20000 in
theorem wl_r13 : ∀ w ∈ wsL_law0_r13, w ∈ lw_tbl := mem_p _ [400, 401, 402, 403, 404, 405, 406, 1388, 136, 407, 409, 410, 411, 412, 413, 414, 53, 415, 416, 417, 418, 419, 422, 423] (by decide +kernel)
set_option maxRecDepth 20000 in
theorem wl_r14 : ∀ w ∈ wsL_law0_r14, w ∈ lw_tbl := mem_p _ [420, 434, 420, 424, 425, 426, 427, 428, 419, 421, 429, 430, 431, 432, 433, 435, 1050, 1051, 1052, 1053, 992, 993, 991, 1054] (by decide +kernel)
set_option maxRecDepth 20000 in
theorem wl_r15 : ∀ w ∈ wsL_law0_r15, w ∈ lw_tbl := mem_p _ [1056, 15, 1057, 1058, 1059, 1060, 1061, 1062, 1063, 1064, 1066, 16, 1067, 1068, 1070, 17, 1071, 1072, 1074, 18, 1075, 1076, 1077, 1078] (by decide +kernel)
set_option maxRecDepth 20000 in
theorem wl_r16 : ∀ w ∈ wsL_law0_r16, w ∈ lw_tbl := mem_p _ [1079, 1081, 19, 1082, 1083, 1085, 20, 1086, 1087, 1088, 1089, 1090, 1092, 21, 1093, 1094, 1096, 22, 1097, 1098, 1099, 1100, 1101, 1102] (by decide +kernel)
set_option maxRecDepth 20000 in
theorem wl_r17 : ∀ w ∈ wsL_law0_r17, w ∈ lw_tbl := mem_p _ [1103, 1104, 1105, 1106, 1107, 1108, 1109, 1110, 1111, 1112, 1113, 1114, 1115, 1116, 1117, 1118, 1119, 1120, 1121, 1122, 1123, 1124, 1125, 1126] (by decide +kernel)
set_option maxRecDepth 20000 in
theorem wl_r18 : ∀ w ∈ wsL_law0_r18, w ∈ lw_tbl := mem_p _ [1127, 1128, 1129, 1130, 436, 437, 438, 439, 440, 441, 442, 443, 444, 445, 446, 446, 447, 448, 449, 450, 451, 454, 452, 455] (by decide +kernel)
set_option maxRecDepth 20000 in
theorem wl_r19 : ∀ w ∈ wsL_law0_r19, w ∈ lw_tbl := mem_p _ [456, 457, 458, 1389, 459, 460, 461, 1390, 462, 463, 464, 115, 452, 479, 465, 466, 467, 468, 469, 451, 453, 470, 471, 472] (by decide +kernel)
set_option maxRecDepth 20000 in
theorem wl_r20 : ∀ w ∈ wsL_law0_r20, w ∈ lw_tbl := mem_p _ [473, 108, 474, 475, 476, 477, 1391, 478, 480, 481, 482, 483, 484, 485, 486, 487, 488, 489, 1131, 1132, 1133, 1134, 1135, 1136] (by decide +kernel)
set_option maxRecDepth 20000 in
theorem wl_r21 : ∀ w ∈ wsL_law0_r21, w ∈ lw_tbl := mem_p _ [1137, 1138, 1139, 1140, 1141, 1142, 1143, 490, 491, 492, 493, 494, 495, 496, 1144, 1145, 1146, 1147, 1148, 1150, 23, 1151, 497, 498] (by decide +kernel)
set_option maxRecDepth 20000 in
theorem wl_r22 : ∀ w ∈ wsL_law0_r22, w ∈ lw_tbl := mem_p _ [499, 500, 1152, 1153, 1154, 1155, 501, 502, 503, 504, 1156, 1157, 1158, 1159, 505, 506, 507, 508, 1160, 1161, 1162, 1163, 509, 510] (by decide +kernel)
set_option maxRecDepth 20000 in
theorem wl_r23 : ∀ w ∈ wsL_law0_r23, w ∈ lw_tbl := mem_p _ [511, 512, 513, 514, 515, 516, 517, 518, 519, 520, 521, 522, 523, 524, 1164, 1165, 1166, 1167, 1168, 1178, 1169, 1170, 1171, 1172] (by decide +kernel)
set_option maxRecDepth 20000 in
theorem wl_r24 : ∀ w ∈ wsL_law0_r24, w ∈ lw_tbl := mem_p _ [1173, 1174, 1175, 1176, 1177, 525, 526, 527, 528, 538, 529, 530, 531, 532, 533, 535, 3, 536, 537, 539, 540, 541, 542, 1179] (by decide +kernel)
set_option maxRecDepth 20000 in
theorem wl_r25 : ∀ w ∈ wsL_law0_r25, w ∈ lw_tbl := mem_p _ [1180, 1181, 1182, 1183, 543, 544, 545, 546, 1184, 1185, 1186, 1187, 1188, 1189, 1190, 547, 548, 549, 550, 551, 552, 553, 554, 555] (by decide +kernel)
set_option maxRecDepth 20000 in
theorem wl_r26 : ∀ w ∈ wsL_law0_r26, w ∈ lw_tbl := mem_p _ [556, 1191, 1192, 1193, 1194, 557, 558, 559, 560, 561, 562, 563, 564, 565, 566, 567, 568, 1195, 1196, 1197, 1198, 1199, 1201, 24] (by decide +kernel)
set_option maxRecDepth 20000 in
theorem wl_r27 : ∀ w ∈ wsL_law0_r27, w ∈ lw_tbl := mem_p _ [1202, 1203, 1204, 1205, 569, 570, 571, 572, 573, 574, 575, 576, 578, 579, 54, 580, 577, 581, 582, 583, 584, 585, 586, 587] (by decide +kernel)
set_option maxRecDepth 20000 in
theorem wl_r28 : ∀ w ∈ wsL_law0_r28, w ∈ lw_tbl := mem_p _ [588, 589, 1206, 1207, 1208, 1209, 1210, 1212, 25, 1213, 1214, 1215, 1216, 1217, 1219, 26, 1220, 590, 591, 592, 593, 594, 595, 596] (by decide +kernel)
set_option maxRecDepth 20000 in
theorem wl_r29 : ∀ w ∈ wsL_law0_r29, w ∈ lw_tbl := mem_p _ [597, 598, 1221, 1222, 1223, 1224, 1225, 1227, 27, 1228, 599, 600, 601, 602, 1229, 1230, 1231, 1232, 1233, 1234, 1235, 603, 604, 605] (by decide +kernel)
set_option maxRecDepth 20000 in
theorem wl_r30 : ∀ w ∈ wsL_law0_r30, w ∈ lw_tbl := mem_p _ [606, 607, 1236, 1237, 1238, 1239, 608, 609, 610, 611, 612, 613, 55, 614, 615, 617, 4, 618, 620, 619, 1240, 1241, 1242, 1243] (by decide +kernel)
set_option maxRecDepth 20000 in
theorem wl_r31 : ∀ w ∈ wsL_law0_r31, w ∈ lw_tbl := mem_p _ [621, 622, 623, 624, 1244, 1245, 1246, 1247, 625, 626, 627, 628, 629, 630, 631, 632, 633, 634, 635, 636, 637, 638, 639, 640] (by decide +kernel)
set_option maxRecDepth 20000 in
theorem wl_r32 : ∀ w ∈ wsL_law0_r32, w ∈ lw_tbl := mem_p _ [641, 643, 5, 644, 649, 650, 651, 645, 647, 6, 648, 652, 654, 7, 655, 1248, 1249, 1250, 1251, 1252, 1254, 28, 1255, 1256] (by decide +kernel)
set_option maxRecDepth 20000 in
theorem wl_r33 : ∀ w ∈ wsL_law0_r33, w ∈ lw_tbl := mem_p _ [1258, 29, 1259, 1260, 1262, 30, 1263, 1264, 656, 657, 658, 659, 660, 661, 662, 663, 664, 666, 8, 667, 668, 669, 670, 671] (by decide +kernel)
set_option maxRecDepth 20000 in
theorem wl_r34 : ∀ w ∈ wsL_law0_r34, w ∈ lw_tbl := mem_p _ [672, 673, 675, 9, 676, 1265, 1266, 1267, 1268, 1269, 1271, 31, 1272, 1273, 1274, 1275, 1276, 1278, 32, 1279, 677, 678, 679, 680] (by decide +kernel)
set_option maxRecDepth 20000 in
theorem wl_r35 : ∀ w ∈ wsL_law0_r35, w ∈ lw_tbl := mem_p _ [681, 683, 10, 684, 685, 687, 11, 688, 689, 1280, 1281, 1282, 1283, 1284, 1286, 33, 1287, 690, 691, 692, 693, 694, 695, 696] (by decide +kernel)
set_option maxRecDepth 20000 in
theorem wl_r36 : ∀ w ∈ wsL_law0_r36, w ∈ lw_tbl := mem_p _ [697, 698, 699, 700, 702, 701, 1288, 1289, 1290, 1291, 1292, 1294, 34, 1295, 1296, 1298, 35, 1299, 1300, 1301, 1302, 1303, 703, 704] (by decide +kernel)
set_option maxRecDepth 20000 in
theorem wl_r37 : ∀ w ∈ wsL_law0_r37, w ∈ lw_tbl := mem_p _ [705, 706, 707, 1304, 1305, 1306, 1307, 708, 709, 710, 711, 712, 714, 12, 715, 1308, 1309, 1310, 1311, 1312, 1314, 36, 1315, 716] (by decide +kernel)
set_option maxRecDepth 20000 in
theorem wl_r38 : ∀ w ∈ wsL_law0_r38, w ∈ lw_tbl := mem_p _ [717, 718, 719, 720, 722, 13, 723, 724, 725, 726, 1316, 1317, 1318, 1319, 727, 728, 729, 730, 1320, 1321, 1322, 1323, 731, 732] (by decide +kernel)
set_option maxRecDepth 20000 in
theorem wl_r39 : ∀ w ∈ wsL_law0_r39, w ∈ lw_tbl := mem_p _ [733, 734, 1324, 1325, 1326, 1327, 735, 736, 737, 738, 739, 740, 741, 742, 743, 744, 745, 746, 747, 748, 749, 750, 1328, 1329] (by decide +kernel)
set_option maxRecDepth 20000 in
theorem wl_r40 : ∀ w ∈ wsL_law0_r40, w ∈ lw_tbl := mem_p _ [1330, 1331, 999, 1332, 1334, 37, 1335, 1336, 1337, 1338, 751, 752, 753, 754, 211, 1339, 1340, 1341, 1342, 990, 755, 756, 757, 758] (by decide +kernel)
set_option maxRecDepth 20000 in
theorem wl_r41 : ∀ w ∈ wsL_law0_r41, w ∈ lw_tbl := mem_p _ [1343, 1344, 1345, 1346, 759, 760, 761, 762, 763, 764, 765, 766, 767, 1347, 1348, 1349, 1350, 768, 769, 770, 771, 772, 773, 774] (by decide +kernel)
set_option maxRecDepth 20000 in
theorem wl_r42 : ∀ w ∈ wsL_law0_r42, w ∈ lw_tbl := mem_p _ [775, 776, 777, 778, 779, 780, 781, 185, 187, 1355, 1356, 1357, 1358, 782, 783, 784, 785, 786, 787, 788, 789, 790, 791, 792] (by decide +kernel)
set_option maxRecDepth 20000 in
theorem wl_r43 : ∀ w ∈ wsL_law0_r43, w ∈ lw_tbl := mem_p _ [1359, 1360, 1361, 1362, 793, 794, 795, 796, 797, 798, 799, 800, 801, 1363, 1364, 1365, 1366, 967, 968, 38, 969, 970, 971, 972] (by decide +kernel)
set_option maxRecDepth 20000 in
theorem wl_r44 : ∀ w ∈ wsL_law0_r44, w ∈ lw_tbl := mem_p _ [973, 974, 975, 847, 59, 848, 60, 1367, 1368, 1369, 1370, 1006, 1351, 1352, 1353, 1354, 802, 803, 804, 805, 806, 807, 808, 809] (by decide +kernel)
set_option maxRecDepth 20000 in
theorem wl_r45 : ∀ w ∈ wsL_law0_r45, w ∈ lw_tbl := mem_p _ [1371, 1372, 1373, 1374, 810, 811, 812, 813, 814, 817, 815, 818, 819, 820, 841, 821, 822, 823, 824, 1392, 122, 825, 826, 827] (by decide +kernel)
set_option maxRecDepth 20000 in
theorem wl_r46 : ∀ w ∈ wsL_law0_r46, w ∈ lw_tbl := mem_p _ [828, 829, 830, 815, 831, 814, 816, 832, 833, 834, 835, 836, 837, 838, 839, 840, 1393, 1375, 1376, 1377, 1378, 1379, 1380, 1381] (by decide +kernel)
set_option maxRecDepth 20000 in
theorem wl_r47 : ∀ w ∈ wsL_law0_r47, w ∈ lw_tbl := mem_p _ [842, 843, 844, 845, 846, 849, 852, 850, 853, 854, 855, 856, 61, 950, 924, 925, 926, 927, 928, 929, 930, 946, 849, 850] (by decide +kernel)
set_option maxRecDepth 20000 in
theorem wl_r48 : ∀ w ∈ wsL_law0_r48, w ∈ lw_tbl := mem_p _ [851, 951, 947, 948, 949, 1382, 1383, 1384, 1385] (by decide +kernel)
set_option maxRecDepth 20000 in
theorem wl_X11 : ∀ w ∈ wsX110, w ∈ lw_tbl := mem_p _ [216, 218, 220, 222, 224, 226, 228, 230] (by decide +kernel)
set_option maxRecDepth 20000 in
theorem wl_X12 : ∀ w ∈ wsX120, w ∈ lw_tbl := mem_p _ [1007, 1009, 1011, 1013, 1015, 1017, 1019, 1021, 1023, 1025, 1027, 1029, 1031, 1033, 1035, 1037, 1039, 1041, 1043, 1045, 1047] (by decide +kernel)
set_option maxRecDepth 20000 in
theorem wl_X5 : ∀ w ∈ wsX50, w ∈ lw_tbl := mem_p _ [162, 164, 166, 168, 170, 172, 174] (by decide +kernel)
set_option maxRecDepth 20000 in
theorem wl_X7 : ∀ w ∈ wsX70, w ∈ lw_tbl := mem_p _ [194, 196, 198, 200, 202, 204] (by decide +kernel)
set_option maxRecDepth 20000 in
theorem wl_X4 : ∀ w ∈ wsX40, w ∈ lw_tbl := mem_p _ [86, 88, 90] (by decide +kernel)
set_option maxRecDepth 20000 in
theorem wl_X6 : ∀ w ∈ wsX60, w ∈ lw_tbl := mem_p _ [] (by decide +kernel)
set_option maxRecDepth 20000 in
theorem wl_X8 : ∀ w ∈ wsX80, w ∈ lw_tbl := mem_p _ [] (by decide +kernel)
set_option maxRecDepth 20000 in
theorem wl_X2 : ∀ w ∈ wsX20, w ∈ lw_tbl := mem_p _ [] (by decide +kernel)
set_option maxRecDepth 20000 in
theorem wl_X3 : ∀ w ∈ wsX30, w ∈ lw_tbl := mem_p _ [] (by decide +kernel)
set_option maxRecDepth 20000 in
theorem wl_X10 : ∀ w ∈ wsX100, w ∈ lw_tbl := mem_p _ [] (by decide +kernel)
set_option maxRecDepth 20000 in
theorem wl_X9 : ∀ w ∈ wsX90, w ∈ lw_tbl := mem_p _ [] (by decide +kernel)
set_option maxRecDepth 20000 in
theorem wl_X0 : ∀ w ∈ wsX00, w ∈ lw_tbl := mem_p _ [] (by decide +kernel)
set_option maxRecDepth 20000 in
theorem wl_X1 : ∀ w ∈ wsX10, w ∈ lw_tbl := mem_p _ [] (by decide +kernel)
theorem wsL_law_in0 : ∀ w ∈ wsL_law0, w ∈ lw_tbl := List.forall_mem_append.mpr ⟨List.forall_mem_append.mpr ⟨List.forall_mem_append.mpr ⟨List.forall_mem_append.mpr ⟨List.forall_mem_append.mpr ⟨List.forall_mem_append.mpr ⟨List.forall_mem_append.mpr ⟨List.forall_mem_append.mpr ⟨List.forall_mem_append.mpr ⟨List.forall_mem_append.mpr ⟨List.forall_mem_append.mpr ⟨List.forall_mem_append.mpr ⟨List.forall_mem_append.mpr ⟨List.forall_mem_append.mpr ⟨List.forall_mem_append.mpr ⟨wl_r1, List.forall_mem_append.mpr ⟨wl_r2, List.forall_mem_append.mpr ⟨wl_r3, List.forall_mem_append.mpr ⟨wl_r4, List.forall_mem_append.mpr ⟨wl_r5, List.forall_mem_append.mpr ⟨wl_r6, List.forall_mem_append.mpr ⟨wl_r7, List.forall_mem_append.mpr ⟨wl_r8, List.forall_mem_append.mpr ⟨wl_r9, List.forall_mem_append.mpr ⟨wl_r10, List.forall_mem_append.mpr ⟨wl_r11, List.forall_mem_append.mpr ⟨wl_r12, List.forall_mem_append.mpr ⟨wl_r13, List.forall_mem_append.mpr ⟨wl_r14, List.forall_mem_append.mpr ⟨wl_r15, List.forall_mem_append.mpr ⟨wl_r16, List.forall_mem_append.mpr ⟨wl_r17, List.forall_mem_append.mpr ⟨wl_r18, List.forall_mem_append.mpr ⟨wl_r19, List.forall_mem_append.mpr ⟨wl_r20, List.forall_mem_append.mpr ⟨wl_r21, List.forall_mem_append.mpr ⟨wl_r22, List.forall_mem_append.mpr ⟨wl_r23, List.forall_mem_append.mpr ⟨wl_r24, List.forall_mem_append.mpr ⟨wl_r25, List.forall_mem_append.mpr ⟨wl_r26, List.forall_mem_append.mpr ⟨wl_r27, List.forall_mem_append.mpr ⟨wl_r28, List.forall_mem_append.mpr ⟨wl_r29, List.forall_mem_append.mpr ⟨wl_r30, List.forall_mem_append.mpr ⟨wl_r31, List.forall_mem_append.mpr ⟨wl_r32, List.forall_mem_append.mpr ⟨wl_r33, List.forall_mem_append.mpr ⟨wl_r34, List.forall_mem_append.mpr ⟨wl_r35, List.forall_mem_append.mpr ⟨wl_r36, List.forall_mem_append.mpr ⟨wl_r37, List.forall_mem_append.mpr ⟨wl_r38, List.forall_mem_append.mpr ⟨wl_r39, List.forall_mem_append.mpr ⟨wl_r40, List.forall_mem_append.mpr ⟨wl_r41, List.forall_mem_append.mpr ⟨wl_r42, List.forall_mem_append.mpr ⟨wl_r43, List.forall_mem_append.mpr ⟨wl_r44, List.forall_mem_append.mpr ⟨wl_r45, List.forall_mem_append.mpr ⟨wl_r46, List.forall_mem_append.mpr ⟨wl_r47, wl_r48⟩⟩⟩⟩⟩⟩⟩⟩⟩⟩⟩⟩⟩⟩⟩⟩⟩⟩⟩⟩⟩⟩⟩⟩⟩⟩⟩⟩⟩⟩⟩⟩⟩⟩⟩⟩⟩⟩⟩⟩⟩⟩⟩⟩⟩⟩⟩, wl_X11⟩, wl_X12⟩, wl_X5⟩, wl_X7⟩, wl_X4⟩, wl_X6⟩, wl_X8⟩, wl_X2⟩, wl_X3⟩, wl_X10⟩, wl_X9⟩, wl_X0⟩, wl_X1⟩, fun _ h => absurd h List.not_mem_nil⟩
theorem wsL_law_x0 : ∀ w ∈ (vx_atS RX11 282 "java/lang/IllegalArgumentException" ["java/lang/RuntimeException", "java/lang/Exception"]).filter goodWord, w ∈ lw_tbl := by decide +kernel
theorem wsL_law_x1 : ∀ w ∈ (vx_atS RX11 293 "java/lang/IllegalStateException" ["java/lang/RuntimeException", "java/lang/Exception"]).filter goodWord, w ∈ lw_tbl := by decide +kernel
theorem wsL_law_x2 : ∀ w ∈ (vx_atS RX0 18 "java/lang/UnsupportedOperationException" ["java/lang/RuntimeException", "java/lang/Exception"]).filter goodWord, w ∈ lw_tbl := by decide +kernel
theorem wsL_law_x3 : ∀ w ∈ (vx_atS RX2 19 "java/lang/IllegalArgumentException" ["java/lang/RuntimeException", "java/lang/Exception"]).filter goodWord, w ∈ lw_tbl := by decide +kernel
theorem wsL_law_x4 : ∀ w ∈ (vx_atS RX6 11 "java/lang/IllegalStateException" ["java/lang/RuntimeException", "java/lang/Exception"]).filter goodWord, w ∈ lw_tbl := by decide +kernel
theorem wsL_law_in : ∀ w ∈ wsL_law, w ∈ lw_tbl := fun w h => (List.mem_append.mp h).elim (fun h => (List.mem_append.mp h).elim (fun h => (List.mem_append.mp h).elim (fun h => (List.mem_append.mp h).elim (fun h => (List.mem_append.mp h).elim (fun h => wsL_law_in0 w h) (fun h => wsL_law_x0 w h)) (fun h => wsL_law_x1 w h)) (fun h => wsL_law_x2 w h)) (fun h => wsL_law_x3 w h)) (fun h => wsL_law_x4 w h)
theorem inlX0 : ∀ w ∈ wsX00, w ∈ wsL_law := fun _ h => List.mem_append_left _ (List.mem_append_left _ (List.mem_append_left _ (List.mem_append_left _ (List.mem_append_left _ (List.mem_append_left _ (List.mem_append_left _ (List.mem_append_right _ h)))))))
theorem inX0 : ∀ w ∈ wsX00, w ∈ lw_tbl := fun w h => wsL_law_in w (inlX0 w h)
theorem inlX1 : ∀ w ∈ wsX10, w ∈ wsL_law := fun _ h => List.mem_append_left _ (List.mem_append_left _ (List.mem_append_left _ (List.mem_append_left _ (List.mem_append_left _ (List.mem_append_left _ (List.mem_append_right _ h))))))
theorem inX1 : ∀ w ∈ wsX10, w ∈ lw_tbl := fun w h => wsL_law_in w (inlX1 w h)
theorem inlX2 : ∀ w ∈ wsX20, w ∈ wsL_law := fun _ h => List.mem_append_left _ (List.mem_append_left _ (List.mem_append_left _ (List.mem_append_left _ (List.mem_append_left _ (List.mem_append_left _ (List.mem_append_left _ (List.mem_append_left _ (List.mem_append_left _ (List.mem_append_left _ (List.mem_append_left _ (List.mem_append_right _ h)))))))))))
theorem inX2 : ∀ w ∈ wsX20, w ∈ lw_tbl := fun w h => wsL_law_in w (inlX2 w h)
theorem inlX3 : ∀ w ∈ wsX30, w ∈ wsL_law := fun _ h => List.mem_append_left _ (List.mem_append_left _ (List.mem_append_left _ (List.mem_append_left _ (List.mem_append_left _ (List.mem_append_left _ (List.mem_append_left _ (List.mem_append_left _ (List.mem_append_left _ (List.mem_append_left _ (List.mem_append_right _ h))))))))))
theorem inX3 : ∀ w ∈ wsX30, w ∈ lw_tbl := fun w h => wsL_law_in w (inlX3 w h)
theorem inlX4 : ∀ w ∈ wsX40, w ∈ wsL_law := fun _ h => List.mem_append_left _ (List.mem_append_left _ (List.mem_append_left _ (List.mem_append_left _ (List.mem_append_left _ (List.mem_append_left _ (List.mem_append_left _ (List.mem_append_left _ (List.mem_append_left _ (List.mem_append_left _ (List.mem_append_left _ (List.mem_append_left _ (List.mem_append_left _ (List.mem_append_left _ (List.mem_append_right _ h))))))))))))))
theorem inX4 : ∀ w ∈ wsX40, w ∈ lw_tbl := fun w h => wsL_law_in w (inlX4 w h)
theorem inlX5 : ∀ w ∈ wsX50, w ∈ wsL_law := fun _ h => List.mem_append_left _ (List.mem_append_left _ (List.mem_append_left _ (List.mem_append_left _ (List.mem_append_left _ (List.mem_append_left _ (List.mem_append_left _ (List.mem_append_left _ (List.mem_append_left _ (List.mem_append_left _ (List.mem_append_left _ (List.mem_append_left _ (List.mem_append_left _ (List.mem_append_left _ (List.mem_append_left _ (List.mem_append_left _ (List.mem_append_right _ h))))))))))))))))
theorem inX5 : ∀ w ∈ wsX50, w ∈ lw_tbl := fun w h => wsL_law_in w (inlX5 w h)
theorem inlX6 : ∀ w ∈ wsX60, w ∈ wsL_law := fun _ h => List.mem_append_left _ (List.mem_append_left _ (List.mem_append_left _ (List.mem_append_left _ (List.mem_append_left _ (List.mem_append_left _ (List.mem_append_left _ (List.mem_append_left _ (List.mem_append_left _ (List.mem_append_left _ (List.mem_append_left _ (List.mem_append_left _ (List.mem_append_left _ (List.mem_append_right _ h)))))))))))))
theorem inX6 : ∀ w ∈ wsX60, w ∈ lw_tbl := fun w h => wsL_law_in w (inlX6 w h)
theorem inlX7 : ∀ w ∈ wsX70, w ∈ wsL_law := fun _ h => List.mem_append_left _ (List.mem_append_left _ (List.mem_append_left _ (List.mem_append_left _ (List.mem_append_left _ (List.mem_append_left _ (List.mem_append_left _ (List.mem_append_left _ (List.mem_append_left _ (List.mem_append_left _ (List.mem_append_left _ (List.mem_append_left _ (List.mem_append_left _ (List.mem_append_left _ (List.mem_append_left _ (List.mem_append_right _ h)))))))))))))))
theorem inX7 : ∀ w ∈ wsX70, w ∈ lw_tbl := fun w h => wsL_law_in w (inlX7 w h)
theorem inlX8 : ∀ w ∈ wsX80, w ∈ wsL_law := fun _ h => List.mem_append_left _ (List.mem_append_left _ (List.mem_append_left _ (List.mem_append_left _ (List.mem_append_left _ (List.mem_append_left _ (List.mem_append_left _ (List.mem_append_left _ (List.mem_append_left _ (List.mem_append_left _ (List.mem_append_left _ (List.mem_append_left _ (List.mem_append_right _ h))))))))))))
theorem inX8 : ∀ w ∈ wsX80, w ∈ lw_tbl := fun w h => wsL_law_in w (inlX8 w h)
theorem inlX9 : ∀ w ∈ wsX90, w ∈ wsL_law := fun _ h => List.mem_append_left _ (List.mem_append_left _ (List.mem_append_left _ (List.mem_append_left _ (List.mem_append_left _ (List.mem_append_left _ (List.mem_append_left _ (List.mem_append_left _ (List.mem_append_right _ h))))))))
theorem inX9 : ∀ w ∈ wsX90, w ∈ lw_tbl := fun w h => wsL_law_in w (inlX9 w h)
theorem inlX10 : ∀ w ∈ wsX100, w ∈ wsL_law := fun _ h => List.mem_append_left _ (List.mem_append_left _ (List.mem_append_left _ (List.mem_append_left _ (List.mem_append_left _ (List.mem_append_left _ (List.mem_append_left _ (List.mem_append_left _ (List.mem_append_left _ (List.mem_append_right _ h)))))))))
theorem inX10 : ∀ w ∈ wsX100, w ∈ lw_tbl := fun w h => wsL_law_in w (inlX10 w h)
theorem inlX11 : ∀ w ∈ wsX110, w ∈ wsL_law := fun _ h => List.mem_append_left _ (List.mem_append_left _ (List.mem_append_left _ (List.mem_append_left _ (List.mem_append_left _ (List.mem_append_left _ (List.mem_append_left _ (List.mem_append_left _ (List.mem_append_left _ (List.mem_append_left _ (List.mem_append_left _ (List.mem_append_left _ (List.mem_append_left _ (List.mem_append_left _ (List.mem_append_left _ (List.mem_append_left _ (List.mem_append_left _ (List.mem_append_left _ (List.mem_append_right _ h))))))))))))))))))
theorem inX11 : ∀ w ∈ wsX110, w ∈ lw_tbl := fun w h => wsL_law_in w (inlX11 w h)
theorem inlX12 : ∀ w ∈ wsX120, w ∈ wsL_law := fun _ h => List.mem_append_left _ (List.mem_append_left _ (List.mem_append_left _ (List.mem_append_left _ (List.mem_append_left _ (List.mem_append_left _ (List.mem_append_left _ (List.mem_append_left _ (List.mem_append_left _ (List.mem_append_left _ (List.mem_append_left _ (List.mem_append_left _ (List.mem_append_left _ (List.mem_append_left _ (List.mem_append_left _ (List.mem_append_left _ (List.mem_append_left _ (List.mem_append_right _ h)))))))))))))))))
theorem inX12 : ∀ w ∈ wsX120, w ∈ lw_tbl := fun w h => wsL_law_in w (inlX12 w h)
theorem inJx145de : ∀ w ∈ wsJx145de0, w ∈ lw_tbl := by decide +kernel
theorem inJ6 : ∀ w ∈ wsJ60, w ∈ lw_tbl := by decide +kernel
theorem inJ9 : ∀ w ∈ wsJ90, w ∈ lw_tbl := by decide +kernel
theorem inJ0 : ∀ w ∈ wsJ00, w ∈ lw_tbl := by decide +kernel
theorem inJ10 : ∀ w ∈ wsJ100, w ∈ lw_tbl := by decide +kernel
theorem inJ7 : ∀ w ∈ wsJ70, w ∈ lw_tbl := by decide +kernel
set_option maxRecDepth 20000 in
theorem ul_0 : ∀ w ∈ U12_0, w ∈ lw_tbl := mem_p _ [984, 985, 68, 69, 93, 986, 987, 988, 989, 994, 207, 995, 996, 997, 998, 1000, 1001, 1002, 1003, 1004] (by decide +kernel)
set_option maxRecDepth 20000 in
theorem ul_1 : ∀ w ∈ U12_1, w ∈ lw_tbl := mem_p _ [1005, 1063, 1078, 1089, 1097, 1061, 1062, 51, 1093, 1094, 1096, 22, 1115, 1130, 1127, 1087, 1088, 1128, 1129, 1103] (by decide +kernel)
set_option maxRecDepth 20000 in
theorem ul_2 : ∀ w ∈ U12_2, w ∈ lw_tbl := mem_p _ [1121, 1124, 1125, 1126, 1137, 1118, 1119, 1120, 1113, 1114, 1101, 1102, 1122, 1123, 1116, 1117, 1112, 1110, 1111, 1109] (by decide +kernel)
set_option maxRecDepth 20000 in
theorem ul_3 : ∀ w ∈ U12_3, w ∈ lw_tbl := mem_p _ [1100, 1171, 1106, 1071, 991, 993, 992, 1075, 1068, 1070, 17, 1067, 1072, 1074, 18, 1086, 1083, 1085, 20, 1090] (by decide +kernel)
set_option maxRecDepth 20000 in
theorem ul_4 : ∀ w ∈ U12_4, w ∈ lw_tbl := mem_p _ [1092, 21, 1098, 1099, 1104, 1105, 1107, 1108, 1082, 1060, 1057, 1058, 1059, 1054, 1056, 15, 1064, 1066, 16, 1076] (by decide +kernel)
set_option maxRecDepth 20000 in
theorem ul_5 : ∀ w ∈ U12_5, w ∈ lw_tbl := mem_p _ [1077, 1079, 1081, 19, 1053, 1143, 1140, 1141, 1142, 1135, 1136, 1138, 1139, 1134, 1151, 1147, 1148, 1150, 23, 1155] (by decide +kernel)
set_option maxRecDepth 20000 in
theorem ul_6 : ∀ w ∈ U12_6, w ∈ lw_tbl := mem_p _ [1159, 1163, 1177, 1174, 1175, 1176, 1168, 1178, 1169, 1170, 1172, 1173, 1167, 1183, 1182, 1190, 1187, 1188, 1189, 1194] (by decide +kernel)
set_option maxRecDepth 20000 in
theorem ul_7 : ∀ w ∈ U12_7, w ∈ lw_tbl := mem_p _ [1205, 1202, 1203, 1204, 1198, 1199, 1201, 24, 1216, 1213, 1220, 1214, 1215, 1210, 1212, 25, 1217, 1219, 26, 1209] (by decide +kernel)
set_option maxRecDepth 20000 in
theorem ul_8 : ∀ w ∈ U12_8, w ∈ lw_tbl := mem_p _ [1228, 1225, 1227, 27, 1224, 1235, 1233, 1234, 1232, 1239, 1243, 1247, 1259, 1255, 1256, 1258, 29, 1263, 1264, 1252] (by decide +kernel)
set_option maxRecDepth 20000 in
theorem ul_9 : ∀ w ∈ U12_9, w ∈ lw_tbl := mem_p _ [1254, 28, 1260, 1262, 30, 1251, 1275, 1272, 1273, 1274, 1279, 1269, 1271, 31, 1276, 1278, 32, 1268, 1287, 1283] (by decide +kernel)
set_option maxRecDepth 20000 in
theorem ul_10 : ∀ w ∈ U12_10, w ∈ lw_tbl := mem_p _ [1284, 1286, 33, 1302, 1303, 1299, 1300, 1301, 1296, 1298, 35, 1295, 1292, 1294, 34, 1291, 1307, 1315, 1312, 1314] (by decide +kernel)
set_option maxRecDepth 20000 in
theorem ul_11 : ∀ w ∈ U12_11, w ∈ lw_tbl := mem_p _ [36, 1311, 1319, 1323, 1327, 1335, 999, 1336, 1337, 1338, 1332, 1334, 37, 1331, 1342, 990, 1346, 1350, 1354, 1006] (by decide +kernel)
set_option maxRecDepth 20000 in
theorem ul_12 : ∀ w ∈ U12_12, w ∈ lw_tbl := mem_p _ [1358, 1362, 1366, 1370, 1374, 1381, 1378, 1379, 1380, 1385] (by decide +kernel)
theorem UU_in : ∀ w ∈ UU, w ∈ lw_tbl := List.forall_mem_append.mpr ⟨ul_0, List.forall_mem_append.mpr ⟨ul_1, List.forall_mem_append.mpr ⟨ul_2, List.forall_mem_append.mpr ⟨ul_3, List.forall_mem_append.mpr ⟨ul_4, List.forall_mem_append.mpr ⟨ul_5, List.forall_mem_append.mpr ⟨ul_6, List.forall_mem_append.mpr ⟨ul_7, List.forall_mem_append.mpr ⟨ul_8, List.forall_mem_append.mpr ⟨ul_9, List.forall_mem_append.mpr ⟨ul_10, List.forall_mem_append.mpr ⟨ul_11, List.forall_mem_append.mpr ⟨ul_12, inX12⟩⟩⟩⟩⟩⟩⟩⟩⟩⟩⟩⟩⟩
theorem gLU {cy : Cond} (h5 : cy ∈ UU) : GoodIn lw_tbl (cy :: UU) := fun w hw => by
  rcases List.mem_cons.mp hw with rfl | hw
  · exact ⟨UU_in _ h5, good_of_word (List.all_eq_true.mp UU_good _ h5)⟩
  · exact ⟨UU_in _ hw, good_of_word (List.all_eq_true.mp UU_good _ hw)⟩
theorem gLup {ws : List Cond} (h : GoodIn wsL_law ws) : GoodIn lw_tbl ws := fun w hw => ⟨wsL_law_in w (h w hw).1, (h w hw).2⟩
