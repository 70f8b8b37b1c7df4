set_option maxRecDepth 100000 in
theorem wsL_law_r1_in : ∀ w ∈ wsL_law_r1, w ∈ lw_tbl := fun w h => (goodIn_r wsL_law_r1 [90, 91, 70, 886, 887, 77, 1271, 92, 93, 94, 95, 96, 97, 98, 99, 71, 315, 316, 226, 317, 187, 188, 74, 318] (by decide +kernel) (by decide +kernel) w h).1
set_option maxRecDepth 100000 in
theorem wsL_law_r2_in : ∀ w ∈ wsL_law_r2, w ∈ lw_tbl := fun w h => (goodIn_r wsL_law_r2 [227, 228, 75, 319, 276, 277, 76, 320, 100, 101, 102, 103, 104, 138, 132, 140, 145, 146, 149, 150, 106, 72, 135, 137] (by decide +kernel) (by decide +kernel) w h).1
set_option maxRecDepth 100000 in
theorem wsL_law_r3_in : ∀ w ∈ wsL_law_r3, w ∈ lw_tbl := fun w h => (goodIn_r wsL_law_r3 [136, 73, 107, 108, 109, 110, 111, 115, 119, 121, 190, 191, 192, 193, 197, 199, 148, 200, 194, 230, 231, 232, 241, 275] (by decide +kernel) (by decide +kernel) w h).1
set_option maxRecDepth 100000 in
theorem wsL_law_r4_in : ∀ w ∈ wsL_law_r4, w ∈ lw_tbl := fun w h => (goodIn_r wsL_law_r4 [245, 246, 247, 248, 249, 279, 280, 281, 288, 290, 291, 292, 293, 888, 889, 890, 891, 892, 893, 894, 895, 896, 901, 906] (by decide +kernel) (by decide +kernel) w h).1
set_option maxRecDepth 100000 in
theorem wsL_law_r5_in : ∀ w ∈ wsL_law_r5, w ∈ lw_tbl := fun w h => (goodIn_r wsL_law_r5 [910, 911, 912, 913, 914, 915, 916, 343, 344, 345, 346, 153, 347, 348, 349, 350, 351, 353, 355, 0, 356, 321, 357, 359] (by decide +kernel) (by decide +kernel) w h).1
set_option maxRecDepth 100000 in
theorem wsL_law_r6_in : ∀ w ∈ wsL_law_r6, w ∈ lw_tbl := fun w h => (goodIn_r wsL_law_r6 [1, 360, 323, 361, 363, 2, 364, 234, 285, 365, 366, 367, 368, 369, 78, 379, 380, 79, 390, 391, 80, 401, 402, 81] (by decide +kernel) (by decide +kernel) w h).1
set_option maxRecDepth 100000 in
theorem wsL_law_r7_in : ∀ w ∈ wsL_law_r7, w ∈ lw_tbl := fun w h => (goodIn_r wsL_law_r7 [412, 413, 82, 423, 370, 371, 372, 373, 381, 382, 383, 384, 392, 393, 394, 395, 403, 404, 405, 406, 414, 415, 416, 417] (by decide +kernel) (by decide +kernel) w h).1
set_option maxRecDepth 100000 in
theorem wsL_law_r8_in : ∀ w ∈ wsL_law_r8, w ∈ lw_tbl := fun w h => (goodIn_r wsL_law_r8 [424, 425, 426, 427, 428, 155, 968, 969, 970, 971, 972, 973, 974, 975, 979, 980, 981, 976, 977, 978, 982, 984, 27, 985] (by decide +kernel) (by decide +kernel) w h).1
set_option maxRecDepth 100000 in
theorem wsL_law_r9_in : ∀ w ∈ wsL_law_r9, w ∈ lw_tbl := fun w h => (goodIn_r wsL_law_r9 [986, 988, 28, 989, 990, 992, 29, 993, 429, 430, 431, 432, 433, 141, 994, 995, 996, 997, 998, 999, 1000, 1001, 1002, 1004] (by decide +kernel) (by decide +kernel) w h).1
set_option maxRecDepth 100000 in
theorem wsL_law_r10_in : ∀ w ∈ wsL_law_r10, w ∈ lw_tbl := fun w h => (goodIn_r wsL_law_r10 [30, 1005, 435, 436, 437, 438, 139, 439, 440, 441, 442, 443, 444, 445, 446, 447, 448, 449, 450, 453, 451, 454, 455, 456] (by decide +kernel) (by decide +kernel) w h).1
set_option maxRecDepth 100000 in
theorem wsL_law_r11_in : ∀ w ∈ wsL_law_r11, w ∈ lw_tbl := fun w h => (goodIn_r wsL_law_r11 [112, 113, 461, 457, 451, 458, 459, 450, 452, 460, 462, 465, 466, 463, 473, 467, 468, 463, 469, 470, 471, 116, 117, 462] (by decide +kernel) (by decide +kernel) w h).1
set_option maxRecDepth 100000 in
theorem wsL_law_r12_in : ∀ w ∈ wsL_law_r12, w ∈ lw_tbl := fun w h => (goodIn_r wsL_law_r12 [464, 472, 1006, 1007, 1008, 1009, 1014, 1010, 1012, 31, 1013, 1015, 1017, 32, 1018, 1019, 1021, 33, 1022, 1023, 1025, 34, 1026, 474] (by decide +kernel) (by decide +kernel) w h).1
set_option maxRecDepth 100000 in
theorem wsL_law_r13_in : ∀ w ∈ wsL_law_r13, w ∈ lw_tbl := fun w h => (goodIn_r wsL_law_r13 [475, 476, 477, 478, 479, 480, 481, 482, 483, 484, 485, 486, 487, 488, 489, 490, 491, 83, 492, 493, 494, 495, 496, 497] (by decide +kernel) (by decide +kernel) w h).1
set_option maxRecDepth 100000 in
theorem wsL_law_r14_in : ∀ w ∈ wsL_law_r14, w ∈ lw_tbl := fun w h => (goodIn_r wsL_law_r14 [498, 499, 501, 502, 503, 506, 504, 507, 508, 509, 517, 510, 504, 511, 512, 503, 505, 513, 514, 515, 518, 520, 3, 521] (by decide +kernel) (by decide +kernel) w h).1
set_option maxRecDepth 100000 in
theorem wsL_law_r15_in : ∀ w ∈ wsL_law_r15, w ∈ lw_tbl := fun w h => (goodIn_r wsL_law_r15 [523, 524, 84, 525, 522, 526, 527, 528, 529, 530, 533, 534, 531, 541, 531, 535, 536, 537, 538, 539, 530, 532, 540, 542] (by decide +kernel) (by decide +kernel) w h).1
set_option maxRecDepth 100000 in
theorem wsL_law_r16_in : ∀ w ∈ wsL_law_r16, w ∈ lw_tbl := fun w h => (goodIn_r wsL_law_r16 [543, 544, 545, 547, 548, 549, 546, 546, 1027, 1028, 1029, 1030, 1031, 1033, 35, 1034, 1035, 1037, 36, 1038, 1039, 1041, 37, 1042] (by decide +kernel) (by decide +kernel) w h).1
set_option maxRecDepth 100000 in
theorem wsL_law_r17_in : ∀ w ∈ wsL_law_r17, w ∈ lw_tbl := fun w h => (goodIn_r wsL_law_r17 [1043, 1044, 1045, 1046, 1048, 38, 1049, 1050, 1052, 39, 1053, 1054, 1055, 1056, 1057, 1059, 40, 1060, 1061, 1063, 41, 1064, 550, 551] (by decide +kernel) (by decide +kernel) w h).1
set_option maxRecDepth 100000 in
theorem wsL_law_r18_in : ∀ w ∈ wsL_law_r18, w ∈ lw_tbl := fun w h => (goodIn_r wsL_law_r18 [552, 553, 161, 554, 555, 556, 557, 160, 1065, 1066, 1067, 1068, 1069, 1074, 1070, 1072, 42, 1073, 558, 559, 560, 561, 1075, 1076] (by decide +kernel) (by decide +kernel) w h).1
set_option maxRecDepth 100000 in
theorem wsL_law_r19_in : ∀ w ∈ wsL_law_r19, w ∈ lw_tbl := fun w h => (goodIn_r wsL_law_r19 [1077, 1078, 562, 563, 564, 565, 198, 158, 566, 567, 568, 569, 159, 570, 571, 572, 201, 202, 206, 203, 204, 573, 574, 575] (by decide +kernel) (by decide +kernel) w h).1
set_option maxRecDepth 100000 in
theorem wsL_law_r20_in : ∀ w ∈ wsL_law_r20, w ∈ lw_tbl := fun w h => (goodIn_r wsL_law_r20 [576, 156, 577, 579, 4, 580, 581, 582, 583, 584, 585, 586, 587, 589, 5, 590, 205, 591, 593, 6, 594, 595, 596, 597] (by decide +kernel) (by decide +kernel) w h).1
set_option maxRecDepth 100000 in
theorem wsL_law_r21_in : ∀ w ∈ wsL_law_r21, w ∈ lw_tbl := fun w h => (goodIn_r wsL_law_r21 [604, 606, 7, 607, 608, 609, 610, 85, 611, 1277, 612, 613, 614, 615, 616, 1278, 618, 619, 620, 621, 622, 623, 624, 625] (by decide +kernel) (by decide +kernel) w h).1
set_option maxRecDepth 100000 in
theorem wsL_law_r22_in : ∀ w ∈ wsL_law_r22, w ∈ lw_tbl := fun w h => (goodIn_r wsL_law_r22 [626, 627, 86, 628, 629, 630, 631, 632, 634, 635, 87, 636, 637, 638, 88, 639, 640, 641, 642, 643, 644, 645, 646, 647] (by decide +kernel) (by decide +kernel) w h).1
set_option maxRecDepth 100000 in
theorem wsL_law_r23_in : ∀ w ∈ wsL_law_r23, w ∈ lw_tbl := fun w h => (goodIn_r wsL_law_r23 [648, 649, 650, 652, 654, 656, 658, 8, 659, 154, 661, 663, 9, 664, 666, 667, 669, 10, 670, 157, 671, 672, 673, 674] (by decide +kernel) (by decide +kernel) w h).1
set_option maxRecDepth 100000 in
theorem wsL_law_r24_in : ∀ w ∈ wsL_law_r24, w ∈ lw_tbl := fun w h => (goodIn_r wsL_law_r24 [675, 677, 11, 678, 144, 680, 681, 682, 683, 1079, 1080, 1081, 1082, 902, 903, 899, 897, 1083, 1085, 43, 1086, 898, 900, 1087] (by decide +kernel) (by decide +kernel) w h).1
set_option maxRecDepth 100000 in
theorem wsL_law_r25_in : ∀ w ∈ wsL_law_r25, w ∈ lw_tbl := fun w h => (goodIn_r wsL_law_r25 [1089, 44, 1090, 1091, 1092, 1093, 1094, 1095, 1096, 1097, 1098, 1099, 1100, 1101, 1103, 45, 1104, 1105, 1107, 46, 1108, 1109, 1111, 47] (by decide +kernel) (by decide +kernel) w h).1
set_option maxRecDepth 100000 in
theorem wsL_law_r26_in : ∀ w ∈ wsL_law_r26, w ∈ lw_tbl := fun w h => (goodIn_r wsL_law_r26 [1112, 904, 1113, 1115, 48, 1116, 1117, 1119, 49, 1120, 1121, 1123, 50, 1124, 1125, 1127, 51, 1128, 685, 686, 687, 688, 689, 690] (by decide +kernel) (by decide +kernel) w h).1
set_option maxRecDepth 100000 in
theorem wsL_law_r27_in : ∀ w ∈ wsL_law_r27, w ∈ lw_tbl := fun w h => (goodIn_r wsL_law_r27 [691, 692, 693, 695, 12, 696, 698, 699, 700, 701, 1129, 1130, 1131, 1132, 1133, 1135, 52, 1136, 905, 702, 703, 704, 705, 147] (by decide +kernel) (by decide +kernel) w h).1
set_option maxRecDepth 100000 in
theorem wsL_law_r28_in : ∀ w ∈ wsL_law_r28, w ∈ lw_tbl := fun w h => (goodIn_r wsL_law_r28 [1137, 1138, 1139, 1140, 706, 707, 708, 709, 236, 238, 240, 710, 711, 712, 713, 233, 243, 244, 237, 239, 235, 715, 716, 717] (by decide +kernel) (by decide +kernel) w h).1
set_option maxRecDepth 100000 in
theorem wsL_law_r29_in : ∀ w ∈ wsL_law_r29, w ∈ lw_tbl := fun w h => (goodIn_r wsL_law_r29 [718, 719, 120, 720, 722, 13, 723, 142, 724, 725, 89, 726, 727, 728, 729, 731, 732, 733, 735, 734, 737, 739, 14, 740] (by decide +kernel) (by decide +kernel) w h).1
set_option maxRecDepth 100000 in
theorem wsL_law_r30_in : ∀ w ∈ wsL_law_r30, w ∈ lw_tbl := fun w h => (goodIn_r wsL_law_r30 [741, 743, 15, 744, 746, 747, 748, 750, 16, 751, 752, 754, 17, 755, 756, 758, 18, 759, 770, 760, 762, 19, 763, 764] (by decide +kernel) (by decide +kernel) w h).1
set_option maxRecDepth 100000 in
theorem wsL_law_r31_in : ∀ w ∈ wsL_law_r31, w ∈ lw_tbl := fun w h => (goodIn_r wsL_law_r31 [766, 768, 20, 769, 771, 773, 21, 774, 775, 777, 22, 778, 1141, 1142, 1143, 1144, 1149, 908, 909, 1145, 1147, 53, 1148, 1150] (by decide +kernel) (by decide +kernel) w h).1
set_option maxRecDepth 100000 in
theorem wsL_law_r32_in : ∀ w ∈ wsL_law_r32, w ∈ lw_tbl := fun w h => (goodIn_r wsL_law_r32 [1152, 54, 1153, 907, 1169, 1154, 1156, 55, 1157, 1158, 1159, 1160, 1161, 1163, 56, 1164, 1165, 1167, 57, 1168, 1170, 1172, 58, 1173] (by decide +kernel) (by decide +kernel) w h).1
set_option maxRecDepth 100000 in
theorem wsL_law_r33_in : ∀ w ∈ wsL_law_r33, w ∈ lw_tbl := fun w h => (goodIn_r wsL_law_r33 [1174, 1176, 59, 1177, 1178, 1180, 60, 1181, 1182, 1184, 61, 1185, 1186, 1188, 62, 1189, 779, 780, 781, 782, 242, 1190, 1191, 1192] (by decide +kernel) (by decide +kernel) w h).1
set_option maxRecDepth 100000 in
theorem wsL_law_r34_in : ∀ w ∈ wsL_law_r34, w ∈ lw_tbl := fun w h => (goodIn_r wsL_law_r34 [1193, 783, 784, 785, 786, 322, 1194, 1195, 1196, 1197, 1198, 1200, 63, 1201, 787, 788, 789, 790, 791, 792, 793, 794, 1202, 1203] (by decide +kernel) (by decide +kernel) w h).1
set_option maxRecDepth 100000 in
theorem wsL_law_r35_in : ∀ w ∈ wsL_law_r35, w ∈ lw_tbl := fun w h => (goodIn_r wsL_law_r35 [1204, 1205, 1206, 1208, 64, 1209, 797, 798, 799, 800, 164, 801, 802, 803, 804, 162, 1210, 1211, 1212, 1213, 1214, 805, 806, 807] (by decide +kernel) (by decide +kernel) w h).1
set_option maxRecDepth 100000 in
theorem wsL_law_r36_in : ∀ w ∈ wsL_law_r36, w ∈ lw_tbl := fun w h => (goodIn_r wsL_law_r36 [808, 1215, 1216, 1217, 1218, 809, 810, 811, 812, 287, 289, 813, 814, 815, 816, 284, 152, 286, 817, 818, 820, 23, 821, 294] (by decide +kernel) (by decide +kernel) w h).1
set_option maxRecDepth 100000 in
theorem wsL_law_r37_in : ∀ w ∈ wsL_law_r37, w ∈ lw_tbl := fun w h => (goodIn_r wsL_law_r37 [295, 822, 823, 824, 826, 24, 827, 163, 143, 828, 830, 25, 831, 832, 833, 835, 837, 26, 838, 151, 1219, 1220, 1221, 1222] (by decide +kernel) (by decide +kernel) w h).1
set_option maxRecDepth 100000 in
theorem wsL_law_r38_in : ∀ w ∈ wsL_law_r38, w ∈ lw_tbl := fun w h => (goodIn_r wsL_law_r38 [1223, 1224, 1226, 65, 1227, 1228, 1230, 66, 1231, 839, 840, 841, 842, 843, 1232, 1233, 1234, 1235, 844, 845, 846, 847, 848, 849] (by decide +kernel) (by decide +kernel) w h).1
set_option maxRecDepth 100000 in
theorem wsL_law_r39_in : ∀ w ∈ wsL_law_r39, w ∈ lw_tbl := fun w h => (goodIn_r wsL_law_r39 [850, 851, 1236, 1237, 1238, 1239, 1240, 852, 853, 854, 855, 856, 857, 858, 859, 860, 1241, 1242, 1243, 1244, 861, 862, 863, 864] (by decide +kernel) (by decide +kernel) w h).1
set_option maxRecDepth 100000 in
theorem wsL_law_r40_in : ∀ w ∈ wsL_law_r40, w ∈ lw_tbl := fun w h => (goodIn_r wsL_law_r40 [1245, 1246, 1247, 1248, 865, 866, 867, 868, 1249, 1250, 1251, 1252, 869, 870, 871, 872, 1253, 1254, 1255, 1256, 1257, 1259, 67, 1260] (by decide +kernel) (by decide +kernel) w h).1
set_option maxRecDepth 100000 in
theorem wsL_law_r41_in : ∀ w ∈ wsL_law_r41, w ∈ lw_tbl := fun w h => (goodIn_r wsL_law_r41 [873, 874, 875, 876, 877, 878, 879, 880, 881, 882, 114, 118, 122, 883, 884, 885, 1261, 1262, 1263, 1264, 1265, 1266, 1267, 1269] (by decide +kernel) (by decide +kernel) w h).1
set_option maxRecDepth 100000 in
theorem wsL_law_r42_in : ∀ w ∈ wsL_law_r42, w ∈ lw_tbl := fun w h => (goodIn_r wsL_law_r42 [68, 1270] (by decide +kernel) (by decide +kernel) w h).1
set_option maxRecDepth 100000 in
theorem wsX100_tb : ∀ w ∈ wsX100, w ∈ lw_tbl := by decide +kernel
set_option maxRecDepth 100000 in
theorem wsX110_tb : ∀ w ∈ wsX110, w ∈ lw_tbl := by decide +kernel
set_option maxRecDepth 100000 in
theorem wsX10_tb : ∀ w ∈ wsX10, w ∈ lw_tbl := by decide +kernel
set_option maxRecDepth 100000 in
theorem wsX80_tb : ∀ w ∈ wsX80, w ∈ lw_tbl := by decide +kernel
set_option maxRecDepth 100000 in
theorem wsX70_tb : ∀ w ∈ wsX70, w ∈ lw_tbl := by decide +kernel
set_option maxRecDepth 100000 in
theorem wsX50_tb : ∀ w ∈ wsX50, w ∈ lw_tbl := by decide +kernel
set_option maxRecDepth 100000 in
theorem wsX60_tb : ∀ w ∈ wsX60, w ∈ lw_tbl := by decide +kernel
set_option maxRecDepth 100000 in
theorem wsX00_tb : ∀ w ∈ wsX00, w ∈ lw_tbl := by decide +kernel
set_option maxRecDepth 100000 in
theorem wsX20_tb : ∀ w ∈ wsX20, w ∈ lw_tbl := by decide +kernel
set_option maxRecDepth 100000 in
theorem wsX30_tb : ∀ w ∈ wsX30, w ∈ lw_tbl := by decide +kernel
set_option maxRecDepth 100000 in
theorem wsX40_tb : ∀ w ∈ wsX40, w ∈ lw_tbl := by decide +kernel
set_option maxRecDepth 100000 in
theorem wsX90_tb : ∀ w ∈ wsX90, w ∈ lw_tbl := by decide +kernel
theorem wsL_law_in : ∀ w ∈ wsL_law, w ∈ lw_tbl := by
  unfold wsL_law
  exact List.forall_mem_append.mpr ⟨List.forall_mem_append.mpr ⟨List.forall_mem_append.mpr ⟨List.forall_mem_append.mpr ⟨List.forall_mem_append.mpr ⟨List.forall_mem_append.mpr ⟨List.forall_mem_append.mpr ⟨List.forall_mem_append.mpr ⟨List.forall_mem_append.mpr ⟨List.forall_mem_append.mpr ⟨List.forall_mem_append.mpr ⟨List.forall_mem_append.mpr ⟨List.forall_mem_append.mpr ⟨List.forall_mem_append.mpr ⟨wsL_law_r1_in, List.forall_mem_append.mpr ⟨wsL_law_r2_in, List.forall_mem_append.mpr ⟨wsL_law_r3_in, List.forall_mem_append.mpr ⟨wsL_law_r4_in, List.forall_mem_append.mpr ⟨wsL_law_r5_in, List.forall_mem_append.mpr ⟨wsL_law_r6_in, List.forall_mem_append.mpr ⟨wsL_law_r7_in, List.forall_mem_append.mpr ⟨wsL_law_r8_in, List.forall_mem_append.mpr ⟨wsL_law_r9_in, List.forall_mem_append.mpr ⟨wsL_law_r10_in, List.forall_mem_append.mpr ⟨wsL_law_r11_in, List.forall_mem_append.mpr ⟨wsL_law_r12_in, List.forall_mem_append.mpr ⟨wsL_law_r13_in, List.forall_mem_append.mpr ⟨wsL_law_r14_in, List.forall_mem_append.mpr ⟨wsL_law_r15_in, List.forall_mem_append.mpr ⟨wsL_law_r16_in, List.forall_mem_append.mpr ⟨wsL_law_r17_in, List.forall_mem_append.mpr ⟨wsL_law_r18_in, List.forall_mem_append.mpr ⟨wsL_law_r19_in, List.forall_mem_append.mpr ⟨wsL_law_r20_in, List.forall_mem_append.mpr ⟨wsL_law_r21_in, List.forall_mem_append.mpr ⟨wsL_law_r22_in, List.forall_mem_append.mpr ⟨wsL_law_r23_in, List.forall_mem_append.mpr ⟨wsL_law_r24_in, List.forall_mem_append.mpr ⟨wsL_law_r25_in, List.forall_mem_append.mpr ⟨wsL_law_r26_in, List.forall_mem_append.mpr ⟨wsL_law_r27_in, List.forall_mem_append.mpr ⟨wsL_law_r28_in, List.forall_mem_append.mpr ⟨wsL_law_r29_in, List.forall_mem_append.mpr ⟨wsL_law_r30_in, List.forall_mem_append.mpr ⟨wsL_law_r31_in, List.forall_mem_append.mpr ⟨wsL_law_r32_in, List.forall_mem_append.mpr ⟨wsL_law_r33_in, List.forall_mem_append.mpr ⟨wsL_law_r34_in, List.forall_mem_append.mpr ⟨wsL_law_r35_in, List.forall_mem_append.mpr ⟨wsL_law_r36_in, List.forall_mem_append.mpr ⟨wsL_law_r37_in, List.forall_mem_append.mpr ⟨wsL_law_r38_in, List.forall_mem_append.mpr ⟨wsL_law_r39_in, List.forall_mem_append.mpr ⟨wsL_law_r40_in, List.forall_mem_append.mpr ⟨wsL_law_r41_in, wsL_law_r42_in⟩⟩⟩⟩⟩⟩⟩⟩⟩⟩⟩⟩⟩⟩⟩⟩⟩⟩⟩⟩⟩⟩⟩⟩⟩⟩⟩⟩⟩⟩⟩⟩⟩⟩⟩⟩⟩⟩⟩⟩⟩, wsX100_tb⟩, wsX110_tb⟩, wsX10_tb⟩, wsX80_tb⟩, wsX70_tb⟩, wsX50_tb⟩, wsX60_tb⟩, wsX00_tb⟩, wsX20_tb⟩, wsX30_tb⟩, wsX40_tb⟩, wsX90_tb⟩, fun _ h => absurd h List.not_mem_nil⟩
