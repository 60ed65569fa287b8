/-! The words are the tables' words. -/
theorem pos_in {T L : List Cond} (ps : List Nat) (h : ps.map (fun i => T[i]?) = L.map some) : ∀ w ∈ L, w ∈ T := by
  intro w hw
  obtain ⟨k, hk, e⟩ := List.mem_iff_getElem.mp hw
  have h1 : (ps.map (fun i => T[i]?))[k]? = some (some w) := by rw [h, List.getElem?_map, List.getElem?_eq_getElem hk, e]; rfl
  rw [List.getElem?_map] at h1
  cases hp : ps[k]? with
  | none => rw [hp] at h1; cases h1
  | some i => rw [hp] at h1; exact List.mem_of_getElem? (Option.some.inj h1)
theorem ix_1 : ∀ w ∈ wsL_law0_r1, w ∈ lw_tbl := pos_in [104, 105, 82, 911, 912, 88, 1287, 106, 107, 108, 109, 110, 111, 112, 113, 83, 214, 129, 130, 84, 215, 142, 143, 85] (by decide +kernel)
theorem ix_2 : ∀ w ∈ wsL_law0_r2, w ∈ lw_tbl := pos_in [216, 170, 171, 86, 217, 183, 184, 87, 218, 115, 116, 117, 128, 118, 119, 120, 132, 133, 134, 135, 136, 145, 146, 147] (by decide +kernel)
theorem ix_3 : ∀ w ∈ wsL_law0_r3, w ∈ lw_tbl := pos_in [148, 149, 150, 151, 152, 153, 154, 173, 174, 175, 176, 177, 186, 187, 188, 189, 190, 191, 192, 193, 194, 195, 196, 913] (by decide +kernel)
theorem ix_4 : ∀ w ∈ wsL_law0_r4, w ∈ lw_tbl := pos_in [914, 915, 916, 918, 919, 921, 923, 926, 917, 606, 607, 81, 608, 609, 610, 611, 612, 613, 614, 618, 92, 686, 93, 615] (by decide +kernel)
theorem ix_5 : ∀ w ∈ wsL_law0_r5, w ∈ lw_tbl := pos_in [616, 617, 434, 248, 249, 250, 251, 252, 253, 254, 234, 235, 236, 237, 238, 240, 239, 94, 702, 703, 704, 705, 439, 291] (by decide +kernel)
theorem ix_6 : ∀ w ∈ wsL_law0_r6, w ∈ lw_tbl := pos_in [292, 293, 294, 958, 959, 960, 961, 962, 963, 964, 965, 967, 30, 968, 969, 971, 31, 972, 920, 973, 975, 32, 976, 954] (by decide +kernel)
theorem ix_7 : ∀ w ∈ wsL_law0_r7, w ∈ lw_tbl := pos_in [955, 956, 957, 706, 707, 708, 709, 710, 711, 712, 713, 714, 716, 25, 717, 718, 95, 734, 736, 26, 737, 311, 313, 0] (by decide +kernel)
theorem ix_8 : ∀ w ∈ wsL_law0_r8, w ∈ lw_tbl := pos_in [314, 315, 316, 317, 318, 319, 321, 1, 322, 299, 300, 301, 302, 323, 324, 325, 326, 327, 328, 329, 330, 331, 333, 2] (by decide +kernel)
theorem ix_9 : ∀ w ∈ wsL_law0_r9, w ∈ lw_tbl := pos_in [334, 335, 337, 3, 338, 339, 341, 4, 342, 343, 345, 5, 346, 347, 349, 6, 350, 351, 353, 7, 354, 355, 738, 739] (by decide +kernel)
theorem ix_10 : ∀ w ∈ wsL_law0_r10, w ∈ lw_tbl := pos_in [740, 741, 743, 745, 27, 746, 747, 749, 28, 750, 483, 401, 402, 403, 751, 752, 753, 754, 755, 267, 268, 269, 482, 756] (by decide +kernel)
theorem ix_11 : ∀ w ∈ wsL_law0_r11, w ∈ lw_tbl := pos_in [271, 272, 273, 492, 490, 491, 757, 758, 759, 760, 761, 762, 763, 764, 765, 766, 767, 768, 769, 770, 771, 772, 773, 303] (by decide +kernel)
theorem ix_12 : ∀ w ∈ wsL_law0_r12, w ∈ lw_tbl := pos_in [304, 305, 306, 977, 978, 979, 980, 925, 922, 927, 981, 983, 33, 984, 985, 987, 34, 988, 924, 989, 991, 35, 992, 993] (by decide +kernel)
theorem ix_13 : ∀ w ∈ wsL_law0_r13, w ∈ lw_tbl := pos_in [995, 36, 996, 997, 999, 37, 1000, 1001, 1003, 38, 1004, 1005, 1007, 39, 1008, 1009, 1011, 40, 1012, 1013, 1015, 41, 1016, 1017] (by decide +kernel)
theorem ix_14 : ∀ w ∈ wsL_law0_r14, w ∈ lw_tbl := pos_in [1019, 42, 1020, 1021, 1023, 43, 1024, 1025, 1026, 1027, 1028, 1030, 44, 1031, 1032, 1034, 45, 1035, 774, 775, 776, 777, 778, 779] (by decide +kernel)
theorem ix_15 : ∀ w ∈ wsL_law0_r15, w ∈ lw_tbl := pos_in [780, 497, 372, 373, 374, 1036, 1037, 1038, 1039, 1040, 1042, 46, 1043, 782, 783, 784, 785, 786, 787, 788, 789, 791, 29, 792] (by decide +kernel)
theorem ix_16 : ∀ w ∈ wsL_law0_r16, w ∈ lw_tbl := pos_in [1044, 1045, 1046, 1047, 1048, 1050, 47, 1051, 1052, 1054, 48, 1055, 794, 795, 796, 797, 798, 799, 800, 506, 259, 96, 260, 261] (by decide +kernel)
theorem ix_17 : ∀ w ∈ wsL_law0_r17, w ∈ lw_tbl := pos_in [262, 263, 264, 265, 266, 270, 802, 288, 289, 290, 803, 804, 805, 806, 807, 1056, 1057, 1058, 1059, 1060, 1062, 49, 1063, 1064] (by decide +kernel)
theorem ix_18 : ∀ w ∈ wsL_law0_r18, w ∈ lw_tbl := pos_in [1066, 50, 1067, 1068, 1070, 51, 1071, 1072, 1074, 52, 1075, 808, 809, 810, 811, 812, 813, 814, 816, 817, 818, 819, 1076, 1077] (by decide +kernel)
theorem ix_19 : ∀ w ∈ wsL_law0_r19, w ∈ lw_tbl := pos_in [1078, 1079, 230, 231, 232, 233, 241, 242, 243, 244, 245, 246, 247, 255, 256, 257, 258, 274, 275, 98, 276, 277, 278, 279] (by decide +kernel)
theorem ix_20 : ∀ w ∈ wsL_law0_r20, w ∈ lw_tbl := pos_in [281, 282, 283, 284, 285, 286, 287, 1080, 1081, 1082, 1083, 1084, 1086, 53, 1087, 1088, 1090, 54, 1091, 1092, 1093, 1094, 1095, 1096] (by decide +kernel)
theorem ix_21 : ∀ w ∈ wsL_law0_r21, w ∈ lw_tbl := pos_in [1097, 1098, 1100, 55, 1101, 820, 821, 822, 823, 824, 825, 826, 829, 830, 831, 832, 1102, 1103, 1104, 1105, 295, 296, 297, 298] (by decide +kernel)
theorem ix_22 : ∀ w ∈ wsL_law0_r22, w ∈ lw_tbl := pos_in [1106, 1107, 1108, 1109, 307, 308, 309, 310, 1110, 1111, 1112, 1113, 833, 834, 835, 836, 837, 838, 839, 465, 466, 467, 468, 841] (by decide +kernel)
theorem ix_23 : ∀ w ∈ wsL_law0_r23, w ∈ lw_tbl := pos_in [842, 843, 844, 1114, 1115, 1116, 1117, 845, 846, 847, 848, 849, 850, 851, 852, 853, 854, 478, 480, 11, 481, 484, 485, 486] (by decide +kernel)
theorem ix_24 : ∀ w ∈ wsL_law0_r24, w ∈ lw_tbl := pos_in [487, 99, 488, 400, 489, 371, 1118, 1119, 1120, 1121, 1122, 1124, 56, 1125, 1126, 1128, 57, 1129, 856, 857, 858, 859, 860, 861] (by decide +kernel)
theorem ix_25 : ∀ w ∈ wsL_law0_r25, w ∈ lw_tbl := pos_in [862, 493, 495, 12, 496, 498, 408, 100, 409, 410, 411, 412, 413, 414, 415, 416, 417, 418, 419, 420, 499, 461, 462, 463] (by decide +kernel)
theorem ix_26 : ∀ w ∈ wsL_law0_r26, w ∈ lw_tbl := pos_in [500, 445, 446, 447, 501, 452, 453, 367, 363, 364, 365, 366, 454, 455, 456, 1130, 1131, 1132, 1133, 1134, 1136, 58, 1137, 1138] (by decide +kernel)
theorem ix_27 : ∀ w ∈ wsL_law0_r27, w ∈ lw_tbl := pos_in [1140, 59, 1141, 1142, 1143, 1144, 1145, 1146, 1147, 1148, 1150, 60, 1151, 1152, 1154, 61, 1155, 1156, 1158, 62, 1159, 1160, 1162, 63] (by decide +kernel)
theorem ix_28 : ∀ w ∈ wsL_law0_r28, w ∈ lw_tbl := pos_in [1163, 863, 864, 865, 866, 867, 868, 869, 529, 530, 531, 460, 368, 369, 370, 375, 376, 101, 377, 1164, 1165, 1166, 1167, 1168] (by decide +kernel)
theorem ix_29 : ∀ w ∈ wsL_law0_r29, w ∈ lw_tbl := pos_in [1170, 64, 1171, 870, 871, 872, 873, 874, 875, 876, 511, 512, 513, 514, 515, 516, 518, 15, 519, 520, 521, 522, 523, 524] (by decide +kernel)
theorem ix_30 : ∀ w ∈ wsL_law0_r30, w ∈ lw_tbl := pos_in [525, 527, 16, 528, 878, 879, 880, 881, 882, 537, 538, 539, 540, 1172, 1173, 1174, 1175, 1176, 1178, 65, 1179, 1180, 1182, 66] (by decide +kernel)
theorem ix_31 : ∀ w ∈ wsL_law0_r31, w ∈ lw_tbl := pos_in [1183, 883, 884, 885, 886, 887, 888, 889, 441, 442, 443, 444, 1184, 1185, 1186, 1187, 1188, 1190, 67, 1191, 890, 891, 892, 893] (by decide +kernel)
theorem ix_32 : ∀ w ∈ wsL_law0_r32, w ∈ lw_tbl := pos_in [894, 895, 896, 430, 432, 9, 433, 435, 436, 437, 438, 440, 397, 398, 399, 448, 449, 450, 451, 457, 458, 459, 464, 469] (by decide +kernel)
theorem ix_33 : ∀ w ∈ wsL_law0_r33, w ∈ lw_tbl := pos_in [405, 406, 407, 1192, 1193, 1194, 1195, 1196, 1198, 68, 1199, 1200, 1202, 69, 1203, 1204, 1206, 70, 1207, 1208, 1210, 71, 1211, 897] (by decide +kernel)
theorem ix_34 : ∀ w ∈ wsL_law0_r34, w ∈ lw_tbl := pos_in [898, 899, 900, 901, 902, 903, 1212, 1213, 1214, 1215, 904, 905, 906, 907, 908, 909, 910, 549, 550, 551, 552, 554, 555, 556] (by decide +kernel)
theorem ix_35 : ∀ w ∈ wsL_law0_r35, w ∈ lw_tbl := pos_in [553, 557, 559, 19, 560, 564, 565, 566, 561, 562, 563, 567, 569, 20, 570, 571, 572, 102, 573, 574, 576, 21, 577, 578] (by decide +kernel)
theorem ix_36 : ∀ w ∈ wsL_law0_r36, w ∈ lw_tbl := pos_in [580, 582, 22, 583, 584, 585, 586, 587, 588, 589, 590, 591, 592, 593, 594, 595, 1216, 1217, 1218, 1219, 1220, 1222, 72, 1223] (by decide +kernel)
theorem ix_37 : ∀ w ∈ wsL_law0_r37, w ∈ lw_tbl := pos_in [1224, 1226, 73, 1227, 1228, 1230, 74, 1231, 356, 357, 358, 359, 360, 361, 362, 1232, 1233, 1234, 1235, 1236, 1238, 75, 1239, 1240] (by decide +kernel)
theorem ix_38 : ∀ w ∈ wsL_law0_r38, w ∈ lw_tbl := pos_in [1241, 1242, 378, 379, 380, 381, 382, 383, 384, 385, 386, 387, 388, 1243, 1244, 1245, 1246, 1247, 1249, 76, 1250, 389, 390, 391] (by decide +kernel)
theorem ix_39 : ∀ w ∈ wsL_law0_r39, w ∈ lw_tbl := pos_in [392, 393, 394, 395, 396, 404, 1251, 1252, 1253, 1254, 1255, 1257, 77, 1258, 421, 422, 423, 424, 425, 426, 428, 8, 429, 470] (by decide +kernel)
theorem ix_40 : ∀ w ∈ wsL_law0_r40, w ∈ lw_tbl := pos_in [471, 472, 473, 474, 476, 10, 477, 502, 504, 13, 505, 507, 509, 14, 510, 532, 533, 534, 535, 536, 541, 543, 17, 544] (by decide +kernel)
theorem ix_41 : ∀ w ∈ wsL_law0_r41, w ∈ lw_tbl := pos_in [545, 547, 18, 548, 596, 597, 598, 599, 600, 601, 602, 604, 23, 605, 1259, 1260, 1261, 1262, 1263, 928, 1264, 1266, 78, 1267] (by decide +kernel)
theorem ix_42 : ∀ w ∈ wsL_law0_r42, w ∈ lw_tbl := pos_in [1268, 1269, 1271, 79, 1272, 1273, 1275, 80, 1276, 1277, 1278, 103, 1279, 1283, 1285, 1284, 103, 1286, 1280, 1281, 1282] (by decide +kernel)
theorem iy_8 : ∀ w ∈ wsX80, w ∈ lw_tbl := by decide +kernel
theorem iy_9 : ∀ w ∈ wsX90, w ∈ lw_tbl := by decide +kernel
theorem iy_0 : ∀ w ∈ wsX00, w ∈ lw_tbl := by decide +kernel
theorem iy_1 : ∀ w ∈ wsX10, w ∈ lw_tbl := by decide +kernel
theorem iy_6 : ∀ w ∈ wsX60, w ∈ lw_tbl := by decide +kernel
theorem iy_4 : ∀ w ∈ wsX40, w ∈ lw_tbl := by decide +kernel
theorem iy_5 : ∀ w ∈ wsX50, w ∈ lw_tbl := by decide +kernel
