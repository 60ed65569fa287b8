/-! The words are the tables' words. -/
theorem pos_in {T L : List Cond} (ps : List Nat) (h : ps.map (fun i => T[i]?) = L.map some) : ∀ w ∈ L, w ∈ T := by
  intro w hw
  obtain ⟨k, hk, e⟩ := List.mem_iff_getElem.mp hw
  have h1 : (ps.map (fun i => T[i]?))[k]? = some (some w) := by rw [h, List.getElem?_map, List.getElem?_eq_getElem hk, e]; rfl
  rw [List.getElem?_map] at h1
  cases hp : ps[k]? with
  | none => rw [hp] at h1; cases h1
  | some i => rw [hp] at h1; exact List.mem_of_getElem? (Option.some.inj h1)
theorem ix_1 : ∀ w ∈ wsL_law0_r1, w ∈ lw_tbl := pos_in [105, 106, 83, 916, 917, 89, 1292, 107, 108, 109, 110, 111, 112, 113, 114, 84, 215, 130, 131, 85, 216, 143, 144, 86] (by decide +kernel)
theorem ix_2 : ∀ w ∈ wsL_law0_r2, w ∈ lw_tbl := pos_in [217, 171, 172, 87, 218, 184, 185, 88, 219, 116, 117, 118, 129, 119, 120, 121, 133, 134, 135, 136, 137, 146, 147, 148] (by decide +kernel)
theorem ix_3 : ∀ w ∈ wsL_law0_r3, w ∈ lw_tbl := pos_in [149, 150, 151, 152, 153, 154, 155, 174, 175, 176, 177, 178, 187, 188, 189, 190, 191, 192, 193, 194, 195, 196, 197, 918] (by decide +kernel)
theorem ix_4 : ∀ w ∈ wsL_law0_r4, w ∈ lw_tbl := pos_in [919, 920, 921, 923, 924, 926, 928, 931, 922, 611, 612, 82, 613, 614, 615, 616, 617, 618, 619, 623, 93, 691, 94, 620] (by decide +kernel)
theorem ix_5 : ∀ w ∈ wsL_law0_r5, w ∈ lw_tbl := pos_in [621, 622, 439, 249, 250, 251, 252, 253, 254, 255, 235, 236, 237, 238, 239, 241, 240, 95, 707, 708, 709, 710, 444, 292] (by decide +kernel)
theorem ix_6 : ∀ w ∈ wsL_law0_r6, w ∈ lw_tbl := pos_in [293, 294, 295, 963, 964, 965, 966, 967, 968, 969, 970, 972, 31, 973, 974, 976, 32, 977, 925, 978, 980, 33, 981, 959] (by decide +kernel)
theorem ix_7 : ∀ w ∈ wsL_law0_r7, w ∈ lw_tbl := pos_in [960, 961, 962, 711, 712, 713, 714, 715, 716, 717, 718, 719, 721, 26, 722, 723, 96, 739, 741, 27, 742, 312, 314, 0] (by decide +kernel)
theorem ix_8 : ∀ w ∈ wsL_law0_r8, w ∈ lw_tbl := pos_in [315, 316, 317, 318, 319, 320, 322, 1, 323, 300, 301, 302, 303, 324, 325, 326, 327, 328, 329, 330, 331, 332, 334, 2] (by decide +kernel)
theorem ix_9 : ∀ w ∈ wsL_law0_r9, w ∈ lw_tbl := pos_in [335, 336, 338, 3, 339, 340, 342, 4, 343, 344, 346, 5, 347, 348, 350, 6, 351, 352, 354, 7, 355, 356, 358, 8] (by decide +kernel)
theorem ix_10 : ∀ w ∈ wsL_law0_r10, w ∈ lw_tbl := pos_in [359, 360, 743, 744, 745, 746, 748, 750, 28, 751, 752, 754, 29, 755, 488, 406, 407, 408, 756, 757, 758, 759, 760, 268] (by decide +kernel)
theorem ix_11 : ∀ w ∈ wsL_law0_r11, w ∈ lw_tbl := pos_in [269, 270, 487, 761, 272, 273, 274, 497, 495, 496, 762, 763, 764, 765, 766, 767, 768, 769, 770, 771, 772, 773, 774, 775] (by decide +kernel)
theorem ix_12 : ∀ w ∈ wsL_law0_r12, w ∈ lw_tbl := pos_in [776, 777, 778, 304, 305, 306, 307, 982, 983, 984, 985, 930, 927, 932, 986, 988, 34, 989, 990, 992, 35, 993, 929, 994] (by decide +kernel)
theorem ix_13 : ∀ w ∈ wsL_law0_r13, w ∈ lw_tbl := pos_in [996, 36, 997, 998, 1000, 37, 1001, 1002, 1004, 38, 1005, 1006, 1008, 39, 1009, 1010, 1012, 40, 1013, 1014, 1016, 41, 1017, 1018] (by decide +kernel)
theorem ix_14 : ∀ w ∈ wsL_law0_r14, w ∈ lw_tbl := pos_in [1020, 42, 1021, 1022, 1024, 43, 1025, 1026, 1028, 44, 1029, 1030, 1031, 1032, 1033, 1035, 45, 1036, 1037, 1039, 46, 1040, 779, 780] (by decide +kernel)
theorem ix_15 : ∀ w ∈ wsL_law0_r15, w ∈ lw_tbl := pos_in [781, 782, 783, 784, 785, 502, 377, 378, 379, 1041, 1042, 1043, 1044, 1045, 1047, 47, 1048, 787, 788, 789, 790, 791, 792, 793] (by decide +kernel)
theorem ix_16 : ∀ w ∈ wsL_law0_r16, w ∈ lw_tbl := pos_in [794, 796, 30, 797, 1049, 1050, 1051, 1052, 1053, 1055, 48, 1056, 1057, 1059, 49, 1060, 799, 800, 801, 802, 803, 804, 805, 511] (by decide +kernel)
theorem ix_17 : ∀ w ∈ wsL_law0_r17, w ∈ lw_tbl := pos_in [260, 97, 261, 262, 263, 264, 265, 266, 267, 271, 807, 289, 290, 291, 808, 809, 810, 811, 812, 1061, 1062, 1063, 1064, 1065] (by decide +kernel)
theorem ix_18 : ∀ w ∈ wsL_law0_r18, w ∈ lw_tbl := pos_in [1067, 50, 1068, 1069, 1071, 51, 1072, 1073, 1075, 52, 1076, 1077, 1079, 53, 1080, 813, 814, 815, 816, 817, 818, 819, 821, 822] (by decide +kernel)
theorem ix_19 : ∀ w ∈ wsL_law0_r19, w ∈ lw_tbl := pos_in [823, 824, 1081, 1082, 1083, 1084, 231, 232, 233, 234, 242, 243, 244, 245, 246, 247, 248, 256, 257, 258, 259, 275, 276, 99] (by decide +kernel)
theorem ix_20 : ∀ w ∈ wsL_law0_r20, w ∈ lw_tbl := pos_in [277, 278, 279, 280, 282, 283, 284, 285, 286, 287, 288, 1085, 1086, 1087, 1088, 1089, 1091, 54, 1092, 1093, 1095, 55, 1096, 1097] (by decide +kernel)
theorem ix_21 : ∀ w ∈ wsL_law0_r21, w ∈ lw_tbl := pos_in [1098, 1099, 1100, 1101, 1102, 1103, 1105, 56, 1106, 825, 826, 827, 828, 829, 830, 831, 834, 835, 836, 837, 1107, 1108, 1109, 1110] (by decide +kernel)
theorem ix_22 : ∀ w ∈ wsL_law0_r22, w ∈ lw_tbl := pos_in [296, 297, 298, 299, 1111, 1112, 1113, 1114, 308, 309, 310, 311, 1115, 1116, 1117, 1118, 838, 839, 840, 841, 842, 843, 844, 470] (by decide +kernel)
theorem ix_23 : ∀ w ∈ wsL_law0_r23, w ∈ lw_tbl := pos_in [471, 472, 473, 846, 847, 848, 849, 1119, 1120, 1121, 1122, 850, 851, 852, 853, 854, 855, 856, 857, 858, 859, 483, 485, 12] (by decide +kernel)
theorem ix_24 : ∀ w ∈ wsL_law0_r24, w ∈ lw_tbl := pos_in [486, 489, 490, 491, 492, 100, 493, 405, 494, 376, 1123, 1124, 1125, 1126, 1127, 1129, 57, 1130, 1131, 1133, 58, 1134, 861, 862] (by decide +kernel)
theorem ix_25 : ∀ w ∈ wsL_law0_r25, w ∈ lw_tbl := pos_in [863, 864, 865, 866, 867, 498, 500, 13, 501, 503, 413, 101, 414, 415, 416, 417, 418, 419, 420, 421, 422, 423, 424, 425] (by decide +kernel)
theorem ix_26 : ∀ w ∈ wsL_law0_r26, w ∈ lw_tbl := pos_in [504, 466, 467, 468, 505, 450, 451, 452, 506, 457, 458, 372, 368, 369, 370, 371, 459, 460, 461, 1135, 1136, 1137, 1138, 1139] (by decide +kernel)
theorem ix_27 : ∀ w ∈ wsL_law0_r27, w ∈ lw_tbl := pos_in [1141, 59, 1142, 1143, 1145, 60, 1146, 1147, 1148, 1149, 1150, 1151, 1152, 1153, 1155, 61, 1156, 1157, 1159, 62, 1160, 1161, 1163, 63] (by decide +kernel)
theorem ix_28 : ∀ w ∈ wsL_law0_r28, w ∈ lw_tbl := pos_in [1164, 1165, 1167, 64, 1168, 868, 869, 870, 871, 872, 873, 874, 534, 535, 536, 465, 373, 374, 375, 380, 381, 102, 382, 1169] (by decide +kernel)
theorem ix_29 : ∀ w ∈ wsL_law0_r29, w ∈ lw_tbl := pos_in [1170, 1171, 1172, 1173, 1175, 65, 1176, 875, 876, 877, 878, 879, 880, 881, 516, 517, 518, 519, 520, 521, 523, 16, 524, 525] (by decide +kernel)
theorem ix_30 : ∀ w ∈ wsL_law0_r30, w ∈ lw_tbl := pos_in [526, 527, 528, 529, 530, 532, 17, 533, 883, 884, 885, 886, 887, 542, 543, 544, 545, 1177, 1178, 1179, 1180, 1181, 1183, 66] (by decide +kernel)
theorem ix_31 : ∀ w ∈ wsL_law0_r31, w ∈ lw_tbl := pos_in [1184, 1185, 1187, 67, 1188, 888, 889, 890, 891, 892, 893, 894, 446, 447, 448, 449, 1189, 1190, 1191, 1192, 1193, 1195, 68, 1196] (by decide +kernel)
theorem ix_32 : ∀ w ∈ wsL_law0_r32, w ∈ lw_tbl := pos_in [895, 896, 897, 898, 899, 900, 901, 435, 437, 10, 438, 440, 441, 442, 443, 445, 402, 403, 404, 453, 454, 455, 456, 462] (by decide +kernel)
theorem ix_33 : ∀ w ∈ wsL_law0_r33, w ∈ lw_tbl := pos_in [463, 464, 469, 474, 410, 411, 412, 1197, 1198, 1199, 1200, 1201, 1203, 69, 1204, 1205, 1207, 70, 1208, 1209, 1211, 71, 1212, 1213] (by decide +kernel)
theorem ix_34 : ∀ w ∈ wsL_law0_r34, w ∈ lw_tbl := pos_in [1215, 72, 1216, 902, 903, 904, 905, 906, 907, 908, 1217, 1218, 1219, 1220, 909, 910, 911, 912, 913, 914, 915, 554, 555, 556] (by decide +kernel)
theorem ix_35 : ∀ w ∈ wsL_law0_r35, w ∈ lw_tbl := pos_in [557, 559, 560, 561, 558, 562, 564, 20, 565, 569, 570, 571, 566, 567, 568, 572, 574, 21, 575, 576, 577, 103, 578, 579] (by decide +kernel)
theorem ix_36 : ∀ w ∈ wsL_law0_r36, w ∈ lw_tbl := pos_in [581, 22, 582, 583, 585, 587, 23, 588, 589, 590, 591, 592, 593, 594, 595, 596, 597, 598, 599, 600, 1221, 1222, 1223, 1224] (by decide +kernel)
theorem ix_37 : ∀ w ∈ wsL_law0_r37, w ∈ lw_tbl := pos_in [1225, 1227, 73, 1228, 1229, 1231, 74, 1232, 1233, 1235, 75, 1236, 361, 362, 363, 364, 365, 366, 367, 1237, 1238, 1239, 1240, 1241] (by decide +kernel)
theorem ix_38 : ∀ w ∈ wsL_law0_r38, w ∈ lw_tbl := pos_in [1243, 76, 1244, 1245, 1246, 1247, 383, 384, 385, 386, 387, 388, 389, 390, 391, 392, 393, 1248, 1249, 1250, 1251, 1252, 1254, 77] (by decide +kernel)
theorem ix_39 : ∀ w ∈ wsL_law0_r39, w ∈ lw_tbl := pos_in [1255, 394, 395, 396, 397, 398, 399, 400, 401, 409, 1256, 1257, 1258, 1259, 1260, 1262, 78, 1263, 426, 427, 428, 429, 430, 431] (by decide +kernel)
theorem ix_40 : ∀ w ∈ wsL_law0_r40, w ∈ lw_tbl := pos_in [433, 9, 434, 475, 476, 477, 478, 479, 481, 11, 482, 507, 509, 14, 510, 512, 514, 15, 515, 537, 538, 539, 540, 541] (by decide +kernel)
theorem ix_41 : ∀ w ∈ wsL_law0_r41, w ∈ lw_tbl := pos_in [546, 548, 18, 549, 550, 552, 19, 553, 601, 602, 603, 604, 605, 606, 607, 609, 24, 610, 1264, 1265, 1266, 1267, 1268, 933] (by decide +kernel)
theorem ix_42 : ∀ w ∈ wsL_law0_r42, w ∈ lw_tbl := pos_in [1269, 1271, 79, 1272, 1273, 1274, 1276, 80, 1277, 1278, 1280, 81, 1281, 1282, 1283, 104, 1284, 1288, 1290, 1289, 104, 1291, 1285, 1286] (by decide +kernel)
theorem ix_43 : ∀ w ∈ wsL_law0_r43, w ∈ lw_tbl := pos_in [1287] (by decide +kernel)
theorem iy_8 : ∀ w ∈ wsX80, w ∈ lw_tbl := by decide +kernel
theorem iy_9 : ∀ w ∈ wsX90, w ∈ lw_tbl := by decide +kernel
theorem iy_0 : ∀ w ∈ wsX00, w ∈ lw_tbl := by decide +kernel
theorem iy_1 : ∀ w ∈ wsX10, w ∈ lw_tbl := by decide +kernel
theorem iy_6 : ∀ w ∈ wsX60, w ∈ lw_tbl := by decide +kernel
theorem iy_4 : ∀ w ∈ wsX40, w ∈ lw_tbl := by decide +kernel
theorem iy_5 : ∀ w ∈ wsX50, w ∈ lw_tbl := by decide +kernel
