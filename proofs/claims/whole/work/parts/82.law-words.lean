theorem mem_pl {big : List Cond} (ws : List Cond) (ps : List Nat) (hp : ws = ps.filterMap (fun i => big[i]?)) : ∀ w ∈ ws, w ∈ big := by
  intro w hw
  rw [hp] at hw
  obtain ⟨i, -, hi⟩ := List.mem_filterMap.mp hw
  exact List.mem_of_getElem? hi
theorem mem_ap {P : Cond → Prop} {a b : List Cond} (ha : ∀ w ∈ a, P w) (hb : ∀ w ∈ b, P w) : ∀ w ∈ a ++ b, P w := fun w h => (List.mem_append.mp h).elim (ha w) (hb w)
set_option maxRecDepth 20000 in
theorem wsL_law_r1_in : ∀ w ∈ wsL_law_r1, w ∈ lw_tbl := mem_pl _ [69, 70, 56, 802, 803, 65, 1172, 71, 72, 73, 74, 75, 76, 77, 78, 57, 291, 95, 96, 58, 292, 133, 134, 59] (by rfl)
set_option maxRecDepth 20000 in
theorem wsL_law_r2_in : ∀ w ∈ wsL_law_r2, w ∈ lw_tbl := mem_pl _ [293, 294, 167, 168, 60, 295, 189, 190, 61, 296, 223, 224, 62, 297, 259, 260, 63, 298, 278, 279, 64, 299, 300, 301] (by rfl)
set_option maxRecDepth 20000 in
theorem wsL_law_r3_in : ∀ w ∈ wsL_law_r3, w ∈ lw_tbl := mem_pl _ [80, 81, 82, 93, 83, 94, 84, 85, 98, 99, 100, 132, 101, 102, 103, 104, 105, 106, 107, 108, 109, 110, 135, 136] (by rfl)
set_option maxRecDepth 20000 in
theorem wsL_law_r4_in : ∀ w ∈ wsL_law_r4, w ∈ lw_tbl := mem_pl _ [137, 138, 140, 141, 142, 143, 144, 145, 146, 147, 139, 170, 171, 172, 173, 174, 175, 176, 177, 191, 192, 193, 194, 198] (by rfl)
set_option maxRecDepth 20000 in
theorem wsL_law_r5_in : ∀ w ∈ wsL_law_r5, w ∈ lw_tbl := mem_pl _ [199, 200, 201, 202, 203, 195, 196, 197, 225, 226, 227, 228, 229, 232, 233, 234, 235, 236, 237, 238, 239, 231, 261, 262] (by rfl)
set_option maxRecDepth 20000 in
theorem wsL_law_r6_in : ∀ w ∈ wsL_law_r6, w ∈ lw_tbl := mem_pl _ [263, 264, 267, 268, 265, 266, 281, 282, 283, 284, 285, 804, 805, 806, 807, 970, 811, 813, 814, 815, 816, 817, 818, 820] (by rfl)
set_option maxRecDepth 20000 in
theorem wsL_law_r7_in : ∀ w ∈ wsL_law_r7, w ∈ lw_tbl := mem_pl _ [822, 823, 808, 824, 809, 825, 827, 828, 830, 831, 832, 833, 835, 836, 837, 838, 839, 841, 843, 844, 845, 846, 847, 848] (by rfl)
set_option maxRecDepth 20000 in
theorem wsL_law_r8_in : ∀ w ∈ wsL_law_r8, w ∈ lw_tbl := mem_pl _ [849, 850, 851, 852, 853, 854, 855, 856, 858, 859, 860, 861, 810, 325, 326, 327, 328, 329, 330, 331, 332, 333, 334, 335] (by rfl)
set_option maxRecDepth 20000 in
theorem wsL_law_r9_in : ∀ w ∈ wsL_law_r9, w ∈ lw_tbl := mem_pl _ [336, 337, 338, 339, 340, 971, 972, 973, 974, 819, 341, 342, 343, 344, 345, 346, 347, 348, 349, 350, 351, 352, 975, 976] (by rfl)
set_option maxRecDepth 20000 in
theorem wsL_law_r10_in : ∀ w ∈ wsL_law_r10, w ∈ lw_tbl := mem_pl _ [977, 978, 353, 354, 355, 356, 357, 358, 359, 360, 361, 362, 363, 364, 366, 367, 368, 369, 370, 371, 372, 373, 374, 375] (by rfl)
set_option maxRecDepth 20000 in
theorem wsL_law_r11_in : ∀ w ∈ wsL_law_r11, w ∈ lw_tbl := mem_pl _ [376, 378, 0, 379, 380, 381, 382, 383, 384, 385, 386, 387, 388, 389, 391, 1, 392, 393, 395, 2, 396, 979, 980, 981] (by rfl)
set_option maxRecDepth 20000 in
theorem wsL_law_r12_in : ∀ w ∈ wsL_law_r12, w ∈ lw_tbl := mem_pl _ [982, 983, 985, 23, 986, 987, 989, 24, 990, 991, 993, 25, 994, 826, 829, 397, 398, 399, 400, 401, 402, 403, 404, 995] (by rfl)
set_option maxRecDepth 20000 in
theorem wsL_law_r13_in : ∀ w ∈ wsL_law_r13, w ∈ lw_tbl := mem_pl _ [996, 997, 998, 405, 406, 407, 408, 409, 410, 411, 412, 413, 414, 415, 416, 417, 418, 419, 420, 421, 422, 423, 424, 425] (by rfl)
set_option maxRecDepth 20000 in
theorem wsL_law_r14_in : ∀ w ∈ wsL_law_r14, w ∈ lw_tbl := mem_pl _ [427, 3, 428, 429, 430, 431, 432, 433, 434, 435, 436, 437, 438, 439, 440, 441, 443, 442, 66, 999, 1000, 1001, 1002, 812] (by rfl)
set_option maxRecDepth 20000 in
theorem wsL_law_r15_in : ∀ w ∈ wsL_law_r15, w ∈ lw_tbl := mem_pl _ [821, 1003, 1005, 26, 1006, 1007, 1009, 27, 1010, 1011, 1012, 1014, 28, 1015, 444, 445, 446, 447, 448, 449, 450, 451, 452, 453] (by rfl)
set_option maxRecDepth 20000 in
theorem wsL_law_r16_in : ∀ w ∈ wsL_law_r16, w ∈ lw_tbl := mem_pl _ [454, 455, 456, 457, 458, 459, 460, 461, 462, 463, 464, 465, 466, 467, 468, 1016, 1017, 1018, 1019, 1020, 1022, 29, 1023, 1024] (by rfl)
set_option maxRecDepth 20000 in
theorem wsL_law_r17_in : ∀ w ∈ wsL_law_r17, w ∈ lw_tbl := mem_pl _ [1026, 30, 1027, 1028, 1030, 31, 1031, 1032, 1034, 32, 1035, 469, 470, 471, 472, 473, 474, 475, 476, 477, 478, 67, 479, 1036] (by rfl)
set_option maxRecDepth 20000 in
theorem wsL_law_r18_in : ∀ w ∈ wsL_law_r18, w ∈ lw_tbl := mem_pl _ [1037, 1038, 1039, 480, 481, 482, 483, 484, 485, 486, 487, 505, 488, 489, 491, 4, 492, 493, 494, 495, 496, 497, 498, 499] (by rfl)
set_option maxRecDepth 20000 in
theorem wsL_law_r19_in : ∀ w ∈ wsL_law_r19, w ∈ lw_tbl := mem_pl _ [500, 68, 501, 502, 503, 504, 506, 507, 508, 509, 510, 512, 5, 513, 514, 515, 517, 6, 518, 519, 521, 7, 522, 523] (by rfl)
set_option maxRecDepth 20000 in
theorem wsL_law_r20_in : ∀ w ∈ wsL_law_r20, w ∈ lw_tbl := mem_pl _ [524, 525, 526, 527, 529, 8, 530, 531, 532, 534, 9, 535, 537, 538, 539, 540, 541, 542, 544, 545, 546, 547, 548, 549] (by rfl)
set_option maxRecDepth 20000 in
theorem wsL_law_r21_in : ∀ w ∈ wsL_law_r21, w ∈ lw_tbl := mem_pl _ [550, 551, 552, 553, 555, 10, 556, 558, 560, 11, 561, 562, 563, 564, 565, 1040, 1041, 1042, 1043, 1044, 1046, 33, 1047, 1048] (by rfl)
set_option maxRecDepth 20000 in
theorem wsL_law_r22_in : ∀ w ∈ wsL_law_r22, w ∈ lw_tbl := mem_pl _ [1050, 34, 1051, 1052, 1054, 35, 1055, 1056, 1058, 36, 1059, 1060, 1062, 37, 1063, 1081, 1064, 1066, 38, 1067, 1068, 1070, 39, 1071] (by rfl)
set_option maxRecDepth 20000 in
theorem wsL_law_r23_in : ∀ w ∈ wsL_law_r23, w ∈ lw_tbl := mem_pl _ [1072, 1074, 40, 1075, 1076, 1077, 1078, 1079, 1080, 1082, 1084, 41, 1085, 1086, 1088, 42, 1089, 1090, 1092, 43, 1093, 1094, 1096, 44] (by rfl)
set_option maxRecDepth 20000 in
theorem wsL_law_r24_in : ∀ w ∈ wsL_law_r24, w ∈ lw_tbl := mem_pl _ [1097, 566, 567, 568, 569, 570, 571, 572, 573, 574, 575, 576, 577, 1098, 1099, 1100, 1101, 578, 579, 580, 581, 582, 583, 584] (by rfl)
set_option maxRecDepth 20000 in
theorem wsL_law_r25_in : ∀ w ∈ wsL_law_r25, w ∈ lw_tbl := mem_pl _ [585, 1102, 1103, 1104, 1105, 1106, 1108, 45, 1109, 586, 587, 588, 589, 590, 591, 592, 593, 594, 1110, 1111, 1112, 1113, 595, 596] (by rfl)
set_option maxRecDepth 20000 in
theorem wsL_law_r26_in : ∀ w ∈ wsL_law_r26, w ∈ lw_tbl := mem_pl _ [597, 598, 599, 600, 601, 602, 603, 604, 605, 606, 607, 608, 610, 12, 611, 612, 614, 13, 615, 616, 617, 619, 620, 621] (by rfl)
set_option maxRecDepth 20000 in
theorem wsL_law_r27_in : ∀ w ∈ wsL_law_r27, w ∈ lw_tbl := mem_pl _ [622, 623, 624, 626, 14, 627, 643, 628, 629, 630, 631, 632, 633, 634, 635, 636, 637, 638, 639, 640, 641, 642, 644, 645] (by rfl)
set_option maxRecDepth 20000 in
theorem wsL_law_r28_in : ∀ w ∈ wsL_law_r28, w ∈ lw_tbl := mem_pl _ [646, 647, 648, 1114, 1115, 1116, 1117, 834, 840, 1118, 1120, 46, 1121, 1122, 1124, 47, 1125, 1126, 1128, 48, 1129, 649, 650, 651] (by rfl)
set_option maxRecDepth 20000 in
theorem wsL_law_r29_in : ∀ w ∈ wsL_law_r29, w ∈ lw_tbl := mem_pl _ [652, 653, 654, 655, 656, 657, 658, 659, 660, 661, 662, 663, 664, 665, 666, 667, 668, 669, 670, 671, 672, 1130, 1131, 1132] (by rfl)
set_option maxRecDepth 20000 in
theorem wsL_law_r30_in : ∀ w ∈ wsL_law_r30, w ∈ lw_tbl := mem_pl _ [1133, 673, 674, 675, 676, 677, 678, 679, 680, 685, 699, 681, 682, 683, 684, 686, 688, 15, 689, 690, 692, 16, 693, 694] (by rfl)
set_option maxRecDepth 20000 in
theorem wsL_law_r31_in : ∀ w ∈ wsL_law_r31, w ∈ lw_tbl := mem_pl _ [695, 696, 697, 698, 700, 701, 702, 703, 1134, 1135, 1136, 1137, 842, 1142, 1143, 1138, 1140, 49, 1141, 704, 705, 706, 707, 708] (by rfl)
set_option maxRecDepth 20000 in
theorem wsL_law_r32_in : ∀ w ∈ wsL_law_r32, w ∈ lw_tbl := mem_pl _ [709, 710, 711, 1144, 1145, 1146, 1147, 712, 713, 714, 715, 716, 718, 717, 719, 720, 721, 722, 728, 723, 724, 726, 17, 727] (by rfl)
set_option maxRecDepth 20000 in
theorem wsL_law_r33_in : ∀ w ∈ wsL_law_r33, w ∈ lw_tbl := mem_pl _ [729, 734, 730, 732, 18, 733, 735, 736, 738, 19, 739, 740, 741, 742, 744, 745, 746, 747, 748, 749, 750, 752, 20, 753] (by rfl)
set_option maxRecDepth 20000 in
theorem wsL_law_r34_in : ∀ w ∈ wsL_law_r34, w ∈ lw_tbl := mem_pl _ [754, 755, 756, 757, 758, 759, 760, 761, 762, 763, 764, 765, 766, 767, 768, 769, 770, 771, 772, 773, 774, 775, 776, 777] (by rfl)
set_option maxRecDepth 20000 in
theorem wsL_law_r35_in : ∀ w ∈ wsL_law_r35, w ∈ lw_tbl := mem_pl _ [779, 21, 780, 781, 782, 783, 785, 22, 786, 787, 789, 791, 792, 793, 794, 795, 797, 798, 799, 800, 801, 1148, 1149, 1150] (by rfl)
set_option maxRecDepth 20000 in
theorem wsL_law_r36_in : ∀ w ∈ wsL_law_r36, w ∈ lw_tbl := mem_pl _ [1151, 857, 1152, 1154, 50, 1155, 862, 1156, 1158, 51, 1159, 1160, 1162, 52, 1163, 1164, 1166, 53, 1167, 1168, 1170, 54, 1171] (by rfl)
set_option maxRecDepth 20000 in
theorem wsX80_in : ∀ w ∈ wsX80, w ∈ lw_tbl := mem_pl _ [302, 304, 306, 308, 310, 312, 314, 316, 318, 320, 322] (by rfl)
set_option maxRecDepth 20000 in
theorem wsX90_in : ∀ w ∈ wsX90, w ∈ lw_tbl := mem_pl _ [863, 865, 867, 869, 871, 873, 875, 877, 879, 881, 883, 885, 887, 889, 891, 893, 895, 897, 899, 901, 903, 905, 907, 909, 911, 913, 915, 917, 919, 921, 923, 925, 927, 929, 931, 933, 935, 937, 939, 941, 943, 945, 947, 949, 951, 953, 955, 957, 959, 961, 963, 965, 967] (by rfl)
set_option maxRecDepth 20000 in
theorem wsX60_in : ∀ w ∈ wsX60, w ∈ lw_tbl := mem_pl _ [86, 88, 90] (by rfl)
set_option maxRecDepth 20000 in
theorem wsX40_in : ∀ w ∈ wsX40, w ∈ lw_tbl := mem_pl _ [111, 113, 115, 117, 119, 121, 123, 125, 127, 129] (by rfl)
set_option maxRecDepth 20000 in
theorem wsX00_in : ∀ w ∈ wsX00, w ∈ lw_tbl := mem_pl _ [148, 150, 152, 154, 156, 158, 160, 162, 164] (by rfl)
set_option maxRecDepth 20000 in
theorem wsX70_in : ∀ w ∈ wsX70, w ∈ lw_tbl := mem_pl _ [178, 180, 182, 184, 186] (by rfl)
set_option maxRecDepth 20000 in
theorem wsX50_in : ∀ w ∈ wsX50, w ∈ lw_tbl := mem_pl _ [204, 206, 208, 210, 212, 214, 216, 218, 220] (by rfl)
set_option maxRecDepth 20000 in
theorem wsX30_in : ∀ w ∈ wsX30, w ∈ lw_tbl := mem_pl _ [240, 242, 244, 246, 248, 250, 252, 254, 256] (by rfl)
set_option maxRecDepth 20000 in
theorem wsX20_in : ∀ w ∈ wsX20, w ∈ lw_tbl := mem_pl _ [269, 271, 273, 275] (by rfl)
set_option maxRecDepth 20000 in
theorem wsX10_in : ∀ w ∈ wsX10, w ∈ lw_tbl := mem_pl _ [286, 288] (by rfl)
theorem wsL_law_in : ∀ w ∈ wsL_law, w ∈ lw_tbl := mem_ap (mem_ap (mem_ap (mem_ap (mem_ap (mem_ap (mem_ap (mem_ap (mem_ap (mem_ap (mem_ap (mem_ap wsL_law_r1_in (mem_ap wsL_law_r2_in (mem_ap wsL_law_r3_in (mem_ap wsL_law_r4_in (mem_ap wsL_law_r5_in (mem_ap wsL_law_r6_in (mem_ap wsL_law_r7_in (mem_ap wsL_law_r8_in (mem_ap wsL_law_r9_in (mem_ap wsL_law_r10_in (mem_ap wsL_law_r11_in (mem_ap wsL_law_r12_in (mem_ap wsL_law_r13_in (mem_ap wsL_law_r14_in (mem_ap wsL_law_r15_in (mem_ap wsL_law_r16_in (mem_ap wsL_law_r17_in (mem_ap wsL_law_r18_in (mem_ap wsL_law_r19_in (mem_ap wsL_law_r20_in (mem_ap wsL_law_r21_in (mem_ap wsL_law_r22_in (mem_ap wsL_law_r23_in (mem_ap wsL_law_r24_in (mem_ap wsL_law_r25_in (mem_ap wsL_law_r26_in (mem_ap wsL_law_r27_in (mem_ap wsL_law_r28_in (mem_ap wsL_law_r29_in (mem_ap wsL_law_r30_in (mem_ap wsL_law_r31_in (mem_ap wsL_law_r32_in (mem_ap wsL_law_r33_in (mem_ap wsL_law_r34_in (mem_ap wsL_law_r35_in (wsL_law_r36_in)))))))))))))))))))))))))))))))))))) wsX80_in) wsX90_in) wsX60_in) wsX40_in) wsX00_in) wsX70_in) wsX50_in) wsX30_in) wsX20_in) wsX10_in) (fun _ h => absurd h List.not_mem_nil)

