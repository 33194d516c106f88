set_option maxRecDepth 20000 in
theorem ggL_law_X8_clear : GoodIn wsL_law wsX8_clear := goodIn_r _ [398, 20, 319, 320, 321, 19, 322, 69, 399, 400, 401, 402, 67, 68, 60, 403, 404, 405, 406, 257, 258, 259, 2, 260, 46, 47, 863, 864, 865, 866, 867, 868, 869, 870, 871, 872, 873, 930, 931, 932, 933, 934, 935, 936, 937, 938, 939] (by decide +kernel) (by decide +kernel)
set_option maxRecDepth 20000 in
theorem gL_law_X8_clear : GoodIn wsL_law (wsV RL 42 RX8 yX8_clear wsX8_clear) := goodIn_app (goodIn_of _ (by decide +kernel)) ggL_law_X8_clear
set_option maxRecDepth 20000 in
theorem ggL_law_X9_clear : GoodIn wsL_law wsX9_clear := goodIn_r _ [410, 335, 180, 136, 273, 274, 275, 5, 276, 277, 278, 874, 875, 876, 877, 878, 879, 880, 881, 882, 883, 884, 885, 886, 887, 888, 889, 890, 891, 892, 893, 894, 895, 896, 897, 898, 899, 900, 901, 902, 903, 904, 905, 906, 907, 908, 909, 910, 911, 912, 913, 914, 915, 916, 917, 918, 919, 920, 921, 922, 923, 924, 925, 926] (by decide +kernel) (by decide +kernel)
set_option maxRecDepth 20000 in
theorem gL_law_X9_clear : GoodIn wsL_law (wsV RL 45 RX9 yX9_clear wsX9_clear) := goodIn_app (goodIn_of _ (by decide +kernel)) ggL_law_X9_clear
set_option maxRecDepth 20000 in
theorem ggL_law_X8_parse : GoodIn wsL_law wsX8_parse := goodIn_r _ [414, 16, 24, 46, 47, 295, 296, 297, 15, 298, 55, 52, 54, 299, 300, 301, 302, 415, 416, 417, 23, 418, 80, 82, 81, 74, 75, 419, 420, 320, 321, 19, 322, 69, 421, 422, 423, 424, 76, 77, 78, 79, 425, 426, 427, 428, 429, 430, 431, 432, 433, 434, 435, 436, 437, 59, 438, 439, 440, 441, 252, 61, 315, 316, 317, 318, 66, 442, 443, 444, 445, 446, 363, 364, 365, 447, 448, 449, 450, 451, 452, 453, 454, 455, 456, 457, 458, 459, 460, 461, 462, 463, 249, 250, 251, 464, 465, 466, 467, 468, 2, 469, 470, 471, 472, 473, 474, 475, 476, 477, 478, 479, 480, 481, 482, 64, 65, 483, 484, 485, 486, 230, 231, 487, 488, 489, 490, 491, 492, 493, 494, 863, 864, 865, 866, 867, 868, 869, 870, 871, 872, 873, 927, 928, 929, 940, 941, 942, 943, 944, 945, 946, 947, 948, 930, 931, 932, 933, 934, 935, 936, 937, 938, 939] (by decide +kernel) (by decide +kernel)
set_option maxRecDepth 20000 in
theorem gL_law_X8_parse : GoodIn wsL_law (wsV RL 46 RX8 yX8_parse wsX8_parse) := goodIn_app (goodIn_of _ (by decide +kernel)) ggL_law_X8_parse
set_option maxRecDepth 20000 in
theorem ggL_law_X9_parse : GoodIn wsL_law wsX9_parse := goodIn_r _ [498, 336, 144, 143, 277, 278, 337, 338, 339, 5, 340, 201, 142, 499, 500, 501, 502, 141, 335, 136, 139, 383, 384, 385, 386, 387, 388, 389, 390, 138, 379, 380, 381, 382, 137, 345, 391, 392, 393, 394, 503, 504, 505, 506, 140, 507, 508, 509, 510, 511, 512, 513, 514, 145, 515, 516, 517, 518, 150, 147, 519, 520, 521, 522, 523, 524, 525, 526, 527, 528, 529, 530, 531, 149, 532, 533, 534, 535, 536, 537, 538, 539, 540, 541, 542, 543, 544, 545, 546, 547, 548, 549, 550, 551, 552, 874, 875, 876, 877, 878, 879, 880, 881, 882, 883, 884, 885, 886, 887, 888, 889, 890, 891, 892, 893, 894, 895, 896, 897, 898, 899, 900, 901, 902, 903, 904, 905, 906, 907, 908, 909, 910, 911, 912, 913, 914, 915, 916, 917, 918, 919, 920, 921, 922, 923, 924, 925, 926] (by decide +kernel) (by decide +kernel)
set_option maxRecDepth 20000 in
theorem gL_law_X9_parse : GoodIn wsL_law (wsV RL 49 RX9 yX9_parse wsX9_parse) := goodIn_app (goodIn_of _ (by decide +kernel)) ggL_law_X9_parse
set_option maxRecDepth 20000 in
theorem ggL_law_X8_count : GoodIn wsL_law wsX8_count := goodIn_r _ [556, 20, 46, 24, 206, 207, 208, 19, 209, 67, 319, 320, 321, 322, 69, 557, 558, 559, 560, 68, 561, 562, 563, 23, 564, 80, 863, 864, 865, 866, 867, 868, 869, 870, 871, 872, 873, 930, 931, 932, 933, 934, 935, 936, 937, 938, 939, 940, 941, 942, 943, 944, 945, 946, 947, 948] (by decide +kernel) (by decide +kernel)
set_option maxRecDepth 20000 in
theorem gL_law_X8_count : GoodIn wsL_law (wsV RL 50 RX8 yX8_count wsX8_count) := goodIn_app (goodIn_of _ (by decide +kernel)) ggL_law_X8_count
set_option maxRecDepth 20000 in
theorem ggL_law_X9_count : GoodIn wsL_law wsX9_count := goodIn_r _ [568, 180, 335, 136, 277, 145, 874, 875, 876, 877, 878, 879, 880, 881, 882, 883, 884, 885, 886, 887, 888, 889, 890, 891, 892, 893, 894, 895, 896, 897, 898, 899, 900, 901, 902, 903, 904, 905, 906, 907, 908, 909, 910, 911, 912, 913, 914, 915, 916, 917, 918, 919, 920, 921, 922, 923, 924, 925, 926] (by decide +kernel) (by decide +kernel)
set_option maxRecDepth 20000 in
theorem gL_law_X9_count : GoodIn wsL_law (wsV RL 54 RX9 yX9_count wsX9_count) := goodIn_app (goodIn_of _ (by decide +kernel)) ggL_law_X9_count
set_option maxRecDepth 20000 in
theorem ggL_law_X8_trees : GoodIn wsL_law wsX8_trees := goodIn_r _ [572, 46, 24, 573, 574, 575, 23, 576, 80, 491, 492, 493, 494, 76, 425, 426, 427, 863, 864, 865, 866, 867, 868, 869, 870, 871, 872, 873, 940, 941, 942, 943, 944, 945, 946, 947, 948] (by decide +kernel) (by decide +kernel)
set_option maxRecDepth 20000 in
theorem gL_law_X8_trees : GoodIn wsL_law (wsV RL 55 RX8 yX8_trees wsX8_trees) := goodIn_app (goodIn_of _ (by decide +kernel)) ggL_law_X8_trees
