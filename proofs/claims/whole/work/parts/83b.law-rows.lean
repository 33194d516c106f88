set_option maxRecDepth 20000 in
theorem ggL_law_X9_arrow : GoodIn wsL_law wsX9_arrow := goodIn_r _ [264, 136, 265, 266, 267, 5, 268, 180, 269, 270, 271, 272, 162, 163, 273, 274, 275, 276, 277, 278, 874, 875, 876, 877, 878, 879, 880, 881, 882, 883, 884, 885, 886, 887, 888, 889, 890, 891, 892, 893, 894, 895, 896, 897, 898, 899, 900, 901, 902, 903, 904, 905, 906, 907, 908, 909, 910, 911, 912, 913, 914, 915, 916, 917, 918, 919, 920, 921, 922, 923, 924, 925, 926] (by decide +kernel) (by decide +kernel)
set_option maxRecDepth 20000 in
theorem gL_law_X9_arrow : GoodIn wsL_law (wsV RL 29 RX9 yX9_arrow wsX9_arrow) := goodIn_app (goodIn_of _ (by decide +kernel)) ggL_law_X9_arrow
set_option maxRecDepth 20000 in
theorem ggL_law_X8_cut : GoodIn wsL_law wsX8_cut := goodIn_r _ [282, 20, 222, 223, 224, 19, 225, 67, 226, 227, 228, 229, 60, 230, 2, 231, 283, 284, 285, 286, 68, 240, 241, 242, 243, 69, 62, 64, 65, 244, 245, 246, 247, 61, 248, 249, 250, 251, 66, 252, 253, 254, 255, 256, 63, 257, 258, 259, 260, 46, 47, 863, 864, 865, 866, 867, 868, 869, 870, 871, 872, 873, 930, 931, 932, 933, 934, 935, 936, 937, 938, 939] (by decide +kernel) (by decide +kernel)
set_option maxRecDepth 20000 in
theorem gL_law_X8_cut : GoodIn wsL_law (wsV RL 30 RX8 yX8_cut wsX8_cut) := goodIn_app (goodIn_of _ (by decide +kernel)) ggL_law_X8_cut
set_option maxRecDepth 20000 in
theorem ggL_law_X9_cut : GoodIn wsL_law wsX9_cut := goodIn_r _ [290, 136, 265, 266, 267, 5, 268, 180, 273, 274, 275, 276, 277, 278, 874, 875, 876, 877, 878, 879, 880, 881, 882, 883, 884, 885, 886, 887, 888, 889, 890, 891, 892, 893, 894, 895, 896, 897, 898, 899, 900, 901, 902, 903, 904, 905, 906, 907, 908, 909, 910, 911, 912, 913, 914, 915, 916, 917, 918, 919, 920, 921, 922, 923, 924, 925, 926] (by decide +kernel) (by decide +kernel)
set_option maxRecDepth 20000 in
theorem gL_law_X9_cut : GoodIn wsL_law (wsV RL 33 RX9 yX9_cut wsX9_cut) := goodIn_app (goodIn_of _ (by decide +kernel)) ggL_law_X9_cut
set_option maxRecDepth 20000 in
theorem ggL_law_X8_operator : GoodIn wsL_law wsX8_operator := goodIn_r _ [294, 20, 16, 222, 223, 224, 19, 225, 67, 295, 296, 297, 15, 298, 55, 52, 54, 299, 300, 301, 302, 303, 304, 2, 305, 306, 307, 308, 309, 310, 69, 61, 311, 312, 313, 314, 315, 316, 317, 318, 66, 319, 320, 321, 322, 257, 258, 259, 260, 46, 47, 323, 324, 325, 326, 327, 328, 329, 330, 62, 63, 240, 241, 242, 243, 60, 64, 65, 244, 245, 246, 247, 248, 249, 250, 251, 252, 230, 231, 253, 254, 255, 256, 863, 864, 865, 866, 867, 868, 869, 870, 871, 872, 873, 930, 931, 932, 933, 934, 935, 936, 937, 938, 939, 927, 928, 929] (by decide +kernel) (by decide +kernel)
set_option maxRecDepth 20000 in
theorem gL_law_X8_operator : GoodIn wsL_law (wsV RL 34 RX8 yX8_operator wsX8_operator) := goodIn_app (goodIn_of _ (by decide +kernel)) ggL_law_X8_operator
set_option maxRecDepth 20000 in
theorem ggL_law_X9_operator : GoodIn wsL_law wsX9_operator := goodIn_r _ [334, 335, 336, 137, 143, 138, 139, 140, 265, 266, 267, 5, 268, 180, 337, 338, 339, 340, 201, 142, 341, 342, 343, 344, 345, 346, 347, 348, 349, 273, 274, 275, 276, 277, 278, 874, 875, 876, 877, 878, 879, 880, 881, 882, 883, 884, 885, 886, 887, 888, 889, 890, 891, 892, 893, 894, 895, 896, 897, 898, 899, 900, 901, 902, 903, 904, 905, 906, 907, 908, 909, 910, 911, 912, 913, 914, 915, 916, 917, 918, 919, 920, 921, 922, 923, 924, 925, 926] (by decide +kernel) (by decide +kernel)
set_option maxRecDepth 20000 in
theorem gL_law_X9_operator : GoodIn wsL_law (wsV RL 37 RX9 yX9_operator wsX9_operator) := goodIn_app (goodIn_of _ (by decide +kernel)) ggL_law_X9_operator
set_option maxRecDepth 20000 in
theorem ggL_law_X8_about : GoodIn wsL_law wsX8_about := goodIn_r _ [353, 20, 354, 355, 356, 19, 357, 69, 358, 359, 360, 361, 62, 362, 363, 364, 365, 61, 366, 367, 368, 369, 248, 249, 250, 251, 66, 252, 370, 371, 372, 373, 63, 374, 245, 246, 247, 863, 864, 865, 866, 867, 868, 869, 870, 871, 872, 873, 930, 931, 932, 933, 934, 935, 936, 937, 938, 939] (by decide +kernel) (by decide +kernel)
set_option maxRecDepth 20000 in
theorem gL_law_X8_about : GoodIn wsL_law (wsV RL 38 RX8 yX8_about wsX8_about) := goodIn_app (goodIn_of _ (by decide +kernel)) ggL_law_X8_about
set_option maxRecDepth 20000 in
theorem ggL_law_X9_about : GoodIn wsL_law wsX9_about := goodIn_r _ [378, 335, 139, 138, 140, 379, 380, 381, 5, 382, 137, 345, 383, 384, 385, 386, 387, 388, 389, 390, 391, 392, 393, 394, 874, 875, 876, 877, 878, 879, 880, 881, 882, 883, 884, 885, 886, 887, 888, 889, 890, 891, 892, 893, 894, 895, 896, 897, 898, 899, 900, 901, 902, 903, 904, 905, 906, 907, 908, 909, 910, 911, 912, 913, 914, 915, 916, 917, 918, 919, 920, 921, 922, 923, 924, 925, 926] (by decide +kernel) (by decide +kernel)
set_option maxRecDepth 20000 in
theorem gL_law_X9_about : GoodIn wsL_law (wsV RL 41 RX9 yX9_about wsX9_about) := goodIn_app (goodIn_of _ (by decide +kernel)) ggL_law_X9_about
