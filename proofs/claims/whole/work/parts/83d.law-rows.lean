set_option maxRecDepth 20000 in
theorem ggL_law_X9_trees : GoodIn wsL_law wsX9_trees := goodIn_r _ [580, 277, 581, 582, 583, 5, 584, 145, 528, 529, 530, 531, 149, 532, 874, 875, 876, 877, 878, 879, 880, 881, 882, 883, 884, 885, 886, 887, 888, 889, 890, 891, 892, 893, 894, 895, 896, 897, 898, 899, 900, 901, 902, 903, 904, 905, 906, 907, 908, 909, 910, 911, 912, 913, 914, 915, 916, 917, 918, 919, 920, 921, 922, 923, 924, 925, 926] (by decide +kernel) (by decide +kernel)
set_option maxRecDepth 20000 in
theorem gL_law_X9_trees : GoodIn wsL_law (wsV RL 58 RX9 yX9_trees wsX9_trees) := goodIn_app (goodIn_of _ (by decide +kernel)) ggL_law_X9_trees
set_option maxRecDepth 20000 in
theorem ggL_law_X8_with : GoodIn wsL_law wsX8_with := goodIn_r _ [588, 46, 24, 20, 573, 574, 575, 23, 576, 80, 589, 456, 457, 458, 75, 354, 355, 356, 19, 357, 69, 590, 591, 592, 593, 77, 81, 425, 426, 427, 863, 864, 865, 866, 867, 868, 869, 870, 871, 872, 873, 940, 941, 942, 943, 944, 945, 946, 947, 948, 930, 931, 932, 933, 934, 935, 936, 937, 938, 939] (by decide +kernel) (by decide +kernel)
set_option maxRecDepth 20000 in
theorem gL_law_X8_with : GoodIn wsL_law (wsV RL 59 RX8 yX8_with wsX8_with) := goodIn_app (goodIn_of _ (by decide +kernel)) ggL_law_X8_with
set_option maxRecDepth 20000 in
theorem ggL_law_X9_with : GoodIn wsL_law wsX9_with := goodIn_r _ [597, 277, 335, 144, 581, 582, 583, 5, 584, 145, 541, 542, 543, 544, 345, 545, 546, 547, 548, 138, 137, 549, 550, 551, 552, 147, 519, 874, 875, 876, 877, 878, 879, 880, 881, 882, 883, 884, 885, 886, 887, 888, 889, 890, 891, 892, 893, 894, 895, 896, 897, 898, 899, 900, 901, 902, 903, 904, 905, 906, 907, 908, 909, 910, 911, 912, 913, 914, 915, 916, 917, 918, 919, 920, 921, 922, 923, 924, 925, 926] (by decide +kernel) (by decide +kernel)
set_option maxRecDepth 20000 in
theorem gL_law_X9_with : GoodIn wsL_law (wsV RL 63 RX9 yX9_with wsX9_with) := goodIn_app (goodIn_of _ (by decide +kernel)) ggL_law_X9_with
set_option maxRecDepth 20000 in
theorem ggL_law_X8_take : GoodIn wsL_law wsX8_take := goodIn_r _ [601, 46, 24, 33, 47, 29, 561, 562, 563, 23, 564, 80, 491, 492, 493, 494, 76, 425, 426, 427, 602, 603, 604, 32, 605, 103, 100, 102, 95, 96, 97, 99, 606, 607, 608, 28, 609, 90, 610, 611, 612, 613, 614, 98, 615, 616, 617, 618, 101, 619, 456, 457, 458, 75, 620, 320, 321, 19, 322, 69, 230, 2, 231, 621, 591, 592, 593, 77, 81, 622, 623, 624, 625, 86, 87, 88, 89, 626, 627, 628, 629, 630, 436, 433, 437, 631, 367, 368, 369, 61, 248, 249, 250, 251, 66, 252, 632, 633, 634, 635, 442, 443, 444, 445, 82, 79, 446, 363, 364, 365, 447, 448, 449, 450, 459, 460, 461, 462, 74, 463, 464, 465, 466, 467, 78, 468, 469, 470, 471, 472, 473, 474, 475, 476, 477, 432, 434, 478, 316, 317, 318, 487, 488, 489, 490, 479, 480, 481, 482, 64, 65, 483, 484, 485, 486, 455, 636, 637, 638, 639, 640, 641, 642, 643, 644, 645, 646, 647, 648, 649, 650, 863, 864, 865, 866, 867, 868, 869, 870, 871, 872, 873, 940, 941, 942, 943, 944, 945, 946, 947, 948, 954, 955, 956, 957, 958, 959, 960, 961, 962, 949, 950, 951, 952, 953, 930, 931, 932, 933, 934, 935, 936, 937, 938, 939] (by decide +kernel) (by decide +kernel)
set_option maxRecDepth 20000 in
theorem gL_law_X8_take : GoodIn wsL_law (wsV RL 64 RX8 yX8_take wsX8_take) := goodIn_app (goodIn_of _ (by decide +kernel)) ggL_law_X8_take
set_option maxRecDepth 20000 in
theorem ggL_law_X9_take : GoodIn wsL_law wsX9_take := goodIn_r _ [654, 277, 145, 655, 656, 156, 157, 158, 159, 160, 144, 141, 152, 153, 154, 155, 278, 528, 529, 530, 5, 531, 149, 532, 657, 658, 659, 660, 541, 542, 543, 544, 345, 545, 546, 547, 548, 335, 138, 137, 549, 550, 551, 552, 147, 519, 661, 662, 663, 664, 151, 164, 165, 167, 166, 665, 666, 667, 668, 379, 380, 381, 382, 524, 525, 526, 527, 533, 534, 535, 536, 874, 875, 876, 877, 878, 879, 880, 881, 882, 883, 884, 885, 886, 887, 888, 889, 890, 891, 892, 893, 894, 895, 896, 897, 898, 899, 900, 901, 902, 903, 904, 905, 906, 907, 908, 909, 910, 911, 912, 913, 914, 915, 916, 917, 918, 919, 920, 921, 922, 923, 924, 925, 926] (by decide +kernel) (by decide +kernel)
set_option maxRecDepth 20000 in
theorem gL_law_X9_take : GoodIn wsL_law (wsV RL 67 RX9 yX9_take wsX9_take) := goodIn_app (goodIn_of _ (by decide +kernel)) ggL_law_X9_take
set_option maxRecDepth 20000 in
theorem ggL_law_X8_item : GoodIn wsL_law wsX8_item := goodIn_r _ [672, 47, 29, 673, 674, 675, 28, 676, 90, 677, 678, 679, 680, 86, 681, 682, 683, 684, 87, 685, 686, 687, 688, 88, 689, 690, 691, 692, 89, 863, 864, 865, 866, 867, 868, 869, 870, 871, 872, 873, 949, 950, 951, 952, 953] (by decide +kernel) (by decide +kernel)
set_option maxRecDepth 20000 in
theorem gL_law_X8_item : GoodIn wsL_law (wsV RL 68 RX8 yX8_item wsX8_item) := goodIn_app (goodIn_of _ (by decide +kernel)) ggL_law_X8_item
set_option maxRecDepth 20000 in
theorem ggL_law_X9_item : GoodIn wsL_law wsX9_item := goodIn_r _ [696, 278, 655, 152, 153, 154, 155, 874, 875, 876, 877, 878, 879, 880, 881, 882, 883, 884, 885, 886, 887, 888, 889, 890, 891, 892, 893, 894, 895, 896, 897, 898, 899, 900, 901, 902, 903, 904, 905, 906, 907, 908, 909, 910, 911, 912, 913, 914, 915, 916, 917, 918, 919, 920, 921, 922, 923, 924, 925, 926] (by decide +kernel) (by decide +kernel)
set_option maxRecDepth 20000 in
theorem gL_law_X9_item : GoodIn wsL_law (wsV RL 71 RX9 yX9_item wsX9_item) := goodIn_app (goodIn_of _ (by decide +kernel)) ggL_law_X9_item
