set_option maxRecDepth 20000 in
theorem ggL_law_X8_write : GoodIn wsL_law wsX8_write := goodIn_r _ [700, 47, 45, 24, 29, 701, 702, 703, 44, 704, 130, 705, 706, 707, 562, 563, 23, 564, 80, 708, 674, 675, 28, 676, 90, 709, 678, 679, 680, 86, 710, 682, 683, 684, 87, 711, 712, 713, 714, 715, 716, 717, 718, 129, 719, 720, 721, 722, 74, 723, 686, 687, 688, 88, 724, 725, 726, 727, 863, 864, 865, 866, 867, 868, 869, 870, 871, 872, 873, 976, 977, 940, 941, 942, 943, 944, 945, 946, 947, 948, 949, 950, 951, 952, 953] (by rfl) (by decide +kernel)
set_option maxRecDepth 20000 in
theorem gL_law_X8_write : GoodIn wsL_law (wsV RL 72 RX8 yX8_write wsX8_write) := goodIn_app (goodIn_of _ (by decide +kernel)) ggL_law_X8_write
set_option maxRecDepth 20000 in
theorem ggL_law_X9_write : GoodIn wsL_law wsX9_write := goodIn_r _ [731, 278, 732, 152, 144, 153, 733, 168, 169, 138, 734, 137, 735, 736, 737, 5, 738, 161, 379, 380, 381, 382, 345, 874, 875, 876, 877, 878, 879, 880, 881, 882, 883, 884, 885, 886, 887, 888, 889, 890, 891, 892, 893, 894, 895, 896, 897, 898, 899, 900, 901, 902, 903, 904, 905, 906, 907, 908, 909, 910, 911, 912, 913, 914, 915, 916, 917, 918, 919, 920, 921, 922, 923, 924, 925, 926] (by rfl) (by decide +kernel)
set_option maxRecDepth 20000 in
theorem gL_law_X9_write : GoodIn wsL_law (wsV RL 75 RX9 yX9_write wsX9_write) := goodIn_app (goodIn_of _ (by decide +kernel)) ggL_law_X9_write
