set_option maxRecDepth 20000 in
theorem ggL_law_X10_planned : GoodIn wsL_law wsX10_planned := goodIn_r _ [925, 35, 926, 927, 928, 34, 929, 609, 99, 1003, 1004, 1005, 1006, 1007, 1008, 1009, 1010, 1011, 1086, 1087, 1088, 1089, 1090, 1091, 1092, 1093, 1094, 1095, 1096, 1097, 1098] (by decide +kernel) (by decide +kernel)
set_option maxRecDepth 20000 in
theorem gL_law_X10_planned : GoodIn wsL_law (wsV RL 76 RX10 yX10_planned wsX10_planned) := goodIn_app (goodIn_of _ (by decide +kernel)) ggL_law_X10_planned
set_option maxRecDepth 20000 in
theorem ggL_law_X11_planned : GoodIn wsL_law wsX11_planned := goodIn_r _ [933, 623, 161, 1012, 1013, 1014, 1015, 1016, 1017, 1018, 1019, 1020, 1021, 1022, 1023, 1024, 1025, 1026, 1027, 1028, 1029, 1030, 1031, 1032, 1033, 1034, 1035, 1036, 1037, 1038, 1039, 1040, 1041, 1042, 1043, 1044, 1045, 1046, 1047, 1048, 1049, 1050, 1051, 1052, 1053, 1054] (by decide +kernel) (by decide +kernel)
set_option maxRecDepth 20000 in
theorem gL_law_X11_planned : GoodIn wsL_law (wsV RL 79 RX11 yX11_planned wsX11_planned) := goodIn_app (goodIn_of _ (by decide +kernel)) ggL_law_X11_planned
set_option maxRecDepth 20000 in
theorem ggL_law_X10_clear : GoodIn wsL_law wsX10_clear := goodIn_r _ [937, 35, 938, 939, 940, 34, 941, 100, 1003, 1004, 1005, 1006, 1007, 1008, 1009, 1010, 1011, 1086, 1087, 1088, 1089, 1090, 1091, 1092, 1093, 1094, 1095, 1096, 1097, 1098] (by decide +kernel) (by decide +kernel)
set_option maxRecDepth 20000 in
theorem gL_law_X10_clear : GoodIn wsL_law (wsV RL 80 RX10 yX10_clear wsX10_clear) := goodIn_app (goodIn_of _ (by decide +kernel)) ggL_law_X10_clear
set_option maxRecDepth 20000 in
theorem ggL_law_X11_clear : GoodIn wsL_law wsX11_clear := goodIn_r _ [945, 881, 882, 1012, 1013, 1014, 1015, 1016, 1017, 1018, 1019, 1020, 1021, 1022, 1023, 1024, 1025, 1026, 1027, 1028, 1029, 1030, 1031, 1032, 1033, 1034, 1035, 1036, 1037, 1038, 1039, 1040, 1041, 1042, 1043, 1044, 1045, 1046, 1047, 1048, 1049, 1050, 1051, 1052, 1053, 1054] (by decide +kernel) (by decide +kernel)
set_option maxRecDepth 20000 in
theorem gL_law_X11_clear : GoodIn wsL_law (wsV RL 83 RX11 yX11_clear wsX11_clear) := goodIn_app (goodIn_of _ (by decide +kernel)) ggL_law_X11_clear
set_option maxRecDepth 20000 in
theorem ggL_law_X10_together : GoodIn wsL_law wsX10_together := goodIn_r _ [949, 19, 39, 303, 304, 305, 18, 306, 223, 950, 951, 952, 38, 953, 954, 136, 955, 135, 956, 233, 234, 235, 55, 957, 263, 264, 265, 958, 959, 960, 961, 962, 864, 865, 866, 56, 963, 964, 965, 966, 1003, 1004, 1005, 1006, 1007, 1008, 1009, 1010, 1011, 1057, 1058, 1059, 1060, 1061, 1062, 1099, 1100, 1101, 1102] (by decide +kernel) (by decide +kernel)
set_option maxRecDepth 20000 in
theorem gL_law_X10_together : GoodIn wsL_law (wsV RL 84 RX10 yX10_together wsX10_together) := goodIn_app (goodIn_of _ (by decide +kernel)) ggL_law_X10_together
set_option maxRecDepth 20000 in
theorem ggL_law_X11_together : GoodIn wsL_law wsX11_together := goodIn_r _ [970, 270, 164, 918, 919, 920, 5, 921, 143, 163, 146, 619, 149, 629, 630, 631, 632, 150, 295, 296, 297, 298, 1012, 1013, 1014, 1015, 1016, 1017, 1018, 1019, 1020, 1021, 1022, 1023, 1024, 1025, 1026, 1027, 1028, 1029, 1030, 1031, 1032, 1033, 1034, 1035, 1036, 1037, 1038, 1039, 1040, 1041, 1042, 1043, 1044, 1045, 1046, 1047, 1048, 1049, 1050, 1051, 1052, 1053, 1054] (by decide +kernel) (by decide +kernel)
set_option maxRecDepth 20000 in
theorem gL_law_X11_together : GoodIn wsL_law (wsV RL 87 RX11 yX11_together wsX11_together) := goodIn_app (goodIn_of _ (by decide +kernel)) ggL_law_X11_together
set_option maxRecDepth 20000 in
theorem ggL_law_X10_pair : GoodIn wsL_law wsX10_pair := goodIn_r _ [974, 39, 975, 976, 977, 38, 978, 136, 954, 957, 263, 264, 18, 265, 223, 979, 951, 952, 953, 955, 135, 956, 233, 234, 235, 55, 958, 959, 960, 961, 962, 864, 865, 866, 56, 980, 964, 965, 966, 1003, 1004, 1005, 1006, 1007, 1008, 1009, 1010, 1011, 1099, 1100, 1101, 1102, 1057, 1058, 1059, 1060, 1061, 1062] (by decide +kernel) (by decide +kernel)
set_option maxRecDepth 20000 in
theorem gL_law_X10_pair : GoodIn wsL_law (wsV RL 88 RX10 yX10_pair wsX10_pair) := goodIn_app (goodIn_of _ (by decide +kernel)) ggL_law_X10_pair
set_option maxRecDepth 20000 in
theorem ggL_law_X11_pair : GoodIn wsL_law wsX11_pair := goodIn_r _ [984, 270, 985, 968, 969, 5, 970, 164, 918, 919, 920, 921, 143, 163, 146, 619, 149, 629, 630, 631, 632, 150, 295, 296, 297, 298, 1012, 1013, 1014, 1015, 1016, 1017, 1018, 1019, 1020, 1021, 1022, 1023, 1024, 1025, 1026, 1027, 1028, 1029, 1030, 1031, 1032, 1033, 1034, 1035, 1036, 1037, 1038, 1039, 1040, 1041, 1042, 1043, 1044, 1045, 1046, 1047, 1048, 1049, 1050, 1051, 1052, 1053, 1054] (by decide +kernel) (by decide +kernel)
set_option maxRecDepth 20000 in
theorem gL_law_X11_pair : GoodIn wsL_law (wsV RL 91 RX11 yX11_pair wsX11_pair) := goodIn_app (goodIn_of _ (by decide +kernel)) ggL_law_X11_pair
set_option maxRecDepth 20000 in
theorem ggL_law_X10_book : GoodIn wsL_law wsX10_book := goodIn_r _ [989, 19, 31, 303, 304, 305, 18, 306, 223, 990, 546, 547, 548, 57, 58, 991, 864, 865, 866, 55, 56, 992, 529, 530, 531, 54, 993, 233, 234, 235, 994, 542, 543, 544, 395, 396, 397, 30, 398, 257, 87, 88, 399, 400, 84, 401, 402, 403, 22, 404, 249, 405, 73, 74, 75, 327, 406, 407, 408, 409, 66, 63, 65, 64, 410, 411, 412, 413, 414, 263, 264, 265, 415, 416, 229, 230, 231, 232, 417, 418, 419, 420, 85, 83, 421, 329, 330, 331, 422, 423, 424, 425, 426, 427, 428, 26, 429, 430, 431, 432, 433, 434, 435, 436, 82, 86, 437, 438, 439, 440, 441, 442, 443, 444, 445, 446, 447, 448, 449, 355, 356, 357, 450, 451, 452, 42, 453, 454, 455, 456, 457, 458, 459, 460, 461, 462, 463, 464, 465, 466, 467, 468, 469, 470, 92, 471, 472, 473, 474, 475, 476, 477, 478, 479, 480, 481, 482, 483, 484, 485, 486, 487, 488, 489, 490, 491, 492, 493, 494, 495, 496, 497, 498, 499, 500, 501, 502, 503, 504, 505, 506, 507, 508, 509, 510, 511, 512, 513, 514, 515, 516, 517, 518, 519, 76, 520, 521, 522, 523, 524, 525, 526, 527, 528, 532, 533, 534, 535, 71, 536, 537, 538, 539, 540, 541, 545, 217, 2, 218, 549, 550, 551, 552, 553, 554, 555, 556, 557, 558, 559, 560, 561, 562, 563, 564, 565, 566, 567, 568, 569, 570, 571, 572, 573, 574, 575, 576, 577, 578, 579, 580, 581, 582, 583, 584, 585, 586, 587, 995, 996, 997, 998, 1003, 1004, 1005, 1006, 1007, 1008, 1009, 1010, 1011, 1057, 1058, 1059, 1060, 1061, 1062, 1076, 1077, 1078, 1079, 1080, 1081, 1082, 1083, 1084, 1085, 1063, 1064, 1065, 1066, 1067, 1068, 1069, 1070, 1071, 1072, 1073, 1074, 1075, 1103, 1104] (by decide +kernel) (by decide +kernel)
set_option maxRecDepth 20000 in
theorem gL_law_X10_book : GoodIn wsL_law (wsV RL 92 RX10 yX10_book wsX10_book) := goodIn_app (goodIn_of _ (by decide +kernel)) ggL_law_X10_book
set_option maxRecDepth 20000 in
theorem ggL_law_X11_book : GoodIn wsL_law wsX11_book := goodIn_r _ [1002, 270, 144, 143, 145, 619, 149, 146, 625, 626, 627, 5, 628, 148, 341, 620, 621, 622, 152, 150, 153, 629, 630, 631, 632, 295, 296, 297, 298, 633, 634, 635, 636, 637, 154, 638, 639, 640, 641, 642, 643, 644, 645, 646, 647, 648, 649, 650, 651, 652, 151, 653, 654, 655, 656, 657, 658, 659, 660, 661, 662, 663, 664, 147, 665, 666, 667, 668, 669, 670, 671, 672, 288, 289, 290, 673, 674, 675, 676, 677, 678, 679, 680, 681, 682, 683, 684, 685, 686, 687, 688, 689, 690, 1012, 1013, 1014, 1015, 1016, 1017, 1018, 1019, 1020, 1021, 1022, 1023, 1024, 1025, 1026, 1027, 1028, 1029, 1030, 1031, 1032, 1033, 1034, 1035, 1036, 1037, 1038, 1039, 1040, 1041, 1042, 1043, 1044, 1045, 1046, 1047, 1048, 1049, 1050, 1051, 1052, 1053, 1054] (by decide +kernel) (by decide +kernel)
set_option maxRecDepth 20000 in
theorem gL_law_X11_book : GoodIn wsL_law (wsV RL 95 RX11 yX11_book wsX11_book) := goodIn_app (goodIn_of _ (by decide +kernel)) ggL_law_X11_book
