set_option maxRecDepth 20000 in
theorem ggL_law_X10_init : GoodIn wsL_law wsX10_init := goodIn_r _ [8, 9, 10, 11, 12, 13, 14, 15, 16, 17, 18, 19, 20, 21, 22, 23, 24, 25, 26, 27, 28, 29, 30, 31, 32, 33, 34, 35, 36, 37, 38, 39, 40, 41, 42, 43, 44, 45, 46, 47, 48, 49, 50, 51, 52, 53, 54, 55, 56, 57, 58, 59, 60, 61, 62, 63, 64, 65, 66, 67, 68, 69, 70, 71, 72, 73, 74, 75, 76, 77, 78, 79, 80, 81, 82, 83, 84, 85, 86, 87, 88, 89, 90, 91, 92, 93, 94, 95, 96, 97, 98, 99, 100, 101, 102, 103, 104, 105, 106, 107, 108, 109, 110, 111, 112, 113, 114, 115, 116, 117, 118, 119, 120, 121, 122, 123, 124, 125, 126, 127, 128, 129, 130, 131, 132, 133, 134, 135, 136, 1055, 1056, 1003, 1004, 1005, 1006, 1007, 1008, 1009, 1010, 1011, 1057, 1058, 1059, 1060, 1061, 1062, 1063, 1064, 1065, 1066, 1067, 1068, 1069, 1070, 1071, 1072, 1073, 1074, 1075, 1076, 1077, 1078, 1079, 1080, 1081, 1082, 1083, 1084, 1085, 1086, 1087, 1088, 1089, 1090, 1091, 1092, 1093, 1094, 1095, 1096, 1097, 1098, 1099, 1100, 1101, 1102, 1103, 1104, 1105, 1106, 1107, 1108, 1109, 1110, 1111, 1112, 1113] (by decide +kernel) (by decide +kernel)
set_option maxRecDepth 20000 in
theorem gL_law_X10_init : GoodIn wsL_law (wsX10_init) := ggL_law_X10_init
set_option maxRecDepth 20000 in
theorem ggL_law_X11_init : GoodIn wsL_law wsX11_init := goodIn_r _ [139, 140, 10, 11, 49, 141, 142, 44, 143, 144, 145, 146, 147, 148, 149, 150, 151, 152, 153, 154, 155, 156, 157, 158, 159, 160, 161, 162, 163, 164, 1012, 1013, 1014, 1015, 1016, 1017, 1018, 1019, 1020, 1021, 1022, 1023, 1024, 1025, 1026, 1027, 1028, 1029, 1030, 1031, 1032, 1033, 1034, 1035, 1036, 1037, 1038, 1039, 1040, 1041, 1042, 1043, 1044, 1045, 1046, 1047, 1048, 1049, 1050, 1051, 1052, 1053, 1054] (by decide +kernel) (by decide +kernel)
set_option maxRecDepth 20000 in
theorem gL_law_X11_init : GoodIn wsL_law (wsX11_init) := ggL_law_X11_init
set_option maxRecDepth 20000 in
theorem ggL_law_X10_feed : GoodIn wsL_law wsX10_feed := goodIn_r _ [168, 15, 169, 170, 171, 14, 172, 173, 174, 175, 176, 177, 50, 178, 179, 180, 181, 1003, 1004, 1005, 1006, 1007, 1008, 1009, 1010, 1011, 1055, 1056] (by decide +kernel) (by decide +kernel)
set_option maxRecDepth 20000 in
theorem gL_law_X10_feed : GoodIn wsL_law (wsV RL 13 RX10 yX10_feed wsX10_feed) := goodIn_app (goodIn_of _ (by decide +kernel)) ggL_law_X10_feed
set_option maxRecDepth 20000 in
theorem ggL_law_X11_feed : GoodIn wsL_law wsX11_feed := goodIn_r _ [185, 186, 187, 188, 189, 5, 190, 141, 1012, 1013, 1014, 1015, 1016, 1017, 1018, 1019, 1020, 1021, 1022, 1023, 1024, 1025, 1026, 1027, 1028, 1029, 1030, 1031, 1032, 1033, 1034, 1035, 1036, 1037, 1038, 1039, 1040, 1041, 1042, 1043, 1044, 1045, 1046, 1047, 1048, 1049, 1050, 1051, 1052, 1053, 1054] (by decide +kernel) (by decide +kernel)
set_option maxRecDepth 20000 in
theorem gL_law_X11_feed : GoodIn wsL_law (wsV RL 17 RX11 yX11_feed wsX11_feed) := goodIn_app (goodIn_of _ (by decide +kernel)) ggL_law_X11_feed
set_option maxRecDepth 20000 in
theorem ggL_law_X10_entry : GoodIn wsL_law wsX10_entry := goodIn_r _ [194, 15, 19, 45, 195, 196, 197, 2, 198, 199, 200, 201, 202, 203, 204, 18, 205, 178, 179, 180, 14, 181, 173, 206, 207, 208, 209, 210, 211, 212, 213, 50, 214, 215, 216, 217, 218, 219, 220, 221, 222, 223, 224, 225, 226, 227, 55, 228, 229, 230, 231, 56, 232, 233, 234, 235, 236, 237, 238, 239, 58, 54, 57, 240, 241, 242, 243, 244, 23, 31, 245, 246, 247, 22, 248, 249, 250, 251, 74, 252, 253, 254, 255, 30, 256, 257, 258, 259, 260, 261, 262, 263, 264, 265, 1003, 1004, 1005, 1006, 1007, 1008, 1009, 1010, 1011, 1055, 1056, 1057, 1058, 1059, 1060, 1061, 1062, 1063, 1064, 1065, 1066, 1067, 1068, 1076, 1077, 1078, 1079, 1080, 1081, 1082, 1083, 1084, 1085] (by decide +kernel) (by decide +kernel)
set_option maxRecDepth 20000 in
theorem gL_law_X10_entry : GoodIn wsL_law (wsV RL 18 RX10 yX10_entry wsX10_entry) := goodIn_app (goodIn_of _ (by decide +kernel)) ggL_law_X10_entry
set_option maxRecDepth 20000 in
theorem ggL_law_X11_entry : GoodIn wsL_law wsX11_entry := goodIn_r _ [269, 186, 142, 270, 146, 143, 144, 145, 147, 271, 272, 5, 273, 274, 275, 276, 277, 278, 279, 280, 281, 282, 283, 284, 141, 285, 286, 287, 288, 289, 290, 291, 292, 293, 294, 295, 296, 297, 298, 1012, 1013, 1014, 1015, 1016, 1017, 1018, 1019, 1020, 1021, 1022, 1023, 1024, 1025, 1026, 1027, 1028, 1029, 1030, 1031, 1032, 1033, 1034, 1035, 1036, 1037, 1038, 1039, 1040, 1041, 1042, 1043, 1044, 1045, 1046, 1047, 1048, 1049, 1050, 1051, 1052, 1053, 1054] (by decide +kernel) (by decide +kernel)
set_option maxRecDepth 20000 in
theorem gL_law_X11_entry : GoodIn wsL_law (wsV RL 22 RX11 yX11_entry wsX11_entry) := goodIn_app (goodIn_of _ (by decide +kernel)) ggL_law_X11_entry
set_option maxRecDepth 20000 in
theorem ggL_law_X10_drop : GoodIn wsL_law wsX10_drop := goodIn_r _ [302, 19, 303, 304, 305, 18, 306, 223, 307, 308, 309, 310, 54, 311, 312, 313, 314, 55, 57, 56, 58, 241, 242, 243, 2, 244, 23, 31, 245, 246, 247, 22, 248, 249, 250, 251, 74, 252, 253, 254, 255, 30, 256, 257, 1003, 1004, 1005, 1006, 1007, 1008, 1009, 1010, 1011, 1057, 1058, 1059, 1060, 1061, 1062, 1063, 1064, 1065, 1066, 1067, 1068, 1076, 1077, 1078, 1079, 1080, 1081, 1082, 1083, 1084, 1085] (by decide +kernel) (by decide +kernel)
set_option maxRecDepth 20000 in
theorem gL_law_X10_drop : GoodIn wsL_law (wsV RL 23 RX10 yX10_drop wsX10_drop) := goodIn_app (goodIn_of _ (by decide +kernel)) ggL_law_X10_drop
set_option maxRecDepth 20000 in
theorem ggL_law_X11_drop : GoodIn wsL_law wsX11_drop := goodIn_r _ [318, 270, 143, 144, 145, 146, 147, 1012, 1013, 1014, 1015, 1016, 1017, 1018, 1019, 1020, 1021, 1022, 1023, 1024, 1025, 1026, 1027, 1028, 1029, 1030, 1031, 1032, 1033, 1034, 1035, 1036, 1037, 1038, 1039, 1040, 1041, 1042, 1043, 1044, 1045, 1046, 1047, 1048, 1049, 1050, 1051, 1052, 1053, 1054] (by decide +kernel) (by decide +kernel)
set_option maxRecDepth 20000 in
theorem gL_law_X11_drop : GoodIn wsL_law (wsV RL 27 RX11 yX11_drop wsX11_drop) := goodIn_app (goodIn_of _ (by decide +kernel)) ggL_law_X11_drop
set_option maxRecDepth 20000 in
theorem ggL_law_X10_stroke : GoodIn wsL_law wsX10_stroke := goodIn_r _ [322, 23, 31, 199, 200, 2, 201, 202, 323, 324, 325, 22, 326, 327, 328, 329, 330, 331, 332, 333, 334, 335, 63, 336, 312, 313, 314, 253, 254, 255, 30, 256, 257, 1003, 1004, 1005, 1006, 1007, 1008, 1009, 1010, 1011, 1063, 1064, 1065, 1066, 1067, 1068, 1076, 1077, 1078, 1079, 1080, 1081, 1082, 1083, 1084, 1085] (by decide +kernel) (by decide +kernel)
set_option maxRecDepth 20000 in
theorem gL_law_X10_stroke : GoodIn wsL_law (wsV RL 28 RX10 yX10_stroke wsX10_stroke) := goodIn_app (goodIn_of _ (by decide +kernel)) ggL_law_X10_stroke
set_option maxRecDepth 20000 in
theorem ggL_law_X11_stroke : GoodIn wsL_law wsX11_stroke := goodIn_r _ [340, 341, 148, 274, 275, 5, 276, 277, 1012, 1013, 1014, 1015, 1016, 1017, 1018, 1019, 1020, 1021, 1022, 1023, 1024, 1025, 1026, 1027, 1028, 1029, 1030, 1031, 1032, 1033, 1034, 1035, 1036, 1037, 1038, 1039, 1040, 1041, 1042, 1043, 1044, 1045, 1046, 1047, 1048, 1049, 1050, 1051, 1052, 1053, 1054] (by decide +kernel) (by decide +kernel)
set_option maxRecDepth 20000 in
theorem gL_law_X11_stroke : GoodIn wsL_law (wsV RL 32 RX11 yX11_stroke wsX11_stroke) := goodIn_app (goodIn_of _ (by decide +kernel)) ggL_law_X11_stroke
