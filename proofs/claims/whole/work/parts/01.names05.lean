theorem dX10_of_7 : decode cX10_of 7 = .ok (.aload_n 0, 1) := by decide +kernel
theorem dX10_of_8 : decode cX10_of 8 = .ok (.getfield 46, 3) := by decide +kernel
theorem dX10_of_11 : decode cX10_of 11 = .ok (.iload_n 1, 1) := by decide +kernel
theorem dX10_of_12 : decode cX10_of 12 = .ok (.invokevirtual 184, 3) := by decide +kernel
theorem dX10_of_15 : decode cX10_of 15 = .ok (.ireturn, 1) := by decide +kernel
set_option maxRecDepth 20000 in
theorem ggX10_written_X6_has : GoodIn wsX10_written wsX6_has := goodIn_r _ [7, 8, 87, 88, 89, 90, 91, 92] (by decide +kernel) (by decide +kernel)
set_option maxRecDepth 20000 in
theorem gX10_written_X6_has : GoodIn wsX10_written (wsV RX10 138 RX6 yX6_has wsX6_has) := goodIn_app (goodIn_of _ (by decide +kernel)) ggX10_written_X6_has
set_option maxRecDepth 20000 in
theorem ggX10_written_X6_keysAt : GoodIn wsX10_written wsX6_keysAt := goodIn_r _ [12, 8, 13, 87, 88, 89, 90, 91, 92] (by decide +kernel) (by decide +kernel)
set_option maxRecDepth 20000 in
theorem gX10_written_X6_keysAt : GoodIn wsX10_written (wsV RX10 142 RX6 yX6_keysAt wsX6_keysAt) := goodIn_app (goodIn_of _ (by decide +kernel)) ggX10_written_X6_keysAt
set_option maxRecDepth 20000 in
theorem ggX10_written_X2_spell : GoodIn wsX10_written wsX2_spell := goodIn_r _ [18, 19, 20, 21, 22, 23, 24, 25, 26, 27, 28, 29, 30, 31, 32, 33, 34, 17, 35, 36, 37, 38, 39, 40, 41, 42, 43, 44, 45, 46, 47, 48, 49, 50, 51, 52, 53, 54, 55, 56, 57, 58, 59, 60, 61, 62, 63, 64, 65, 66, 67, 68, 69, 70, 71, 72, 73, 93, 94] (by decide +kernel) (by decide +kernel)
set_option maxRecDepth 20000 in
theorem gX10_written_X2_spell : GoodIn wsX10_written (wsV RX10 187 RX2 yX2_spell wsX2_spell) := goodIn_app (goodIn_of _ (by decide +kernel)) ggX10_written_X2_spell
set_option maxRecDepth 20000 in
theorem ggX10_written_X2_byteAt : GoodIn wsX10_written wsX2_byteAt := goodIn_r _ [77, 19, 36, 93, 94] (by decide +kernel) (by decide +kernel)
set_option maxRecDepth 20000 in
theorem gX10_written_X2_byteAt : GoodIn wsX10_written (wsV RX10 190 RX2 yX2_byteAt wsX2_byteAt) := goodIn_app (goodIn_of _ (by decide +kernel)) ggX10_written_X2_byteAt
theorem dX10_written_0 : decode cX10_written 0 = .ok (.aload_n 0, 1) := by decide +kernel
theorem dX10_written_1 : decode cX10_written 1 = .ok (.getfield 28, 3) := by decide +kernel
theorem dX10_written_4 : decode cX10_written 4 = .ok (.iload_n 1, 1) := by decide +kernel
theorem dX10_written_5 : decode cX10_written 5 = .ok (.invokevirtual 138, 3) := by decide +kernel
theorem dX10_written_8 : decode cX10_written 8 = .ok (.ifCond .ne 5, 3) := by decide +kernel
theorem dX10_written_11 : decode cX10_written 11 = .ok (.iconst (-1), 1) := by decide +kernel
theorem dX10_written_12 : decode cX10_written 12 = .ok (.ireturn, 1) := by decide +kernel
theorem dX10_written_13 : decode cX10_written 13 = .ok (.aload_n 0, 1) := by decide +kernel
theorem dX10_written_14 : decode cX10_written 14 = .ok (.getfield 67, 3) := by decide +kernel
theorem dX10_written_17 : decode cX10_written 17 = .ok (.aload_n 0, 1) := by decide +kernel
theorem dX10_written_18 : decode cX10_written 18 = .ok (.getfield 28, 3) := by decide +kernel
theorem dX10_written_21 : decode cX10_written 21 = .ok (.iload_n 1, 1) := by decide +kernel
theorem dX10_written_22 : decode cX10_written 22 = .ok (.invokevirtual 142, 3) := by decide +kernel
theorem dX10_written_25 : decode cX10_written 25 = .ok (.invokevirtual 187, 3) := by decide +kernel
theorem dX10_written_28 : decode cX10_written 28 = .ok (.aload_n 0, 1) := by decide +kernel
theorem dX10_written_29 : decode cX10_written 29 = .ok (.getfield 67, 3) := by decide +kernel
theorem dX10_written_32 : decode cX10_written 32 = .ok (.iload_n 2, 1) := by decide +kernel
theorem dX10_written_33 : decode cX10_written 33 = .ok (.invokevirtual 190, 3) := by decide +kernel
theorem dX10_written_36 : decode cX10_written 36 = .ok (.ireturn, 1) := by decide +kernel
set_option maxRecDepth 20000 in
theorem ggX10_plan_X8_size : GoodIn wsX10_plan wsX8_size := goodIn_r _ [7, 8, 289, 290] (by decide +kernel) (by decide +kernel)
set_option maxRecDepth 20000 in
theorem gX10_plan_X8_size : GoodIn wsX10_plan (wsV RX10 83 RX8 yX8_size wsX8_size) := goodIn_app (goodIn_of _ (by decide +kernel)) ggX10_plan_X8_size
set_option maxRecDepth 20000 in
theorem ggX10_plan_X5_take : GoodIn wsX10_plan wsX5_take := goodIn_r _ [13, 14, 15, 16, 17, 18, 6, 19, 8, 20, 291, 292, 293, 294, 295, 296, 297, 298, 299, 300, 301, 302, 303, 289, 290] (by decide +kernel) (by decide +kernel)
set_option maxRecDepth 20000 in
theorem gX10_plan_X5_take : GoodIn wsX10_plan (wsV RX10 191 RX5 yX5_take wsX5_take) := goodIn_app (goodIn_of _ (by decide +kernel)) ggX10_plan_X5_take
set_option maxRecDepth 20000 in
theorem ggX10_plan_X8_wipe : GoodIn wsX10_plan wsX8_wipe := goodIn_r _ [24, 8, 289, 290] (by decide +kernel) (by decide +kernel)
set_option maxRecDepth 20000 in
theorem gX10_plan_X8_wipe : GoodIn wsX10_plan (wsV RX10 112 RX8 yX8_wipe wsX8_wipe) := goodIn_app (goodIn_of _ (by decide +kernel)) ggX10_plan_X8_wipe
set_option maxRecDepth 20000 in
theorem ggX10_plan_X5_tookWords : GoodIn wsX10_plan wsX5_tookWords := goodIn_r _ [28, 14, 15, 29, 30, 31, 291, 292, 293, 294, 295, 296, 297, 298, 299, 300, 301, 302, 303] (by decide +kernel) (by decide +kernel)
set_option maxRecDepth 20000 in
theorem gX10_plan_X5_tookWords : GoodIn wsX10_plan (wsV RX10 195 RX5 yX5_tookWords wsX5_tookWords) := goodIn_app (goodIn_of _ (by decide +kernel)) ggX10_plan_X5_tookWords
set_option maxRecDepth 20000 in
theorem ggX10_plan_X5_make : GoodIn wsX10_plan wsX5_make := goodIn_r _ [35, 36, 14, 15, 37, 38, 39, 40, 41, 42, 43, 44, 45, 46, 47, 48, 49, 12, 50, 51, 52, 53, 54, 55, 56, 57, 58, 59, 60, 61, 62, 63, 64, 65, 66, 67, 68, 69, 70, 71, 72, 73, 74, 75, 76, 77, 78, 79, 80, 81, 82, 83, 84, 85, 86, 87, 88, 89, 90, 91, 92, 93, 94, 95, 96, 97, 98, 99, 100, 101, 102, 103, 104, 105, 106, 107, 108, 109, 110, 111, 112, 113, 114, 115, 116, 117, 118, 119, 120, 121, 122, 123, 124, 125, 126, 127, 128, 129, 130, 131, 132, 133, 134, 135, 136, 137, 138, 139, 140, 141, 142, 143, 144, 145, 146, 147, 148, 149, 150, 151, 152, 153, 154, 155, 156, 157, 158, 29, 30, 31, 159, 160, 161, 162, 163, 164, 165, 166, 167, 168, 169, 170, 171, 172, 173, 174, 175, 176, 177, 178, 179, 180, 181, 182, 183, 184, 185, 186, 187, 188, 189, 190, 191, 192, 193, 194, 195, 196, 197, 198, 199, 200, 201, 202, 203, 204, 205, 206, 207, 208, 209, 210, 211, 212, 213, 214, 215, 216, 217, 218, 219, 220, 221, 222, 223, 224, 225, 226, 227, 228, 229, 230, 231, 232, 233, 234, 235, 236, 237, 238, 239, 240, 241, 242, 243, 244, 245, 246, 247, 248, 249, 250, 251, 252, 253, 254, 255, 256, 257, 258, 259, 260, 261, 262, 263, 264, 265, 266, 267, 268, 269, 270, 271, 272, 273, 274, 275, 291, 292, 293, 294, 295, 296, 297, 298, 299, 300, 301, 302, 303, 304, 305, 306, 307, 308, 309, 310, 311, 312, 313, 314, 315, 316, 317, 318, 319, 320, 321, 322, 323, 324, 325, 326, 327, 328, 329, 330, 331] (by decide +kernel) (by decide +kernel)
set_option maxRecDepth 20000 in
theorem gX10_plan_X5_make : GoodIn wsX10_plan (wsV RX10 198 RX5 yX5_make wsX5_make) := goodIn_app (goodIn_of _ (by decide +kernel)) ggX10_plan_X5_make
set_option maxRecDepth 20000 in
theorem ggX10_plan_X5_plannedStrokes : GoodIn wsX10_plan wsX5_plannedStrokes := goodIn_r _ [279, 45, 291, 292, 293, 294, 295, 296, 297, 298, 299, 300, 301, 302, 303] (by decide +kernel) (by decide +kernel)
set_option maxRecDepth 20000 in
theorem gX10_plan_X5_plannedStrokes : GoodIn wsX10_plan (wsV RX10 163 RX5 yX5_plannedStrokes wsX5_plannedStrokes) := goodIn_app (goodIn_of _ (by decide +kernel)) ggX10_plan_X5_plannedStrokes
theorem dX10_plan_0 : decode cX10_plan 0 = .ok (.iload_n 1, 1) := by decide +kernel
theorem dX10_plan_1 : decode cX10_plan 1 = .ok (.iconst 1, 1) := by decide +kernel
theorem dX10_plan_2 : decode cX10_plan 2 = .ok (.if_icmp .lt 20, 3) := by decide +kernel
theorem dX10_plan_5 : decode cX10_plan 5 = .ok (.iload_n 1, 1) := by decide +kernel
theorem dX10_plan_6 : decode cX10_plan 6 = .ok (.bipush 60, 2) := by decide +kernel
theorem dX10_plan_8 : decode cX10_plan 8 = .ok (.if_icmp .gt 14, 3) := by decide +kernel
theorem dX10_plan_11 : decode cX10_plan 11 = .ok (.iload_n 1, 1) := by decide +kernel
theorem dX10_plan_12 : decode cX10_plan 12 = .ok (.aload_n 0, 1) := by decide +kernel
theorem dX10_plan_13 : decode cX10_plan 13 = .ok (.getfield 10, 3) := by decide +kernel
theorem dX10_plan_16 : decode cX10_plan 16 = .ok (.invokevirtual 83, 3) := by decide +kernel
theorem dX10_plan_19 : decode cX10_plan 19 = .ok (.if_icmp .le 5, 3) := by decide +kernel
theorem dX10_plan_22 : decode cX10_plan 22 = .ok (.iconst (-1), 1) := by decide +kernel
theorem dX10_plan_23 : decode cX10_plan 23 = .ok (.ireturn, 1) := by decide +kernel
theorem dX10_plan_24 : decode cX10_plan 24 = .ok (.aload_n 0, 1) := by decide +kernel
theorem dX10_plan_25 : decode cX10_plan 25 = .ok (.getfield 53, 3) := by decide +kernel
theorem dX10_plan_28 : decode cX10_plan 28 = .ok (.aload_n 0, 1) := by decide +kernel
theorem dX10_plan_29 : decode cX10_plan 29 = .ok (.getfield 10, 3) := by decide +kernel
theorem dX10_plan_32 : decode cX10_plan 32 = .ok (.iload_n 1, 1) := by decide +kernel
theorem dX10_plan_33 : decode cX10_plan 33 = .ok (.invokevirtual 191, 3) := by decide +kernel
theorem dX10_plan_36 : decode cX10_plan 36 = .ok (.aload_n 0, 1) := by decide +kernel
theorem dX10_plan_37 : decode cX10_plan 37 = .ok (.getfield 10, 3) := by decide +kernel
theorem dX10_plan_40 : decode cX10_plan 40 = .ok (.invokevirtual 112, 3) := by decide +kernel
theorem dX10_plan_43 : decode cX10_plan 43 = .ok (.aload_n 0, 1) := by decide +kernel
theorem dX10_plan_44 : decode cX10_plan 44 = .ok (.getfield 53, 3) := by decide +kernel
theorem dX10_plan_47 : decode cX10_plan 47 = .ok (.invokevirtual 195, 3) := by decide +kernel
theorem dX10_plan_50 : decode cX10_plan 50 = .ok (.ifCond .ne 5, 3) := by decide +kernel
theorem dX10_plan_53 : decode cX10_plan 53 = .ok (.iconst (-1), 1) := by decide +kernel
theorem dX10_plan_54 : decode cX10_plan 54 = .ok (.ireturn, 1) := by decide +kernel
theorem dX10_plan_55 : decode cX10_plan 55 = .ok (.aload_n 0, 1) := by decide +kernel
theorem dX10_plan_56 : decode cX10_plan 56 = .ok (.getfield 53, 3) := by decide +kernel
theorem dX10_plan_59 : decode cX10_plan 59 = .ok (.invokevirtual 198, 3) := by decide +kernel
theorem dX10_plan_62 : decode cX10_plan 62 = .ok (.ifCond .eq 13, 3) := by decide +kernel
theorem dX10_plan_65 : decode cX10_plan 65 = .ok (.aload_n 0, 1) := by decide +kernel
theorem dX10_plan_66 : decode cX10_plan 66 = .ok (.getfield 53, 3) := by decide +kernel
theorem dX10_plan_69 : decode cX10_plan 69 = .ok (.invokevirtual 163, 3) := by decide +kernel
theorem dX10_plan_72 : decode cX10_plan 72 = .ok (.goto 5, 3) := by decide +kernel
theorem dX10_plan_75 : decode cX10_plan 75 = .ok (.bipush (-2), 2) := by decide +kernel
theorem dX10_plan_77 : decode cX10_plan 77 = .ok (.ireturn, 1) := by decide +kernel
set_option maxRecDepth 20000 in
theorem ggX10_planned_X5_plannedAt : GoodIn wsX10_planned wsX5_plannedAt := goodIn_r _ [6, 7, 8, 18, 19, 20, 21, 22, 23, 24, 25, 26, 27, 28, 29, 30] (by decide +kernel) (by decide +kernel)
set_option maxRecDepth 20000 in
theorem gX10_planned_X5_plannedAt : GoodIn wsX10_planned (wsV RX10 201 RX5 yX5_plannedAt wsX5_plannedAt) := goodIn_app (goodIn_of _ (by decide +kernel)) ggX10_planned_X5_plannedAt
theorem dX10_planned_0 : decode cX10_planned 0 = .ok (.aload_n 0, 1) := by decide +kernel
theorem dX10_planned_1 : decode cX10_planned 1 = .ok (.getfield 53, 3) := by decide +kernel
theorem dX10_planned_4 : decode cX10_planned 4 = .ok (.iload_n 1, 1) := by decide +kernel
theorem dX10_planned_5 : decode cX10_planned 5 = .ok (.invokevirtual 201, 3) := by decide +kernel
theorem dX10_planned_8 : decode cX10_planned 8 = .ok (.ireturn, 1) := by decide +kernel
set_option maxRecDepth 20000 in
theorem ggX10_clear_X5_clearness : GoodIn wsX10_clear wsX5_clearness := goodIn_r _ [6, 7, 17, 18, 19, 20, 21, 22, 23, 24, 25, 26, 27, 28, 29] (by decide +kernel) (by decide +kernel)
set_option maxRecDepth 20000 in
theorem gX10_clear_X5_clearness : GoodIn wsX10_clear (wsV RX10 204 RX5 yX5_clearness wsX5_clearness) := goodIn_app (goodIn_of _ (by decide +kernel)) ggX10_clear_X5_clearness
theorem dX10_clear_0 : decode cX10_clear 0 = .ok (.aload_n 0, 1) := by decide +kernel
theorem dX10_clear_1 : decode cX10_clear 1 = .ok (.getfield 53, 3) := by decide +kernel
theorem dX10_clear_4 : decode cX10_clear 4 = .ok (.invokevirtual 204, 3) := by decide +kernel
theorem dX10_clear_7 : decode cX10_clear 7 = .ok (.ireturn, 1) := by decide +kernel
set_option maxRecDepth 20000 in
theorem ggX10_together_X0_has : GoodIn wsX10_together wsX0_has := goodIn_r _ [7, 8, 49, 50, 51, 52, 53, 54] (by decide +kernel) (by decide +kernel)
set_option maxRecDepth 20000 in
theorem gX10_together_X0_has : GoodIn wsX10_together (wsV RX10 116 RX0 yX0_has wsX0_has) := goodIn_app (goodIn_of _ (by decide +kernel)) ggX10_together_X0_has
set_option maxRecDepth 20000 in
theorem ggX10_together_X7_gather : GoodIn wsX10_together wsX7_gather := goodIn_r _ [13, 14, 15, 16, 17, 18, 19, 20, 6, 21, 8, 22, 23, 24, 25, 26, 27, 28, 29, 12, 30, 31, 32, 33, 34, 35, 55, 56, 57, 58, 49, 50, 51, 52, 53, 54] (by decide +kernel) (by decide +kernel)
set_option maxRecDepth 20000 in
theorem gX10_together_X7_gather : GoodIn wsX10_together (wsV RX10 207 RX7 yX7_gather wsX7_gather) := goodIn_app (goodIn_of _ (by decide +kernel)) ggX10_together_X7_gather
set_option maxRecDepth 20000 in
theorem ggX10_together_X7_runInto : GoodIn wsX10_together wsX7_runInto := goodIn_r _ [39, 14, 15, 17, 16, 18, 19, 20, 6, 21, 8, 22, 27, 28, 29, 12, 30, 31, 32, 33, 34, 35, 55, 56, 57, 58, 49, 50, 51, 52, 53, 54] (by decide +kernel) (by decide +kernel)
set_option maxRecDepth 20000 in
theorem gX10_together_X7_runInto : GoodIn wsX10_together (wsV RX10 210 RX7 yX7_runInto wsX7_runInto) := goodIn_app (goodIn_of _ (by decide +kernel)) ggX10_together_X7_runInto
theorem dX10_together_0 : decode cX10_together 0 = .ok (.aload_n 0, 1) := by decide +kernel
theorem dX10_together_1 : decode cX10_together 1 = .ok (.getfield 19, 3) := by decide +kernel
theorem dX10_together_4 : decode cX10_together 4 = .ok (.iload_n 1, 1) := by decide +kernel
theorem dX10_together_5 : decode cX10_together 5 = .ok (.invokevirtual 116, 3) := by decide +kernel
theorem dX10_together_8 : decode cX10_together 8 = .ok (.ifCond .eq 14, 3) := by decide +kernel
theorem dX10_together_11 : decode cX10_together 11 = .ok (.aload_n 0, 1) := by decide +kernel
theorem dX10_together_12 : decode cX10_together 12 = .ok (.getfield 19, 3) := by decide +kernel
theorem dX10_together_15 : decode cX10_together 15 = .ok (.iload_n 2, 1) := by decide +kernel
theorem dX10_together_16 : decode cX10_together 16 = .ok (.invokevirtual 116, 3) := by decide +kernel
theorem dX10_together_19 : decode cX10_together 19 = .ok (.ifCond .ne 5, 3) := by decide +kernel
theorem dX10_together_22 : decode cX10_together 22 = .ok (.iconst (-1), 1) := by decide +kernel
theorem dX10_together_23 : decode cX10_together 23 = .ok (.ireturn, 1) := by decide +kernel
theorem dX10_together_24 : decode cX10_together 24 = .ok (.aload_n 0, 1) := by decide +kernel
theorem dX10_together_25 : decode cX10_together 25 = .ok (.getfield 60, 3) := by decide +kernel
theorem dX10_together_28 : decode cX10_together 28 = .ok (.iload_n 1, 1) := by decide +kernel
theorem dX10_together_29 : decode cX10_together 29 = .ok (.invokevirtual 207, 3) := by decide +kernel
theorem dX10_together_32 : decode cX10_together 32 = .ok (.aload_n 0, 1) := by decide +kernel
theorem dX10_together_33 : decode cX10_together 33 = .ok (.getfield 60, 3) := by decide +kernel
theorem dX10_together_36 : decode cX10_together 36 = .ok (.iload_n 2, 1) := by decide +kernel
theorem dX10_together_37 : decode cX10_together 37 = .ok (.invokevirtual 210, 3) := by decide +kernel
theorem dX10_together_40 : decode cX10_together 40 = .ok (.ifCond .eq 7, 3) := by decide +kernel
theorem dX10_together_43 : decode cX10_together 43 = .ok (.iconst 1, 1) := by decide +kernel
theorem dX10_together_44 : decode cX10_together 44 = .ok (.goto 4, 3) := by decide +kernel
theorem dX10_together_47 : decode cX10_together 47 = .ok (.iconst 0, 1) := by decide +kernel
theorem dX10_together_48 : decode cX10_together 48 = .ok (.ireturn, 1) := by decide +kernel
set_option maxRecDepth 20000 in
theorem ggX10_pair_X7_pairAt : GoodIn wsX10_pair wsX7_pairAt := goodIn_r _ [6, 7, 8, 9, 10, 11, 12, 13, 14, 15, 16, 17, 5, 18, 19, 20, 21, 22, 23, 24, 25, 26, 27, 28, 29, 30, 31, 32, 33, 34, 35, 36, 37, 38, 48, 49, 50, 51, 52, 53, 54, 55, 56, 57] (by decide +kernel) (by decide +kernel)
set_option maxRecDepth 20000 in
theorem gX10_pair_X7_pairAt : GoodIn wsX10_pair (wsV RX10 213 RX7 yX7_pairAt wsX7_pairAt) := goodIn_app (goodIn_of _ (by decide +kernel)) ggX10_pair_X7_pairAt
theorem dX10_pair_0 : decode cX10_pair 0 = .ok (.iload_n 1, 1) := by decide +kernel
theorem dX10_pair_1 : decode cX10_pair 1 = .ok (.ifCond .ge 7, 3) := by decide +kernel
theorem dX10_pair_4 : decode cX10_pair 4 = .ok (.iconst (-1), 1) := by decide +kernel
theorem dX10_pair_5 : decode cX10_pair 5 = .ok (.goto 11, 3) := by decide +kernel
theorem dX10_pair_8 : decode cX10_pair 8 = .ok (.aload_n 0, 1) := by decide +kernel
theorem dX10_pair_9 : decode cX10_pair 9 = .ok (.getfield 60, 3) := by decide +kernel
theorem dX10_pair_12 : decode cX10_pair 12 = .ok (.iload_n 1, 1) := by decide +kernel
theorem dX10_pair_13 : decode cX10_pair 13 = .ok (.invokevirtual 213, 3) := by decide +kernel
theorem dX10_pair_16 : decode cX10_pair 16 = .ok (.ireturn, 1) := by decide +kernel
set_option maxRecDepth 20000 in
theorem ggX10_book_X0_has : GoodIn wsX10_book wsX0_has := goodIn_r _ [7, 8, 274, 275, 276, 277, 278, 279] (by decide +kernel) (by decide +kernel)
set_option maxRecDepth 20000 in
theorem gX10_book_X0_has : GoodIn wsX10_book (wsV RX10 116 RX0 yX0_has wsX0_has) := goodIn_app (goodIn_of _ (by decide +kernel)) ggX10_book_X0_has
set_option maxRecDepth 20000 in
theorem ggX10_book_X0_letterAt : GoodIn wsX10_book wsX0_letterAt := goodIn_r _ [12, 8, 13, 14, 274, 275, 276, 277, 278, 279] (by decide +kernel) (by decide +kernel)
set_option maxRecDepth 20000 in
theorem gX10_book_X0_letterAt : GoodIn wsX10_book (wsV RX10 216 RX0 yX0_letterAt wsX0_letterAt) := goodIn_app (goodIn_of _ (by decide +kernel)) ggX10_book_X0_letterAt
set_option maxRecDepth 20000 in
theorem ggX10_book_X0_strokeAt : GoodIn wsX10_book wsX0_strokeAt := goodIn_r _ [18, 8, 19, 20, 274, 275, 276, 277, 278, 279] (by decide +kernel) (by decide +kernel)
set_option maxRecDepth 20000 in
theorem gX10_book_X0_strokeAt : GoodIn wsX10_book (wsV RX10 220 RX0 yX0_strokeAt wsX0_strokeAt) := goodIn_app (goodIn_of _ (by decide +kernel)) ggX10_book_X0_strokeAt
set_option maxRecDepth 20000 in
theorem ggX10_book_X0_kindOf : GoodIn wsX10_book wsX0_kindOf := goodIn_r _ [24, 8, 25, 274, 275, 276, 277, 278, 279] (by decide +kernel) (by decide +kernel)
set_option maxRecDepth 20000 in
theorem gX10_book_X0_kindOf : GoodIn wsX10_book (wsV RX10 223 RX0 yX0_kindOf wsX0_kindOf) := goodIn_app (goodIn_of _ (by decide +kernel)) ggX10_book_X0_kindOf
set_option maxRecDepth 20000 in
theorem ggX10_book_X0_strokesOf : GoodIn wsX10_book wsX0_strokesOf := goodIn_r _ [29, 8, 19, 274, 275, 276, 277, 278, 279] (by decide +kernel) (by decide +kernel)
set_option maxRecDepth 20000 in
theorem gX10_book_X0_strokesOf : GoodIn wsX10_book (wsV RX10 226 RX0 yX0_strokesOf wsX0_strokesOf) := goodIn_app (goodIn_of _ (by decide +kernel)) ggX10_book_X0_strokesOf
set_option maxRecDepth 20000 in
theorem ggX10_book_X0_lengthOf : GoodIn wsX10_book wsX0_lengthOf := goodIn_r _ [33, 8, 13, 274, 275, 276, 277, 278, 279] (by decide +kernel) (by decide +kernel)
set_option maxRecDepth 20000 in
theorem gX10_book_X0_lengthOf : GoodIn wsX10_book (wsV RX10 227 RX0 yX0_lengthOf wsX0_lengthOf) := goodIn_app (goodIn_of _ (by decide +kernel)) ggX10_book_X0_lengthOf
set_option maxRecDepth 20000 in
theorem ggX10_book_X9_settle : GoodIn wsX10_book wsX9_settle := goodIn_r _ [38, 39, 40, 41, 42, 43, 44, 45, 46, 47, 48, 49, 50, 51, 52, 53, 54, 55, 56, 57, 58, 59, 60, 61, 62, 63, 64, 65, 66, 67, 68, 69, 70, 6, 71, 8, 72, 27, 28, 29, 19, 73, 74, 75, 76, 20, 77, 78, 79, 80, 37, 81, 82, 83, 84, 85, 86, 87, 88, 89, 90, 91, 92, 93, 94, 95, 96, 97, 98, 99, 100, 101, 102, 103, 104, 105, 106, 107, 108, 109, 110, 111, 112, 113, 114, 115, 116, 117, 118, 119, 120, 121, 122, 123, 124, 125, 126, 127, 128, 129, 130, 131, 132, 133, 134, 135, 136, 137, 138, 139, 140, 141, 142, 143, 144, 145, 146, 147, 148, 149, 150, 151, 152, 153, 154, 155, 156, 157, 158, 159, 160, 161, 162, 163, 164, 165, 166, 167, 168, 169, 170, 171, 172, 173, 174, 175, 176, 177, 178, 179, 180, 181, 182, 183, 184, 185, 186, 187, 188, 189, 190, 191, 192, 193, 194, 195, 196, 197, 198, 199, 200, 201, 202, 203, 204, 205, 206, 22, 23, 24, 25, 207, 208, 209, 210, 211, 212, 213, 214, 215, 216, 217, 31, 32, 33, 13, 218, 10, 11, 12, 14, 219, 220, 221, 222, 223, 224, 225, 226, 227, 228, 229, 230, 231, 232, 233, 234, 235, 236, 237, 238, 239, 240, 241, 242, 243, 244, 245, 246, 247, 248, 249, 250, 251, 252, 253, 254, 255, 256, 257, 258, 259, 260, 280, 281, 282, 283, 284, 285, 286, 287, 288, 289, 290, 291, 292, 293, 294, 295, 274, 275, 276, 277, 278, 279, 296, 297, 298, 299, 300, 301, 302, 303, 304] (by decide +kernel) (by decide +kernel)
set_option maxRecDepth 20000 in
theorem gX10_book_X9_settle : GoodIn wsX10_book (wsV RX10 146 RX9 yX9_settle wsX9_settle) := goodIn_app (goodIn_of _ (by decide +kernel)) ggX10_book_X9_settle
set_option maxRecDepth 20000 in
theorem ggX10_book_X9_countOf : GoodIn wsX10_book wsX9_countOf := goodIn_r _ [264, 43, 40, 86, 117, 118, 119, 48, 120, 55, 62, 280, 281, 282, 283, 284, 285, 286, 287, 288, 289, 290, 291, 292, 293, 294, 295] (by decide +kernel) (by decide +kernel)
set_option maxRecDepth 20000 in
theorem gX10_book_X9_countOf : GoodIn wsX10_book (wsV RX10 230 RX9 yX9_countOf wsX9_countOf) := goodIn_app (goodIn_of _ (by decide +kernel)) ggX10_book_X9_countOf
theorem dX10_book_0 : decode cX10_book 0 = .ok (.aload_n 0, 1) := by decide +kernel
theorem dX10_book_1 : decode cX10_book 1 = .ok (.getfield 19, 3) := by decide +kernel
theorem dX10_book_4 : decode cX10_book 4 = .ok (.iload_n 1, 1) := by decide +kernel
theorem dX10_book_5 : decode cX10_book 5 = .ok (.invokevirtual 116, 3) := by decide +kernel
theorem dX10_book_8 : decode cX10_book 8 = .ok (.ifCond .ne 5, 3) := by decide +kernel
theorem dX10_book_11 : decode cX10_book 11 = .ok (.iconst (-1), 1) := by decide +kernel
theorem dX10_book_12 : decode cX10_book 12 = .ok (.ireturn, 1) := by decide +kernel
theorem dX10_book_13 : decode cX10_book 13 = .ok (.iload_n 2, 1) := by decide +kernel
theorem dX10_book_14 : decode cX10_book 14 = .ok (.bipush 20, 2) := by decide +kernel
theorem dX10_book_16 : decode cX10_book 16 = .ok (.if_icmp .lt 16, 3) := by decide +kernel
theorem dX10_book_19 : decode cX10_book 19 = .ok (.aload_n 0, 1) := by decide +kernel
theorem dX10_book_20 : decode cX10_book 20 = .ok (.getfield 19, 3) := by decide +kernel
theorem dX10_book_23 : decode cX10_book 23 = .ok (.iload_n 1, 1) := by decide +kernel
theorem dX10_book_24 : decode cX10_book 24 = .ok (.iload_n 2, 1) := by decide +kernel
theorem dX10_book_25 : decode cX10_book 25 = .ok (.bipush 20, 2) := by decide +kernel
theorem dX10_book_27 : decode cX10_book 27 = .ok (.isub, 1) := by decide +kernel
theorem dX10_book_28 : decode cX10_book 28 = .ok (.invokevirtual 216, 3) := by decide +kernel
theorem dX10_book_31 : decode cX10_book 31 = .ok (.ireturn, 1) := by decide +kernel
theorem dX10_book_32 : decode cX10_book 32 = .ok (.iload_n 2, 1) := by decide +kernel
theorem dX10_book_33 : decode cX10_book 33 = .ok (.bipush 10, 2) := by decide +kernel
theorem dX10_book_35 : decode cX10_book 35 = .ok (.if_icmp .lt 16, 3) := by decide +kernel
theorem dX10_book_38 : decode cX10_book 38 = .ok (.aload_n 0, 1) := by decide +kernel
theorem dX10_book_39 : decode cX10_book 39 = .ok (.getfield 19, 3) := by decide +kernel
theorem dX10_book_42 : decode cX10_book 42 = .ok (.iload_n 1, 1) := by decide +kernel
theorem dX10_book_43 : decode cX10_book 43 = .ok (.iload_n 2, 1) := by decide +kernel
theorem dX10_book_44 : decode cX10_book 44 = .ok (.bipush 10, 2) := by decide +kernel
theorem dX10_book_46 : decode cX10_book 46 = .ok (.isub, 1) := by decide +kernel
theorem dX10_book_47 : decode cX10_book 47 = .ok (.invokevirtual 220, 3) := by decide +kernel
theorem dX10_book_50 : decode cX10_book 50 = .ok (.ireturn, 1) := by decide +kernel
theorem dX10_book_51 : decode cX10_book 51 = .ok (.iload_n 2, 1) := by decide +kernel
theorem dX10_book_52 : decode cX10_book 52 = .ok (.tableswitch 75 0 3 #[32, 41, 50, 59], 32) := by decide +kernel
theorem dX10_book_84 : decode cX10_book 84 = .ok (.aload_n 0, 1) := by decide +kernel
theorem dX10_book_85 : decode cX10_book 85 = .ok (.getfield 19, 3) := by decide +kernel
theorem dX10_book_88 : decode cX10_book 88 = .ok (.iload_n 1, 1) := by decide +kernel
theorem dX10_book_89 : decode cX10_book 89 = .ok (.invokevirtual 223, 3) := by decide +kernel
theorem dX10_book_92 : decode cX10_book 92 = .ok (.ireturn, 1) := by decide +kernel
theorem dX10_book_93 : decode cX10_book 93 = .ok (.aload_n 0, 1) := by decide +kernel
theorem dX10_book_94 : decode cX10_book 94 = .ok (.getfield 19, 3) := by decide +kernel
theorem dX10_book_97 : decode cX10_book 97 = .ok (.iload_n 1, 1) := by decide +kernel
theorem dX10_book_98 : decode cX10_book 98 = .ok (.invokevirtual 226, 3) := by decide +kernel
theorem dX10_book_101 : decode cX10_book 101 = .ok (.ireturn, 1) := by decide +kernel
theorem dX10_book_102 : decode cX10_book 102 = .ok (.aload_n 0, 1) := by decide +kernel
theorem dX10_book_103 : decode cX10_book 103 = .ok (.getfield 19, 3) := by decide +kernel
theorem dX10_book_106 : decode cX10_book 106 = .ok (.iload_n 1, 1) := by decide +kernel
theorem dX10_book_107 : decode cX10_book 107 = .ok (.invokevirtual 227, 3) := by decide +kernel
theorem dX10_book_110 : decode cX10_book 110 = .ok (.ireturn, 1) := by decide +kernel
theorem dX10_book_111 : decode cX10_book 111 = .ok (.aload_n 0, 1) := by decide +kernel
theorem dX10_book_112 : decode cX10_book 112 = .ok (.getfield 46, 3) := by decide +kernel
theorem dX10_book_115 : decode cX10_book 115 = .ok (.invokevirtual 146, 3) := by decide +kernel
theorem dX10_book_118 : decode cX10_book 118 = .ok (.aload_n 0, 1) := by decide +kernel
theorem dX10_book_119 : decode cX10_book 119 = .ok (.getfield 46, 3) := by decide +kernel
theorem dX10_book_122 : decode cX10_book 122 = .ok (.iload_n 1, 1) := by decide +kernel
theorem dX10_book_123 : decode cX10_book 123 = .ok (.invokevirtual 230, 3) := by decide +kernel
theorem dX10_book_126 : decode cX10_book 126 = .ok (.ireturn, 1) := by decide +kernel
theorem dX10_book_127 : decode cX10_book 127 = .ok (.iconst (-1), 1) := by decide +kernel
theorem dX10_book_128 : decode cX10_book 128 = .ok (.ireturn, 1) := by decide +kernel
set_option maxRecDepth 20000 in
theorem ggX10_readAnew_X6_unread : GoodIn wsX10_readAnew wsX6_unread := goodIn_r _ [7, 8, 9, 10, 11, 12, 28, 29, 30, 31, 32, 33] (by decide +kernel) (by decide +kernel)
set_option maxRecDepth 20000 in
theorem gX10_readAnew_X6_unread : GoodIn wsX10_readAnew (wsV RX10 233 RX6 yX6_unread wsX6_unread) := goodIn_app (goodIn_of _ (by decide +kernel)) ggX10_readAnew_X6_unread
set_option maxRecDepth 20000 in
theorem ggX10_readAnew_X9_forget : GoodIn wsX10_readAnew wsX9_forget := goodIn_r _ [17, 18, 34, 35, 36, 37, 38, 39, 40, 41, 42, 43] (by decide +kernel) (by decide +kernel)
set_option maxRecDepth 20000 in
theorem gX10_readAnew_X9_forget : GoodIn wsX10_readAnew (wsV RX10 131 RX9 yX9_forget wsX9_forget) := goodIn_app (goodIn_of _ (by decide +kernel)) ggX10_readAnew_X9_forget
theorem dX10_readAnew_0 : decode cX10_readAnew 0 = .ok (.aload_n 0, 1) := by decide +kernel
theorem dX10_readAnew_1 : decode cX10_readAnew 1 = .ok (.getfield 28, 3) := by decide +kernel
theorem dX10_readAnew_4 : decode cX10_readAnew 4 = .ok (.iload_n 1, 1) := by decide +kernel
theorem dX10_readAnew_5 : decode cX10_readAnew 5 = .ok (.invokevirtual 233, 3) := by decide +kernel
theorem dX10_readAnew_8 : decode cX10_readAnew 8 = .ok (.aload_n 0, 1) := by decide +kernel
theorem dX10_readAnew_9 : decode cX10_readAnew 9 = .ok (.getfield 46, 3) := by decide +kernel
theorem dX10_readAnew_12 : decode cX10_readAnew 12 = .ok (.invokevirtual 131, 3) := by decide +kernel
theorem dX10_readAnew_15 : decode cX10_readAnew 15 = .ok (.return_, 1) := by decide +kernel
set_option maxRecDepth 20000 in
theorem ggX10_layOutline_X10_isStroke : GoodIn wsX10_layOutline wsX10_isStroke := goodIn_r _ [5, 6] (by decide +kernel) (by decide +kernel)
set_option maxRecDepth 20000 in
theorem gX10_layOutline_X10_isStroke : GoodIn wsX10_layOutline (va_wsS RX10 122 yX10_isStroke wsX10_isStroke) := goodIn_app (goodIn_of _ (by decide +kernel)) ggX10_layOutline_X10_isStroke
theorem dX10_layOutline_0 : decode cX10_layOutline 0 = .ok (.aload_n 0, 1) := by decide +kernel
theorem dX10_layOutline_1 : decode cX10_layOutline 1 = .ok (.getfield 71, 3) := by decide +kernel
theorem dX10_layOutline_4 : decode cX10_layOutline 4 = .ok (.iconst 0, 1) := by decide +kernel
theorem dX10_layOutline_5 : decode cX10_layOutline 5 = .ok (.iload_n 1, 1) := by decide +kernel
theorem dX10_layOutline_6 : decode cX10_layOutline 6 = .ok (.iastore, 1) := by decide +kernel
theorem dX10_layOutline_7 : decode cX10_layOutline 7 = .ok (.aload_n 0, 1) := by decide +kernel
theorem dX10_layOutline_8 : decode cX10_layOutline 8 = .ok (.getfield 71, 3) := by decide +kernel
theorem dX10_layOutline_11 : decode cX10_layOutline 11 = .ok (.iconst 1, 1) := by decide +kernel
theorem dX10_layOutline_12 : decode cX10_layOutline 12 = .ok (.iload_n 2, 1) := by decide +kernel
theorem dX10_layOutline_13 : decode cX10_layOutline 13 = .ok (.iastore, 1) := by decide +kernel
theorem dX10_layOutline_14 : decode cX10_layOutline 14 = .ok (.aload_n 0, 1) := by decide +kernel
theorem dX10_layOutline_15 : decode cX10_layOutline 15 = .ok (.getfield 71, 3) := by decide +kernel
theorem dX10_layOutline_18 : decode cX10_layOutline 18 = .ok (.iconst 2, 1) := by decide +kernel
theorem dX10_layOutline_19 : decode cX10_layOutline 19 = .ok (.iload_n 3, 1) := by decide +kernel
theorem dX10_layOutline_20 : decode cX10_layOutline 20 = .ok (.iastore, 1) := by decide +kernel
theorem dX10_layOutline_21 : decode cX10_layOutline 21 = .ok (.aload_n 0, 1) := by decide +kernel
theorem dX10_layOutline_22 : decode cX10_layOutline 22 = .ok (.getfield 71, 3) := by decide +kernel
theorem dX10_layOutline_25 : decode cX10_layOutline 25 = .ok (.iconst 3, 1) := by decide +kernel
theorem dX10_layOutline_26 : decode cX10_layOutline 26 = .ok (.iload 4, 2) := by decide +kernel
theorem dX10_layOutline_28 : decode cX10_layOutline 28 = .ok (.iastore, 1) := by decide +kernel
theorem dX10_layOutline_29 : decode cX10_layOutline 29 = .ok (.aload_n 0, 1) := by decide +kernel
theorem dX10_layOutline_30 : decode cX10_layOutline 30 = .ok (.getfield 71, 3) := by decide +kernel
theorem dX10_layOutline_33 : decode cX10_layOutline 33 = .ok (.iconst 4, 1) := by decide +kernel
theorem dX10_layOutline_34 : decode cX10_layOutline 34 = .ok (.iload 5, 2) := by decide +kernel
theorem dX10_layOutline_36 : decode cX10_layOutline 36 = .ok (.iastore, 1) := by decide +kernel
theorem dX10_layOutline_37 : decode cX10_layOutline 37 = .ok (.iconst 0, 1) := by decide +kernel
theorem dX10_layOutline_38 : decode cX10_layOutline 38 = .ok (.istore 6, 2) := by decide +kernel
theorem dX10_layOutline_40 : decode cX10_layOutline 40 = .ok (.iconst 0, 1) := by decide +kernel
theorem dX10_layOutline_41 : decode cX10_layOutline 41 = .ok (.istore 7, 2) := by decide +kernel
theorem dX10_layOutline_43 : decode cX10_layOutline 43 = .ok (.iload 7, 2) := by decide +kernel
theorem dX10_layOutline_45 : decode cX10_layOutline 45 = .ok (.iconst 5, 1) := by decide +kernel
theorem dX10_layOutline_46 : decode cX10_layOutline 46 = .ok (.if_icmp .ge 47, 3) := by decide +kernel
theorem dX10_layOutline_49 : decode cX10_layOutline 49 = .ok (.iload 6, 2) := by decide +kernel
theorem dX10_layOutline_51 : decode cX10_layOutline 51 = .ok (.iload 7, 2) := by decide +kernel
theorem dX10_layOutline_53 : decode cX10_layOutline 53 = .ok (.if_icmp .ne 22, 3) := by decide +kernel
theorem dX10_layOutline_56 : decode cX10_layOutline 56 = .ok (.aload_n 0, 1) := by decide +kernel
theorem dX10_layOutline_57 : decode cX10_layOutline 57 = .ok (.getfield 71, 3) := by decide +kernel
theorem dX10_layOutline_60 : decode cX10_layOutline 60 = .ok (.iload 7, 2) := by decide +kernel
theorem dX10_layOutline_62 : decode cX10_layOutline 62 = .ok (.iaload, 1) := by decide +kernel
theorem dX10_layOutline_63 : decode cX10_layOutline 63 = .ok (.invokestatic 122, 3) := by decide +kernel
theorem dX10_layOutline_66 : decode cX10_layOutline 66 = .ok (.ifCond .eq 9, 3) := by decide +kernel
theorem dX10_layOutline_69 : decode cX10_layOutline 69 = .ok (.iinc 6 1, 3) := by decide +kernel
theorem dX10_layOutline_72 : decode cX10_layOutline 72 = .ok (.goto 15, 3) := by decide +kernel
theorem dX10_layOutline_75 : decode cX10_layOutline 75 = .ok (.aload_n 0, 1) := by decide +kernel
theorem dX10_layOutline_76 : decode cX10_layOutline 76 = .ok (.getfield 71, 3) := by decide +kernel
theorem dX10_layOutline_79 : decode cX10_layOutline 79 = .ok (.iload 7, 2) := by decide +kernel
theorem dX10_layOutline_81 : decode cX10_layOutline 81 = .ok (.iaload, 1) := by decide +kernel
theorem dX10_layOutline_82 : decode cX10_layOutline 82 = .ok (.ifCond .eq 5, 3) := by decide +kernel
theorem dX10_layOutline_85 : decode cX10_layOutline 85 = .ok (.iconst 0, 1) := by decide +kernel
theorem dX10_layOutline_86 : decode cX10_layOutline 86 = .ok (.ireturn, 1) := by decide +kernel
theorem dX10_layOutline_87 : decode cX10_layOutline 87 = .ok (.iinc 7 1, 3) := by decide +kernel
theorem dX10_layOutline_90 : decode cX10_layOutline 90 = .ok (.goto (-47), 3) := by decide +kernel
theorem dX10_layOutline_93 : decode cX10_layOutline 93 = .ok (.iload 6, 2) := by decide +kernel
theorem dX10_layOutline_95 : decode cX10_layOutline 95 = .ok (.ireturn, 1) := by decide +kernel
set_option maxRecDepth 20000 in
theorem ggX10_tapeFits_X8_byteAt : GoodIn wsX10_tapeFits wsX8_byteAt := goodIn_r _ [6, 7, 8, 25, 26] (by decide +kernel) (by decide +kernel)
set_option maxRecDepth 20000 in
theorem gX10_tapeFits_X8_byteAt : GoodIn wsX10_tapeFits (wsV RX10 236 RX8 yX8_byteAt wsX8_byteAt) := goodIn_app (goodIn_of _ (by decide +kernel)) ggX10_tapeFits_X8_byteAt
set_option maxRecDepth 20000 in
theorem ggX10_tapeFits_X0_takesByte : GoodIn wsX10_tapeFits wsX0_takesByte := goodIn_r _ [12, 13, 14, 15] (by decide +kernel) (by decide +kernel)
set_option maxRecDepth 20000 in
theorem gX10_tapeFits_X0_takesByte : GoodIn wsX10_tapeFits (va_wsS RX10 237 yX0_takesByte wsX0_takesByte) := goodIn_app (goodIn_of _ (by decide +kernel)) ggX10_tapeFits_X0_takesByte
theorem dX10_tapeFits_0 : decode cX10_tapeFits 0 = .ok (.iconst 0, 1) := by decide +kernel
theorem dX10_tapeFits_1 : decode cX10_tapeFits 1 = .ok (.istore_n 3, 1) := by decide +kernel
theorem dX10_tapeFits_2 : decode cX10_tapeFits 2 = .ok (.iload_n 3, 1) := by decide +kernel
theorem dX10_tapeFits_3 : decode cX10_tapeFits 3 = .ok (.iload_n 2, 1) := by decide +kernel
theorem dX10_tapeFits_4 : decode cX10_tapeFits 4 = .ok (.if_icmp .ge 26, 3) := by decide +kernel
theorem dX10_tapeFits_7 : decode cX10_tapeFits 7 = .ok (.iload_n 1, 1) := by decide +kernel
theorem dX10_tapeFits_8 : decode cX10_tapeFits 8 = .ok (.aload_n 0, 1) := by decide +kernel
theorem dX10_tapeFits_9 : decode cX10_tapeFits 9 = .ok (.getfield 10, 3) := by decide +kernel
theorem dX10_tapeFits_12 : decode cX10_tapeFits 12 = .ok (.iload_n 3, 1) := by decide +kernel
theorem dX10_tapeFits_13 : decode cX10_tapeFits 13 = .ok (.invokevirtual 236, 3) := by decide +kernel
theorem dX10_tapeFits_16 : decode cX10_tapeFits 16 = .ok (.invokestatic 237, 3) := by decide +kernel
theorem dX10_tapeFits_19 : decode cX10_tapeFits 19 = .ok (.ifCond .ne 5, 3) := by decide +kernel
theorem dX10_tapeFits_22 : decode cX10_tapeFits 22 = .ok (.iconst 0, 1) := by decide +kernel
theorem dX10_tapeFits_23 : decode cX10_tapeFits 23 = .ok (.ireturn, 1) := by decide +kernel
theorem dX10_tapeFits_24 : decode cX10_tapeFits 24 = .ok (.iinc 3 1, 3) := by decide +kernel
theorem dX10_tapeFits_27 : decode cX10_tapeFits 27 = .ok (.goto (-25), 3) := by decide +kernel
theorem dX10_tapeFits_30 : decode cX10_tapeFits 30 = .ok (.iconst 1, 1) := by decide +kernel
theorem dX10_tapeFits_31 : decode cX10_tapeFits 31 = .ok (.ireturn, 1) := by decide +kernel
theorem dX10_isStroke_0 : decode cX10_isStroke 0 = .ok (.iload_n 0, 1) := by decide +kernel
theorem dX10_isStroke_1 : decode cX10_isStroke 1 = .ok (.ifCond .le 13, 3) := by decide +kernel
theorem dX10_isStroke_4 : decode cX10_isStroke 4 = .ok (.iload_n 0, 1) := by decide +kernel
theorem dX10_isStroke_5 : decode cX10_isStroke 5 = .ok (.ldc 240, 2) := by decide +kernel
theorem dX10_isStroke_7 : decode cX10_isStroke 7 = .ok (.if_icmp .gt 7, 3) := by decide +kernel
theorem dX10_isStroke_10 : decode cX10_isStroke 10 = .ok (.iconst 1, 1) := by decide +kernel
theorem dX10_isStroke_11 : decode cX10_isStroke 11 = .ok (.goto 4, 3) := by decide +kernel
theorem dX10_isStroke_14 : decode cX10_isStroke 14 = .ok (.iconst 0, 1) := by decide +kernel
theorem dX10_isStroke_15 : decode cX10_isStroke 15 = .ok (.ireturn, 1) := by decide +kernel
theorem dX10_isSmall_0 : decode cX10_isSmall 0 = .ok (.iload_n 0, 1) := by decide +kernel
theorem dX10_isSmall_1 : decode cX10_isSmall 1 = .ok (.bipush 97, 2) := by decide +kernel
theorem dX10_isSmall_3 : decode cX10_isSmall 3 = .ok (.if_icmp .lt 13, 3) := by decide +kernel
theorem dX10_isSmall_6 : decode cX10_isSmall 6 = .ok (.iload_n 0, 1) := by decide +kernel
theorem dX10_isSmall_7 : decode cX10_isSmall 7 = .ok (.bipush 122, 2) := by decide +kernel
theorem dX10_isSmall_9 : decode cX10_isSmall 9 = .ok (.if_icmp .gt 7, 3) := by decide +kernel
theorem dX10_isSmall_12 : decode cX10_isSmall 12 = .ok (.iconst 1, 1) := by decide +kernel
theorem dX10_isSmall_13 : decode cX10_isSmall 13 = .ok (.goto 4, 3) := by decide +kernel
theorem dX10_isSmall_16 : decode cX10_isSmall 16 = .ok (.iconst 0, 1) := by decide +kernel
theorem dX10_isSmall_17 : decode cX10_isSmall 17 = .ok (.ireturn, 1) := by decide +kernel
theorem dX10_isLetter_0 : decode cX10_isLetter 0 = .ok (.iload_n 0, 1) := by decide +kernel
theorem dX10_isLetter_1 : decode cX10_isLetter 1 = .ok (.bipush 97, 2) := by decide +kernel
theorem dX10_isLetter_3 : decode cX10_isLetter 3 = .ok (.if_icmp .lt 9, 3) := by decide +kernel
theorem dX10_isLetter_6 : decode cX10_isLetter 6 = .ok (.iload_n 0, 1) := by decide +kernel
theorem dX10_isLetter_7 : decode cX10_isLetter 7 = .ok (.bipush 122, 2) := by decide +kernel
theorem dX10_isLetter_9 : decode cX10_isLetter 9 = .ok (.if_icmp .le 15, 3) := by decide +kernel
theorem dX10_isLetter_12 : decode cX10_isLetter 12 = .ok (.iload_n 0, 1) := by decide +kernel
theorem dX10_isLetter_13 : decode cX10_isLetter 13 = .ok (.bipush 65, 2) := by decide +kernel
theorem dX10_isLetter_15 : decode cX10_isLetter 15 = .ok (.if_icmp .lt 13, 3) := by decide +kernel
theorem dX10_isLetter_18 : decode cX10_isLetter 18 = .ok (.iload_n 0, 1) := by decide +kernel
theorem dX10_isLetter_19 : decode cX10_isLetter 19 = .ok (.bipush 90, 2) := by decide +kernel
theorem dX10_isLetter_21 : decode cX10_isLetter 21 = .ok (.if_icmp .gt 7, 3) := by decide +kernel
theorem dX10_isLetter_24 : decode cX10_isLetter 24 = .ok (.iconst 1, 1) := by decide +kernel
theorem dX10_isLetter_25 : decode cX10_isLetter 25 = .ok (.goto 4, 3) := by decide +kernel
theorem dX10_isLetter_28 : decode cX10_isLetter 28 = .ok (.iconst 0, 1) := by decide +kernel
theorem dX10_isLetter_29 : decode cX10_isLetter 29 = .ok (.ireturn, 1) := by decide +kernel
theorem dX10_smallOf_0 : decode cX10_smallOf 0 = .ok (.iload_n 0, 1) := by decide +kernel
theorem dX10_smallOf_1 : decode cX10_smallOf 1 = .ok (.bipush 65, 2) := by decide +kernel
theorem dX10_smallOf_3 : decode cX10_smallOf 3 = .ok (.if_icmp .lt 19, 3) := by decide +kernel
theorem dX10_smallOf_6 : decode cX10_smallOf 6 = .ok (.iload_n 0, 1) := by decide +kernel
theorem dX10_smallOf_7 : decode cX10_smallOf 7 = .ok (.bipush 90, 2) := by decide +kernel
theorem dX10_smallOf_9 : decode cX10_smallOf 9 = .ok (.if_icmp .gt 13, 3) := by decide +kernel
theorem dX10_smallOf_12 : decode cX10_smallOf 12 = .ok (.iload_n 0, 1) := by decide +kernel
theorem dX10_smallOf_13 : decode cX10_smallOf 13 = .ok (.bipush 65, 2) := by decide +kernel
theorem dX10_smallOf_15 : decode cX10_smallOf 15 = .ok (.isub, 1) := by decide +kernel
theorem dX10_smallOf_16 : decode cX10_smallOf 16 = .ok (.bipush 97, 2) := by decide +kernel
theorem dX10_smallOf_18 : decode cX10_smallOf 18 = .ok (.iadd, 1) := by decide +kernel
theorem dX10_smallOf_19 : decode cX10_smallOf 19 = .ok (.goto 4, 3) := by decide +kernel
theorem dX10_smallOf_22 : decode cX10_smallOf 22 = .ok (.iload_n 0, 1) := by decide +kernel
theorem dX10_smallOf_23 : decode cX10_smallOf 23 = .ok (.ireturn, 1) := by decide +kernel
theorem dX10_isVowel_0 : decode cX10_isVowel 0 = .ok (.iload_n 0, 1) := by decide +kernel
theorem dX10_isVowel_1 : decode cX10_isVowel 1 = .ok (.bipush 97, 2) := by decide +kernel
theorem dX10_isVowel_3 : decode cX10_isVowel 3 = .ok (.if_icmp .eq 27, 3) := by decide +kernel
theorem dX10_isVowel_6 : decode cX10_isVowel 6 = .ok (.iload_n 0, 1) := by decide +kernel
theorem dX10_isVowel_7 : decode cX10_isVowel 7 = .ok (.bipush 101, 2) := by decide +kernel
theorem dX10_isVowel_9 : decode cX10_isVowel 9 = .ok (.if_icmp .eq 21, 3) := by decide +kernel
theorem dX10_isVowel_12 : decode cX10_isVowel 12 = .ok (.iload_n 0, 1) := by decide +kernel
theorem dX10_isVowel_13 : decode cX10_isVowel 13 = .ok (.bipush 105, 2) := by decide +kernel
theorem dX10_isVowel_15 : decode cX10_isVowel 15 = .ok (.if_icmp .eq 15, 3) := by decide +kernel
theorem dX10_isVowel_18 : decode cX10_isVowel 18 = .ok (.iload_n 0, 1) := by decide +kernel
theorem dX10_isVowel_19 : decode cX10_isVowel 19 = .ok (.bipush 111, 2) := by decide +kernel
theorem dX10_isVowel_21 : decode cX10_isVowel 21 = .ok (.if_icmp .eq 9, 3) := by decide +kernel
theorem dX10_isVowel_24 : decode cX10_isVowel 24 = .ok (.iload_n 0, 1) := by decide +kernel
theorem dX10_isVowel_25 : decode cX10_isVowel 25 = .ok (.bipush 117, 2) := by decide +kernel
theorem dX10_isVowel_27 : decode cX10_isVowel 27 = .ok (.if_icmp .ne 7, 3) := by decide +kernel
theorem dX10_isVowel_30 : decode cX10_isVowel 30 = .ok (.iconst 1, 1) := by decide +kernel
theorem dX10_isVowel_31 : decode cX10_isVowel 31 = .ok (.goto 4, 3) := by decide +kernel
theorem dX10_isVowel_34 : decode cX10_isVowel 34 = .ok (.iconst 0, 1) := by decide +kernel
theorem dX10_isVowel_35 : decode cX10_isVowel 35 = .ok (.ireturn, 1) := by decide +kernel
theorem dX11_init_0 : decode cX11_init 0 = .ok (.aload_n 0, 1) := by decide +kernel
theorem dX11_init_1 : decode cX11_init 1 = .ok (.invokespecial 1, 3) := by decide +kernel
theorem dX11_init_4 : decode cX11_init 4 = .ok (.aload_n 0, 1) := by decide +kernel
theorem dX11_init_5 : decode cX11_init 5 = .ok (.bipush 80, 2) := by decide +kernel
theorem dX11_init_7 : decode cX11_init 7 = .ok (.newarray .byte, 2) := by decide +kernel
theorem dX11_init_9 : decode cX11_init 9 = .ok (.putfield 7, 3) := by decide +kernel
theorem dX11_init_12 : decode cX11_init 12 = .ok (.aload_n 0, 1) := by decide +kernel
theorem dX11_init_13 : decode cX11_init 13 = .ok (.bipush 80, 2) := by decide +kernel
theorem dX11_init_15 : decode cX11_init 15 = .ok (.newarray .byte, 2) := by decide +kernel
theorem dX11_init_17 : decode cX11_init 17 = .ok (.putfield 13, 3) := by decide +kernel
theorem dX11_init_20 : decode cX11_init 20 = .ok (.aload_n 0, 1) := by decide +kernel
theorem dX11_init_21 : decode cX11_init 21 = .ok (.bipush 61, 2) := by decide +kernel
theorem dX11_init_23 : decode cX11_init 23 = .ok (.newarray .int, 2) := by decide +kernel
theorem dX11_init_25 : decode cX11_init 25 = .ok (.putfield 16, 3) := by decide +kernel
theorem dX11_init_28 : decode cX11_init 28 = .ok (.aload_n 0, 1) := by decide +kernel
theorem dX11_init_29 : decode cX11_init 29 = .ok (.bipush 61, 2) := by decide +kernel
theorem dX11_init_31 : decode cX11_init 31 = .ok (.newarray .int, 2) := by decide +kernel
theorem dX11_init_33 : decode cX11_init 33 = .ok (.putfield 20, 3) := by decide +kernel
theorem dX11_init_36 : decode cX11_init 36 = .ok (.aload_n 0, 1) := by decide +kernel
theorem dX11_init_37 : decode cX11_init 37 = .ok (.bipush 61, 2) := by decide +kernel
theorem dX11_init_39 : decode cX11_init 39 = .ok (.newarray .int, 2) := by decide +kernel
theorem dX11_init_41 : decode cX11_init 41 = .ok (.putfield 23, 3) := by decide +kernel
theorem dX11_init_44 : decode cX11_init 44 = .ok (.aload_n 0, 1) := by decide +kernel
theorem dX11_init_45 : decode cX11_init 45 = .ok (.sipush 305, 3) := by decide +kernel
theorem dX11_init_48 : decode cX11_init 48 = .ok (.newarray .int, 2) := by decide +kernel
theorem dX11_init_50 : decode cX11_init 50 = .ok (.putfield 26, 3) := by decide +kernel
theorem dX11_init_53 : decode cX11_init 53 = .ok (.aload_n 0, 1) := by decide +kernel
theorem dX11_init_54 : decode cX11_init 54 = .ok (.sipush 976, 3) := by decide +kernel
theorem dX11_init_57 : decode cX11_init 57 = .ok (.newarray .byte, 2) := by decide +kernel
theorem dX11_init_59 : decode cX11_init 59 = .ok (.putfield 29, 3) := by decide +kernel
theorem dX11_init_62 : decode cX11_init 62 = .ok (.aload_n 0, 1) := by decide +kernel
theorem dX11_init_63 : decode cX11_init 63 = .ok (.sipush 300, 3) := by decide +kernel
theorem dX11_init_66 : decode cX11_init 66 = .ok (.newarray .int, 2) := by decide +kernel
theorem dX11_init_68 : decode cX11_init 68 = .ok (.putfield 32, 3) := by decide +kernel
theorem dX11_init_71 : decode cX11_init 71 = .ok (.aload_n 0, 1) := by decide +kernel
theorem dX11_init_72 : decode cX11_init 72 = .ok (.sipush 301, 3) := by decide +kernel
theorem dX11_init_75 : decode cX11_init 75 = .ok (.newarray .int, 2) := by decide +kernel
theorem dX11_init_77 : decode cX11_init 77 = .ok (.putfield 35, 3) := by decide +kernel
theorem dX11_init_80 : decode cX11_init 80 = .ok (.aload_n 0, 1) := by decide +kernel
theorem dX11_init_81 : decode cX11_init 81 = .ok (.sipush 302, 3) := by decide +kernel
theorem dX11_init_84 : decode cX11_init 84 = .ok (.newarray .int, 2) := by decide +kernel
theorem dX11_init_86 : decode cX11_init 86 = .ok (.putfield 38, 3) := by decide +kernel
theorem dX11_init_89 : decode cX11_init 89 = .ok (.aload_n 0, 1) := by decide +kernel
theorem dX11_init_90 : decode cX11_init 90 = .ok (.sipush 8000, 3) := by decide +kernel
theorem dX11_init_93 : decode cX11_init 93 = .ok (.newarray .byte, 2) := by decide +kernel
theorem dX11_init_95 : decode cX11_init 95 = .ok (.putfield 41, 3) := by decide +kernel
theorem dX11_init_98 : decode cX11_init 98 = .ok (.aload_n 0, 1) := by decide +kernel
theorem dX11_init_99 : decode cX11_init 99 = .ok (.sipush 301, 3) := by decide +kernel
theorem dX11_init_102 : decode cX11_init 102 = .ok (.newarray .int, 2) := by decide +kernel
theorem dX11_init_104 : decode cX11_init 104 = .ok (.putfield 44, 3) := by decide +kernel
theorem dX11_init_107 : decode cX11_init 107 = .ok (.aload_n 0, 1) := by decide +kernel
theorem dX11_init_108 : decode cX11_init 108 = .ok (.sipush 301, 3) := by decide +kernel
theorem dX11_init_111 : decode cX11_init 111 = .ok (.newarray .int, 2) := by decide +kernel
theorem dX11_init_113 : decode cX11_init 113 = .ok (.putfield 47, 3) := by decide +kernel
theorem dX11_init_116 : decode cX11_init 116 = .ok (.aload_n 0, 1) := by decide +kernel
theorem dX11_init_117 : decode cX11_init 117 = .ok (.bipush 24, 2) := by decide +kernel
theorem dX11_init_119 : decode cX11_init 119 = .ok (.newarray .byte, 2) := by decide +kernel
theorem dX11_init_121 : decode cX11_init 121 = .ok (.putfield 50, 3) := by decide +kernel
theorem dX11_init_124 : decode cX11_init 124 = .ok (.aload_n 0, 1) := by decide +kernel
theorem dX11_init_125 : decode cX11_init 125 = .ok (.bipush 60, 2) := by decide +kernel
theorem dX11_init_127 : decode cX11_init 127 = .ok (.newarray .byte, 2) := by decide +kernel
theorem dX11_init_129 : decode cX11_init 129 = .ok (.putfield 53, 3) := by decide +kernel
theorem dX11_init_132 : decode cX11_init 132 = .ok (.aload_n 0, 1) := by decide +kernel
theorem dX11_init_133 : decode cX11_init 133 = .ok (.bipush 61, 2) := by decide +kernel
theorem dX11_init_135 : decode cX11_init 135 = .ok (.newarray .int, 2) := by decide +kernel
theorem dX11_init_137 : decode cX11_init 137 = .ok (.putfield 56, 3) := by decide +kernel
theorem dX11_init_140 : decode cX11_init 140 = .ok (.aload_n 0, 1) := by decide +kernel
theorem dX11_init_141 : decode cX11_init 141 = .ok (.bipush 62, 2) := by decide +kernel
theorem dX11_init_143 : decode cX11_init 143 = .ok (.newarray .int, 2) := by decide +kernel
theorem dX11_init_145 : decode cX11_init 145 = .ok (.putfield 59, 3) := by decide +kernel
theorem dX11_init_148 : decode cX11_init 148 = .ok (.aload_n 0, 1) := by decide +kernel
theorem dX11_init_149 : decode cX11_init 149 = .ok (.bipush 62, 2) := by decide +kernel
theorem dX11_init_151 : decode cX11_init 151 = .ok (.newarray .int, 2) := by decide +kernel
theorem dX11_init_153 : decode cX11_init 153 = .ok (.putfield 62, 3) := by decide +kernel
theorem dX11_init_156 : decode cX11_init 156 = .ok (.aload_n 0, 1) := by decide +kernel
theorem dX11_init_157 : decode cX11_init 157 = .ok (.bipush 60, 2) := by decide +kernel
theorem dX11_init_159 : decode cX11_init 159 = .ok (.newarray .int, 2) := by decide +kernel
theorem dX11_init_161 : decode cX11_init 161 = .ok (.putfield 65, 3) := by decide +kernel
theorem dX11_init_164 : decode cX11_init 164 = .ok (.aload_n 0, 1) := by decide +kernel
theorem dX11_init_165 : decode cX11_init 165 = .ok (.bipush 60, 2) := by decide +kernel
theorem dX11_init_167 : decode cX11_init 167 = .ok (.newarray .int, 2) := by decide +kernel
theorem dX11_init_169 : decode cX11_init 169 = .ok (.putfield 68, 3) := by decide +kernel
theorem dX11_init_172 : decode cX11_init 172 = .ok (.aload_n 0, 1) := by decide +kernel
theorem dX11_init_173 : decode cX11_init 173 = .ok (.bipush 60, 2) := by decide +kernel
theorem dX11_init_175 : decode cX11_init 175 = .ok (.newarray .int, 2) := by decide +kernel
theorem dX11_init_177 : decode cX11_init 177 = .ok (.putfield 71, 3) := by decide +kernel
theorem dX11_init_180 : decode cX11_init 180 = .ok (.aload_n 0, 1) := by decide +kernel
theorem dX11_init_181 : decode cX11_init 181 = .ok (.bipush 60, 2) := by decide +kernel
theorem dX11_init_183 : decode cX11_init 183 = .ok (.newarray .int, 2) := by decide +kernel
theorem dX11_init_185 : decode cX11_init 185 = .ok (.putfield 74, 3) := by decide +kernel
theorem dX11_init_188 : decode cX11_init 188 = .ok (.aload_n 0, 1) := by decide +kernel
theorem dX11_init_189 : decode cX11_init 189 = .ok (.sipush 300, 3) := by decide +kernel
theorem dX11_init_192 : decode cX11_init 192 = .ok (.newarray .int, 2) := by decide +kernel
theorem dX11_init_194 : decode cX11_init 194 = .ok (.putfield 77, 3) := by decide +kernel
theorem dX11_init_197 : decode cX11_init 197 = .ok (.aload_n 0, 1) := by decide +kernel
theorem dX11_init_198 : decode cX11_init 198 = .ok (.iconst 2, 1) := by decide +kernel
theorem dX11_init_199 : decode cX11_init 199 = .ok (.newarray .int, 2) := by decide +kernel
theorem dX11_init_201 : decode cX11_init 201 = .ok (.putfield 80, 3) := by decide +kernel
theorem dX11_init_204 : decode cX11_init 204 = .ok (.return_, 1) := by decide +kernel
theorem dX11_types_0 : decode cX11_types 0 = .ok (.iconst 3, 1) := by decide +kernel
theorem dX11_types_1 : decode cX11_types 1 = .ok (.istore_n 2, 1) := by decide +kernel
theorem dX11_types_2 : decode cX11_types 2 = .ok (.iload_n 2, 1) := by decide +kernel
theorem dX11_types_3 : decode cX11_types 3 = .ok (.ifCond .lt 35, 3) := by decide +kernel
theorem dX11_types_6 : decode cX11_types 6 = .ok (.aload_n 0, 1) := by decide +kernel
theorem dX11_types_7 : decode cX11_types 7 = .ok (.getfield 7, 3) := by decide +kernel
theorem dX11_types_10 : decode cX11_types 10 = .ok (.aload_n 0, 1) := by decide +kernel
theorem dX11_types_11 : decode cX11_types 11 = .ok (.getfield 83, 3) := by decide +kernel
theorem dX11_types_14 : decode cX11_types 14 = .ok (.iload_n 1, 1) := by decide +kernel
theorem dX11_types_15 : decode cX11_types 15 = .ok (.bipush 8, 2) := by decide +kernel
theorem dX11_types_17 : decode cX11_types 17 = .ok (.iload_n 2, 1) := by decide +kernel
theorem dX11_types_18 : decode cX11_types 18 = .ok (.imul, 1) := by decide +kernel
theorem dX11_types_19 : decode cX11_types 19 = .ok (.ishr, 1) := by decide +kernel
theorem dX11_types_20 : decode cX11_types 20 = .ok (.i2b, 1) := by decide +kernel
theorem dX11_types_21 : decode cX11_types 21 = .ok (.bastore, 1) := by decide +kernel
theorem dX11_types_22 : decode cX11_types 22 = .ok (.aload_n 0, 1) := by decide +kernel
theorem dX11_types_23 : decode cX11_types 23 = .ok (.aload_n 0, 1) := by decide +kernel
theorem dX11_types_24 : decode cX11_types 24 = .ok (.getfield 83, 3) := by decide +kernel
theorem dX11_types_27 : decode cX11_types 27 = .ok (.iconst 1, 1) := by decide +kernel
theorem dX11_types_28 : decode cX11_types 28 = .ok (.iadd, 1) := by decide +kernel
theorem dX11_types_29 : decode cX11_types 29 = .ok (.putfield 83, 3) := by decide +kernel
theorem dX11_types_32 : decode cX11_types 32 = .ok (.iinc 2 (-1), 3) := by decide +kernel
theorem dX11_types_35 : decode cX11_types 35 = .ok (.goto (-33), 3) := by decide +kernel
theorem dX11_types_38 : decode cX11_types 38 = .ok (.return_, 1) := by decide +kernel
set_option maxRecDepth 20000 in
theorem ggX11_feed_X11_types : GoodIn wsX11_feed wsX11_types := goodIn_r _ [6, 7, 1, 8, 9, 10, 11, 12, 13, 14, 15, 16, 17, 18, 19, 20, 21, 22, 23, 24, 25, 26, 27, 28, 29, 30, 31, 32, 33, 34, 35, 36, 37, 38, 39, 40, 41, 42, 43, 44, 45, 46, 47, 48, 49, 50] (by decide +kernel) (by decide +kernel)
set_option maxRecDepth 20000 in
theorem gX11_feed_X11_types : GoodIn wsX11_feed (wsV RX11 87 RX11 yX11_types wsX11_types) := goodIn_app (goodIn_of _ (by decide +kernel)) ggX11_feed_X11_types
theorem dX11_feed_0 : decode cX11_feed 0 = .ok (.aload_n 0, 1) := by decide +kernel
theorem dX11_feed_1 : decode cX11_feed 1 = .ok (.getfield 83, 3) := by decide +kernel
theorem dX11_feed_4 : decode cX11_feed 4 = .ok (.bipush 20, 2) := by decide +kernel
theorem dX11_feed_6 : decode cX11_feed 6 = .ok (.iadd, 1) := by decide +kernel
theorem dX11_feed_7 : decode cX11_feed 7 = .ok (.bipush 80, 2) := by decide +kernel
theorem dX11_feed_9 : decode cX11_feed 9 = .ok (.if_icmp .le 5, 3) := by decide +kernel
theorem dX11_feed_12 : decode cX11_feed 12 = .ok (.iconst (-1), 1) := by decide +kernel
theorem dX11_feed_13 : decode cX11_feed 13 = .ok (.ireturn, 1) := by decide +kernel
theorem dX11_feed_14 : decode cX11_feed 14 = .ok (.aload_n 0, 1) := by decide +kernel
theorem dX11_feed_15 : decode cX11_feed 15 = .ok (.iload_n 1, 1) := by decide +kernel
theorem dX11_feed_16 : decode cX11_feed 16 = .ok (.invokevirtual 87, 3) := by decide +kernel
theorem dX11_feed_19 : decode cX11_feed 19 = .ok (.aload_n 0, 1) := by decide +kernel
theorem dX11_feed_20 : decode cX11_feed 20 = .ok (.iload_n 2, 1) := by decide +kernel
theorem dX11_feed_21 : decode cX11_feed 21 = .ok (.invokevirtual 87, 3) := by decide +kernel
theorem dX11_feed_24 : decode cX11_feed 24 = .ok (.aload_n 0, 1) := by decide +kernel
theorem dX11_feed_25 : decode cX11_feed 25 = .ok (.iload_n 3, 1) := by decide +kernel
theorem dX11_feed_26 : decode cX11_feed 26 = .ok (.invokevirtual 87, 3) := by decide +kernel
theorem dX11_feed_29 : decode cX11_feed 29 = .ok (.aload_n 0, 1) := by decide +kernel
theorem dX11_feed_30 : decode cX11_feed 30 = .ok (.iload 4, 2) := by decide +kernel
theorem dX11_feed_32 : decode cX11_feed 32 = .ok (.invokevirtual 87, 3) := by decide +kernel
theorem dX11_feed_35 : decode cX11_feed 35 = .ok (.aload_n 0, 1) := by decide +kernel
theorem dX11_feed_36 : decode cX11_feed 36 = .ok (.iload 5, 2) := by decide +kernel
theorem dX11_feed_38 : decode cX11_feed 38 = .ok (.invokevirtual 87, 3) := by decide +kernel
theorem dX11_feed_41 : decode cX11_feed 41 = .ok (.aload_n 0, 1) := by decide +kernel
theorem dX11_feed_42 : decode cX11_feed 42 = .ok (.getfield 83, 3) := by decide +kernel
theorem dX11_feed_45 : decode cX11_feed 45 = .ok (.ireturn, 1) := by decide +kernel
theorem dX11_takes_0 : decode cX11_takes 0 = .ok (.iconst 0, 1) := by decide +kernel
theorem dX11_takes_1 : decode cX11_takes 1 = .ok (.istore_n 2, 1) := by decide +kernel
theorem dX11_takes_2 : decode cX11_takes 2 = .ok (.iload_n 2, 1) := by decide +kernel
theorem dX11_takes_3 : decode cX11_takes 3 = .ok (.iload_n 1, 1) := by decide +kernel
theorem dX11_takes_4 : decode cX11_takes 4 = .ok (.if_icmp .ge 21, 3) := by decide +kernel
theorem dX11_takes_7 : decode cX11_takes 7 = .ok (.aload_n 0, 1) := by decide +kernel
theorem dX11_takes_8 : decode cX11_takes 8 = .ok (.getfield 13, 3) := by decide +kernel
theorem dX11_takes_11 : decode cX11_takes 11 = .ok (.iload_n 2, 1) := by decide +kernel
theorem dX11_takes_12 : decode cX11_takes 12 = .ok (.aload_n 0, 1) := by decide +kernel
theorem dX11_takes_13 : decode cX11_takes 13 = .ok (.getfield 7, 3) := by decide +kernel
theorem dX11_takes_16 : decode cX11_takes 16 = .ok (.iload_n 2, 1) := by decide +kernel
theorem dX11_takes_17 : decode cX11_takes 17 = .ok (.baload, 1) := by decide +kernel
theorem dX11_takes_18 : decode cX11_takes 18 = .ok (.bastore, 1) := by decide +kernel
theorem dX11_takes_19 : decode cX11_takes 19 = .ok (.iinc 2 1, 3) := by decide +kernel
theorem dX11_takes_22 : decode cX11_takes 22 = .ok (.goto (-20), 3) := by decide +kernel
theorem dX11_takes_25 : decode cX11_takes 25 = .ok (.aload_n 0, 1) := by decide +kernel
theorem dX11_takes_26 : decode cX11_takes 26 = .ok (.iconst 0, 1) := by decide +kernel
theorem dX11_takes_27 : decode cX11_takes 27 = .ok (.putfield 83, 3) := by decide +kernel
theorem dX11_takes_30 : decode cX11_takes 30 = .ok (.return_, 1) := by decide +kernel
theorem dX11_isStroke_0 : decode cX11_isStroke 0 = .ok (.iload_n 0, 1) := by decide +kernel
theorem dX11_isStroke_1 : decode cX11_isStroke 1 = .ok (.ifCond .le 13, 3) := by decide +kernel
theorem dX11_isStroke_4 : decode cX11_isStroke 4 = .ok (.iload_n 0, 1) := by decide +kernel
theorem dX11_isStroke_5 : decode cX11_isStroke 5 = .ok (.ldc 91, 2) := by decide +kernel
theorem dX11_isStroke_7 : decode cX11_isStroke 7 = .ok (.if_icmp .ge 7, 3) := by decide +kernel
theorem dX11_isStroke_10 : decode cX11_isStroke 10 = .ok (.iconst 1, 1) := by decide +kernel
theorem dX11_isStroke_11 : decode cX11_isStroke 11 = .ok (.goto 4, 3) := by decide +kernel
theorem dX11_isStroke_14 : decode cX11_isStroke 14 = .ok (.iconst 0, 1) := by decide +kernel
theorem dX11_isStroke_15 : decode cX11_isStroke 15 = .ok (.ireturn, 1) := by decide +kernel
theorem dX11_lays_0 : decode cX11_lays 0 = .ok (.aload_n 0, 1) := by decide +kernel
theorem dX11_lays_1 : decode cX11_lays 1 = .ok (.getfield 26, 3) := by decide +kernel
theorem dX11_lays_4 : decode cX11_lays 4 = .ok (.iconst 5, 1) := by decide +kernel
theorem dX11_lays_5 : decode cX11_lays 5 = .ok (.aload_n 0, 1) := by decide +kernel
theorem dX11_lays_6 : decode cX11_lays 6 = .ok (.getfield 92, 3) := by decide +kernel
theorem dX11_lays_9 : decode cX11_lays 9 = .ok (.imul, 1) := by decide +kernel
theorem dX11_lays_10 : decode cX11_lays 10 = .ok (.iload_n 1, 1) := by decide +kernel
theorem dX11_lays_11 : decode cX11_lays 11 = .ok (.iadd, 1) := by decide +kernel
theorem dX11_lays_12 : decode cX11_lays 12 = .ok (.iload_n 2, 1) := by decide +kernel
theorem dX11_lays_13 : decode cX11_lays 13 = .ok (.iastore, 1) := by decide +kernel
theorem dX11_lays_14 : decode cX11_lays 14 = .ok (.iload_n 2, 1) := by decide +kernel
theorem dX11_lays_15 : decode cX11_lays 15 = .ok (.ifCond .eq 15, 3) := by decide +kernel
theorem dX11_lays_18 : decode cX11_lays 18 = .ok (.aload_n 0, 1) := by decide +kernel
theorem dX11_lays_19 : decode cX11_lays 19 = .ok (.getfield 16, 3) := by decide +kernel
theorem dX11_lays_22 : decode cX11_lays 22 = .ok (.aload_n 0, 1) := by decide +kernel
theorem dX11_lays_23 : decode cX11_lays 23 = .ok (.getfield 92, 3) := by decide +kernel
theorem dX11_lays_26 : decode cX11_lays 26 = .ok (.iload_n 1, 1) := by decide +kernel
theorem dX11_lays_27 : decode cX11_lays 27 = .ok (.iconst 1, 1) := by decide +kernel
theorem dX11_lays_28 : decode cX11_lays 28 = .ok (.iadd, 1) := by decide +kernel
theorem dX11_lays_29 : decode cX11_lays 29 = .ok (.iastore, 1) := by decide +kernel
theorem dX11_lays_30 : decode cX11_lays 30 = .ok (.return_, 1) := by decide +kernel
theorem dX11_entryOf_0 : decode cX11_entryOf 0 = .ok (.iconst 0, 1) := by decide +kernel
theorem dX11_entryOf_1 : decode cX11_entryOf 1 = .ok (.istore 4, 2) := by decide +kernel
theorem dX11_entryOf_3 : decode cX11_entryOf 3 = .ok (.iload 4, 2) := by decide +kernel
theorem dX11_entryOf_5 : decode cX11_entryOf 5 = .ok (.aload_n 0, 1) := by decide +kernel
theorem dX11_entryOf_6 : decode cX11_entryOf 6 = .ok (.getfield 92, 3) := by decide +kernel
theorem dX11_entryOf_9 : decode cX11_entryOf 9 = .ok (.if_icmp .ge 83, 3) := by decide +kernel
theorem dX11_entryOf_12 : decode cX11_entryOf 12 = .ok (.aload_n 0, 1) := by decide +kernel
theorem dX11_entryOf_13 : decode cX11_entryOf 13 = .ok (.getfield 16, 3) := by decide +kernel
theorem dX11_entryOf_16 : decode cX11_entryOf 16 = .ok (.iload 4, 2) := by decide +kernel
theorem dX11_entryOf_18 : decode cX11_entryOf 18 = .ok (.iaload, 1) := by decide +kernel
theorem dX11_entryOf_19 : decode cX11_entryOf 19 = .ok (.iload_n 3, 1) := by decide +kernel
theorem dX11_entryOf_20 : decode cX11_entryOf 20 = .ok (.if_icmp .ne 7, 3) := by decide +kernel
theorem dX11_entryOf_23 : decode cX11_entryOf 23 = .ok (.iconst 1, 1) := by decide +kernel
theorem dX11_entryOf_24 : decode cX11_entryOf 24 = .ok (.goto 4, 3) := by decide +kernel
theorem dX11_entryOf_27 : decode cX11_entryOf 27 = .ok (.iconst 0, 1) := by decide +kernel
theorem dX11_entryOf_28 : decode cX11_entryOf 28 = .ok (.istore 5, 2) := by decide +kernel
theorem dX11_entryOf_30 : decode cX11_entryOf 30 = .ok (.iconst 0, 1) := by decide +kernel
theorem dX11_entryOf_31 : decode cX11_entryOf 31 = .ok (.istore 6, 2) := by decide +kernel
theorem dX11_entryOf_33 : decode cX11_entryOf 33 = .ok (.iload 6, 2) := by decide +kernel
theorem dX11_entryOf_35 : decode cX11_entryOf 35 = .ok (.iload_n 3, 1) := by decide +kernel
theorem dX11_entryOf_36 : decode cX11_entryOf 36 = .ok (.if_icmp .ge 42, 3) := by decide +kernel
theorem dX11_entryOf_39 : decode cX11_entryOf 39 = .ok (.iload 5, 2) := by decide +kernel
theorem dX11_entryOf_41 : decode cX11_entryOf 41 = .ok (.ifCond .eq 37, 3) := by decide +kernel
theorem dX11_entryOf_44 : decode cX11_entryOf 44 = .ok (.aload_n 0, 1) := by decide +kernel
theorem dX11_entryOf_45 : decode cX11_entryOf 45 = .ok (.getfield 26, 3) := by decide +kernel
theorem dX11_entryOf_48 : decode cX11_entryOf 48 = .ok (.iconst 5, 1) := by decide +kernel
theorem dX11_entryOf_49 : decode cX11_entryOf 49 = .ok (.iload 4, 2) := by decide +kernel
theorem dX11_entryOf_51 : decode cX11_entryOf 51 = .ok (.imul, 1) := by decide +kernel
theorem dX11_entryOf_52 : decode cX11_entryOf 52 = .ok (.iload 6, 2) := by decide +kernel
theorem dX11_entryOf_54 : decode cX11_entryOf 54 = .ok (.iadd, 1) := by decide +kernel
theorem dX11_entryOf_55 : decode cX11_entryOf 55 = .ok (.iaload, 1) := by decide +kernel
theorem dX11_entryOf_56 : decode cX11_entryOf 56 = .ok (.aload_n 1, 1) := by decide +kernel
theorem dX11_entryOf_57 : decode cX11_entryOf 57 = .ok (.iload_n 2, 1) := by decide +kernel
theorem dX11_entryOf_58 : decode cX11_entryOf 58 = .ok (.iload 6, 2) := by decide +kernel
theorem dX11_entryOf_60 : decode cX11_entryOf 60 = .ok (.iadd, 1) := by decide +kernel
theorem dX11_entryOf_61 : decode cX11_entryOf 61 = .ok (.iaload, 1) := by decide +kernel
theorem dX11_entryOf_62 : decode cX11_entryOf 62 = .ok (.if_icmp .ne 7, 3) := by decide +kernel
theorem dX11_entryOf_65 : decode cX11_entryOf 65 = .ok (.iconst 1, 1) := by decide +kernel
theorem dX11_entryOf_66 : decode cX11_entryOf 66 = .ok (.goto 4, 3) := by decide +kernel
theorem dX11_entryOf_69 : decode cX11_entryOf 69 = .ok (.iconst 0, 1) := by decide +kernel
theorem dX11_entryOf_70 : decode cX11_entryOf 70 = .ok (.istore 5, 2) := by decide +kernel
theorem dX11_entryOf_72 : decode cX11_entryOf 72 = .ok (.iinc 6 1, 3) := by decide +kernel
theorem dX11_entryOf_75 : decode cX11_entryOf 75 = .ok (.goto (-42), 3) := by decide +kernel
theorem dX11_entryOf_78 : decode cX11_entryOf 78 = .ok (.iload 5, 2) := by decide +kernel
theorem dX11_entryOf_80 : decode cX11_entryOf 80 = .ok (.ifCond .eq 6, 3) := by decide +kernel
theorem dX11_entryOf_83 : decode cX11_entryOf 83 = .ok (.iload 4, 2) := by decide +kernel
theorem dX11_entryOf_85 : decode cX11_entryOf 85 = .ok (.ireturn, 1) := by decide +kernel
theorem dX11_entryOf_86 : decode cX11_entryOf 86 = .ok (.iinc 4 1, 3) := by decide +kernel
theorem dX11_entryOf_89 : decode cX11_entryOf 89 = .ok (.goto (-86), 3) := by decide +kernel
theorem dX11_entryOf_92 : decode cX11_entryOf 92 = .ok (.iconst (-1), 1) := by decide +kernel
theorem dX11_entryOf_93 : decode cX11_entryOf 93 = .ok (.ireturn, 1) := by decide +kernel
theorem dX11_isSize_0 : decode cX11_isSize 0 = .ok (.iload_n 0, 1) := by decide +kernel
theorem dX11_isSize_1 : decode cX11_isSize 1 = .ok (.iconst 3, 1) := by decide +kernel
theorem dX11_isSize_2 : decode cX11_isSize 2 = .ok (.if_icmp .eq 8, 3) := by decide +kernel
theorem dX11_isSize_5 : decode cX11_isSize 5 = .ok (.iload_n 0, 1) := by decide +kernel
theorem dX11_isSize_6 : decode cX11_isSize 6 = .ok (.iconst 4, 1) := by decide +kernel
theorem dX11_isSize_7 : decode cX11_isSize 7 = .ok (.if_icmp .ne 14, 3) := by decide +kernel
theorem dX11_isSize_10 : decode cX11_isSize 10 = .ok (.iload_n 1, 1) := by decide +kernel
theorem dX11_isSize_11 : decode cX11_isSize 11 = .ok (.iconst 1, 1) := by decide +kernel
theorem dX11_isSize_12 : decode cX11_isSize 12 = .ok (.if_icmp .ne 7, 3) := by decide +kernel
theorem dX11_isSize_15 : decode cX11_isSize 15 = .ok (.iconst 1, 1) := by decide +kernel
theorem dX11_isSize_16 : decode cX11_isSize 16 = .ok (.goto 4, 3) := by decide +kernel
theorem dX11_isSize_19 : decode cX11_isSize 19 = .ok (.iconst 0, 1) := by decide +kernel
theorem dX11_isSize_20 : decode cX11_isSize 20 = .ok (.ireturn, 1) := by decide +kernel
theorem dX11_isSize_21 : decode cX11_isSize 21 = .ok (.iload_n 0, 1) := by decide +kernel
theorem dX11_isSize_22 : decode cX11_isSize 22 = .ok (.bipush 6, 2) := by decide +kernel
theorem dX11_isSize_24 : decode cX11_isSize 24 = .ok (.if_icmp .lt 15, 3) := by decide +kernel
theorem dX11_isSize_27 : decode cX11_isSize 27 = .ok (.iload_n 1, 1) := by decide +kernel
theorem dX11_isSize_28 : decode cX11_isSize 28 = .ok (.ifCond .ne 7, 3) := by decide +kernel
theorem dX11_isSize_31 : decode cX11_isSize 31 = .ok (.iconst 1, 1) := by decide +kernel
theorem dX11_isSize_32 : decode cX11_isSize 32 = .ok (.goto 23, 3) := by decide +kernel
theorem dX11_isSize_35 : decode cX11_isSize 35 = .ok (.iconst 0, 1) := by decide +kernel
theorem dX11_isSize_36 : decode cX11_isSize 36 = .ok (.goto 19, 3) := by decide +kernel
theorem dX11_isSize_39 : decode cX11_isSize 39 = .ok (.iload_n 1, 1) := by decide +kernel
theorem dX11_isSize_40 : decode cX11_isSize 40 = .ok (.iconst 1, 1) := by decide +kernel
theorem dX11_isSize_41 : decode cX11_isSize 41 = .ok (.if_icmp .lt 13, 3) := by decide +kernel
theorem dX11_isSize_44 : decode cX11_isSize 44 = .ok (.iload_n 1, 1) := by decide +kernel
theorem dX11_isSize_45 : decode cX11_isSize 45 = .ok (.bipush 16, 2) := by decide +kernel
theorem dX11_isSize_47 : decode cX11_isSize 47 = .ok (.if_icmp .gt 7, 3) := by decide +kernel
theorem dX11_isSize_50 : decode cX11_isSize 50 = .ok (.iconst 1, 1) := by decide +kernel
theorem dX11_isSize_51 : decode cX11_isSize 51 = .ok (.goto 4, 3) := by decide +kernel
theorem dX11_isSize_54 : decode cX11_isSize 54 = .ok (.iconst 0, 1) := by decide +kernel
theorem dX11_isSize_55 : decode cX11_isSize 55 = .ok (.ireturn, 1) := by decide +kernel
theorem dX11_isSmall_0 : decode cX11_isSmall 0 = .ok (.iload_n 0, 1) := by decide +kernel
theorem dX11_isSmall_1 : decode cX11_isSmall 1 = .ok (.bipush 97, 2) := by decide +kernel
theorem dX11_isSmall_3 : decode cX11_isSmall 3 = .ok (.if_icmp .lt 13, 3) := by decide +kernel
theorem dX11_isSmall_6 : decode cX11_isSmall 6 = .ok (.iload_n 0, 1) := by decide +kernel
theorem dX11_isSmall_7 : decode cX11_isSmall 7 = .ok (.bipush 122, 2) := by decide +kernel
theorem dX11_isSmall_9 : decode cX11_isSmall 9 = .ok (.if_icmp .gt 7, 3) := by decide +kernel
theorem dX11_isSmall_12 : decode cX11_isSmall 12 = .ok (.iconst 1, 1) := by decide +kernel
theorem dX11_isSmall_13 : decode cX11_isSmall 13 = .ok (.goto 4, 3) := by decide +kernel
theorem dX11_isSmall_16 : decode cX11_isSmall 16 = .ok (.iconst 0, 1) := by decide +kernel
theorem dX11_isSmall_17 : decode cX11_isSmall 17 = .ok (.ireturn, 1) := by decide +kernel
set_option maxRecDepth 20000 in
theorem ggX11_isByte_X11_isSmall : GoodIn wsX11_isByte wsX11_isSmall := goodIn_r _ [4] (by decide +kernel) (by decide +kernel)
set_option maxRecDepth 20000 in
theorem gX11_isByte_X11_isSmall : GoodIn wsX11_isByte (va_wsS RX11 95 yX11_isSmall wsX11_isSmall) := goodIn_app (goodIn_of _ (by decide +kernel)) ggX11_isByte_X11_isSmall
theorem dX11_isByte_0 : decode cX11_isByte 0 = .ok (.iload_n 0, 1) := by decide +kernel
theorem dX11_isByte_1 : decode cX11_isByte 1 = .ok (.iconst 3, 1) := by decide +kernel
theorem dX11_isByte_2 : decode cX11_isByte 2 = .ok (.if_icmp .eq 8, 3) := by decide +kernel
theorem dX11_isByte_5 : decode cX11_isByte 5 = .ok (.iload_n 0, 1) := by decide +kernel
theorem dX11_isByte_6 : decode cX11_isByte 6 = .ok (.iconst 4, 1) := by decide +kernel
theorem dX11_isByte_7 : decode cX11_isByte 7 = .ok (.if_icmp .ne 45, 3) := by decide +kernel
theorem dX11_isByte_10 : decode cX11_isByte 10 = .ok (.iload_n 1, 1) := by decide +kernel
theorem dX11_isByte_11 : decode cX11_isByte 11 = .ok (.bipush 46, 2) := by decide +kernel
theorem dX11_isByte_13 : decode cX11_isByte 13 = .ok (.if_icmp .eq 33, 3) := by decide +kernel
theorem dX11_isByte_16 : decode cX11_isByte 16 = .ok (.iload_n 1, 1) := by decide +kernel
theorem dX11_isByte_17 : decode cX11_isByte 17 = .ok (.bipush 44, 2) := by decide +kernel
theorem dX11_isByte_19 : decode cX11_isByte 19 = .ok (.if_icmp .eq 27, 3) := by decide +kernel
theorem dX11_isByte_22 : decode cX11_isByte 22 = .ok (.iload_n 1, 1) := by decide +kernel
theorem dX11_isByte_23 : decode cX11_isByte 23 = .ok (.bipush 59, 2) := by decide +kernel
theorem dX11_isByte_25 : decode cX11_isByte 25 = .ok (.if_icmp .eq 21, 3) := by decide +kernel
theorem dX11_isByte_28 : decode cX11_isByte 28 = .ok (.iload_n 1, 1) := by decide +kernel
theorem dX11_isByte_29 : decode cX11_isByte 29 = .ok (.bipush 58, 2) := by decide +kernel
theorem dX11_isByte_31 : decode cX11_isByte 31 = .ok (.if_icmp .eq 15, 3) := by decide +kernel
theorem dX11_isByte_34 : decode cX11_isByte 34 = .ok (.iload_n 1, 1) := by decide +kernel
theorem dX11_isByte_35 : decode cX11_isByte 35 = .ok (.bipush 63, 2) := by decide +kernel
theorem dX11_isByte_37 : decode cX11_isByte 37 = .ok (.if_icmp .eq 9, 3) := by decide +kernel
theorem dX11_isByte_40 : decode cX11_isByte 40 = .ok (.iload_n 1, 1) := by decide +kernel
theorem dX11_isByte_41 : decode cX11_isByte 41 = .ok (.bipush 33, 2) := by decide +kernel
theorem dX11_isByte_43 : decode cX11_isByte 43 = .ok (.if_icmp .ne 7, 3) := by decide +kernel
theorem dX11_isByte_46 : decode cX11_isByte 46 = .ok (.iconst 1, 1) := by decide +kernel
theorem dX11_isByte_47 : decode cX11_isByte 47 = .ok (.goto 4, 3) := by decide +kernel
theorem dX11_isByte_50 : decode cX11_isByte 50 = .ok (.iconst 0, 1) := by decide +kernel
theorem dX11_isByte_51 : decode cX11_isByte 51 = .ok (.ireturn, 1) := by decide +kernel
theorem dX11_isByte_52 : decode cX11_isByte 52 = .ok (.iload_n 1, 1) := by decide +kernel
theorem dX11_isByte_53 : decode cX11_isByte 53 = .ok (.invokestatic 95, 3) := by decide +kernel
theorem dX11_isByte_56 : decode cX11_isByte 56 = .ok (.ireturn, 1) := by decide +kernel
set_option maxRecDepth 20000 in
theorem ggX11_areStrokes_X11_isStroke : GoodIn wsX11_areStrokes wsX11_isStroke := goodIn_r _ [4, 5] (by decide +kernel) (by decide +kernel)
set_option maxRecDepth 20000 in
theorem gX11_areStrokes_X11_isStroke : GoodIn wsX11_areStrokes (va_wsS RX11 99 yX11_isStroke wsX11_isStroke) := goodIn_app (goodIn_of _ (by decide +kernel)) ggX11_areStrokes_X11_isStroke
theorem dX11_areStrokes_0 : decode cX11_areStrokes 0 = .ok (.iload_n 0, 1) := by decide +kernel
theorem dX11_areStrokes_1 : decode cX11_areStrokes 1 = .ok (.invokestatic 99, 3) := by decide +kernel
theorem dX11_areStrokes_4 : decode cX11_areStrokes 4 = .ok (.ifCond .ne 5, 3) := by decide +kernel
theorem dX11_areStrokes_7 : decode cX11_areStrokes 7 = .ok (.iconst 0, 1) := by decide +kernel
theorem dX11_areStrokes_8 : decode cX11_areStrokes 8 = .ok (.ireturn, 1) := by decide +kernel
theorem dX11_areStrokes_9 : decode cX11_areStrokes 9 = .ok (.iload_n 1, 1) := by decide +kernel
theorem dX11_areStrokes_10 : decode cX11_areStrokes 10 = .ok (.ifCond .eq 10, 3) := by decide +kernel
theorem dX11_areStrokes_13 : decode cX11_areStrokes 13 = .ok (.iload_n 1, 1) := by decide +kernel
theorem dX11_areStrokes_14 : decode cX11_areStrokes 14 = .ok (.invokestatic 99, 3) := by decide +kernel
theorem dX11_areStrokes_17 : decode cX11_areStrokes 17 = .ok (.ifCond .eq 38, 3) := by decide +kernel
theorem dX11_areStrokes_20 : decode cX11_areStrokes 20 = .ok (.iload_n 2, 1) := by decide +kernel
theorem dX11_areStrokes_21 : decode cX11_areStrokes 21 = .ok (.ifCond .eq 10, 3) := by decide +kernel
theorem dX11_areStrokes_24 : decode cX11_areStrokes 24 = .ok (.iload_n 2, 1) := by decide +kernel
theorem dX11_areStrokes_25 : decode cX11_areStrokes 25 = .ok (.invokestatic 99, 3) := by decide +kernel
theorem dX11_areStrokes_28 : decode cX11_areStrokes 28 = .ok (.ifCond .eq 27, 3) := by decide +kernel
theorem dX11_areStrokes_31 : decode cX11_areStrokes 31 = .ok (.iload_n 3, 1) := by decide +kernel
theorem dX11_areStrokes_32 : decode cX11_areStrokes 32 = .ok (.ifCond .eq 10, 3) := by decide +kernel
theorem dX11_areStrokes_35 : decode cX11_areStrokes 35 = .ok (.iload_n 3, 1) := by decide +kernel
theorem dX11_areStrokes_36 : decode cX11_areStrokes 36 = .ok (.invokestatic 99, 3) := by decide +kernel
theorem dX11_areStrokes_39 : decode cX11_areStrokes 39 = .ok (.ifCond .eq 16, 3) := by decide +kernel
theorem dX11_areStrokes_42 : decode cX11_areStrokes 42 = .ok (.iload 4, 2) := by decide +kernel
theorem dX11_areStrokes_44 : decode cX11_areStrokes 44 = .ok (.ifCond .eq 13, 3) := by decide +kernel
theorem dX11_areStrokes_47 : decode cX11_areStrokes 47 = .ok (.iload 4, 2) := by decide +kernel
theorem dX11_areStrokes_49 : decode cX11_areStrokes 49 = .ok (.invokestatic 99, 3) := by decide +kernel
theorem dX11_areStrokes_52 : decode cX11_areStrokes 52 = .ok (.ifCond .ne 5, 3) := by decide +kernel
theorem dX11_areStrokes_55 : decode cX11_areStrokes 55 = .ok (.iconst 0, 1) := by decide +kernel
theorem dX11_areStrokes_56 : decode cX11_areStrokes 56 = .ok (.ireturn, 1) := by decide +kernel
theorem dX11_areStrokes_57 : decode cX11_areStrokes 57 = .ok (.iload_n 1, 1) := by decide +kernel
theorem dX11_areStrokes_58 : decode cX11_areStrokes 58 = .ok (.ifCond .ne 7, 3) := by decide +kernel
theorem dX11_areStrokes_61 : decode cX11_areStrokes 61 = .ok (.iload_n 2, 1) := by decide +kernel
theorem dX11_areStrokes_62 : decode cX11_areStrokes 62 = .ok (.ifCond .ne 24, 3) := by decide +kernel
theorem dX11_areStrokes_65 : decode cX11_areStrokes 65 = .ok (.iload_n 2, 1) := by decide +kernel
theorem dX11_areStrokes_66 : decode cX11_areStrokes 66 = .ok (.ifCond .ne 7, 3) := by decide +kernel
theorem dX11_areStrokes_69 : decode cX11_areStrokes 69 = .ok (.iload_n 3, 1) := by decide +kernel
theorem dX11_areStrokes_70 : decode cX11_areStrokes 70 = .ok (.ifCond .ne 16, 3) := by decide +kernel
theorem dX11_areStrokes_73 : decode cX11_areStrokes 73 = .ok (.iload_n 3, 1) := by decide +kernel
theorem dX11_areStrokes_74 : decode cX11_areStrokes 74 = .ok (.ifCond .ne 8, 3) := by decide +kernel
theorem dX11_areStrokes_77 : decode cX11_areStrokes 77 = .ok (.iload 4, 2) := by decide +kernel
theorem dX11_areStrokes_79 : decode cX11_areStrokes 79 = .ok (.ifCond .ne 7, 3) := by decide +kernel
theorem dX11_areStrokes_82 : decode cX11_areStrokes 82 = .ok (.iconst 1, 1) := by decide +kernel
theorem dX11_areStrokes_83 : decode cX11_areStrokes 83 = .ok (.goto 4, 3) := by decide +kernel
theorem dX11_areStrokes_86 : decode cX11_areStrokes 86 = .ok (.iconst 0, 1) := by decide +kernel
theorem dX11_areStrokes_87 : decode cX11_areStrokes 87 = .ok (.ireturn, 1) := by decide +kernel
set_option maxRecDepth 20000 in
theorem ggX11_entry_X11_areStrokes : GoodIn wsX11_entry wsX11_areStrokes := goodIn_r _ [12, 13, 14, 11, 15, 16] (by decide +kernel) (by decide +kernel)
set_option maxRecDepth 20000 in
theorem gX11_entry_X11_areStrokes : GoodIn wsX11_entry (va_wsS RX11 102 yX11_areStrokes wsX11_areStrokes) := goodIn_app (goodIn_of _ (by decide +kernel)) ggX11_entry_X11_areStrokes
set_option maxRecDepth 20000 in
theorem ggX11_entry_X11_isSize : GoodIn wsX11_entry wsX11_isSize := goodIn_r _ [19] (by decide +kernel) (by decide +kernel)
set_option maxRecDepth 20000 in
theorem gX11_entry_X11_isSize : GoodIn wsX11_entry (va_wsS RX11 106 yX11_isSize wsX11_isSize) := goodIn_app (goodIn_of _ (by decide +kernel)) ggX11_entry_X11_isSize
set_option maxRecDepth 20000 in
theorem ggX11_entry_X11_takes : GoodIn wsX11_entry wsX11_takes := goodIn_r _ [23, 2, 24, 1, 39, 40, 41, 42, 43, 44, 45, 46, 47, 48, 49, 50, 51, 52, 53, 54, 55, 56, 57, 58, 59, 60, 61, 62, 63, 64, 65, 66, 67, 68, 69, 70, 71, 72, 73, 74, 75, 76, 77, 78, 79, 80, 81] (by decide +kernel) (by decide +kernel)
set_option maxRecDepth 20000 in
theorem gX11_entry_X11_takes : GoodIn wsX11_entry (wsV RX11 110 RX11 yX11_takes wsX11_takes) := goodIn_app (goodIn_of _ (by decide +kernel)) ggX11_entry_X11_takes
set_option maxRecDepth 20000 in
theorem ggX11_entry_X11_isByte : GoodIn wsX11_entry wsX11_isByte := goodIn_r _ [27, 28, 29, 11, 30] (by decide +kernel) (by decide +kernel)
set_option maxRecDepth 20000 in
theorem gX11_entry_X11_isByte : GoodIn wsX11_entry (va_wsS RX11 113 yX11_isByte wsX11_isByte) := goodIn_app (goodIn_of _ (by decide +kernel)) ggX11_entry_X11_isByte
set_option maxRecDepth 20000 in
theorem ggX11_entry_X11_lays : GoodIn wsX11_entry wsX11_lays := goodIn_r _ [34, 4, 3, 5, 39, 40, 41, 42, 43, 44, 45, 46, 47, 48, 49, 50, 51, 52, 53, 54, 55, 56, 57, 58, 59, 60, 61, 62, 63, 64, 65, 66, 67, 68, 69, 70, 71, 72, 73, 74, 75, 76, 77, 78, 79, 80, 81] (by decide +kernel) (by decide +kernel)
set_option maxRecDepth 20000 in
theorem gX11_entry_X11_lays : GoodIn wsX11_entry (wsV RX11 116 RX11 yX11_lays wsX11_lays) := goodIn_app (goodIn_of _ (by decide +kernel)) ggX11_entry_X11_lays
set_option maxRecDepth 20000 in
theorem ggX11_entry_X11_entryOf : GoodIn wsX11_entry wsX11_entryOf := goodIn_r _ [38, 3, 5, 4, 39, 40, 41, 42, 43, 44, 45, 46, 47, 48, 49, 50, 51, 52, 53, 54, 55, 56, 57, 58, 59, 60, 61, 62, 63, 64, 65, 66, 67, 68, 69, 70, 71, 72, 73, 74, 75, 76, 77, 78, 79, 80, 81] (by decide +kernel) (by decide +kernel)
set_option maxRecDepth 20000 in
theorem gX11_entry_X11_entryOf : GoodIn wsX11_entry (wsV RX11 120 RX11 yX11_entryOf wsX11_entryOf) := goodIn_app (goodIn_of _ (by decide +kernel)) ggX11_entry_X11_entryOf
theorem dX11_entry_0 : decode cX11_entry 0 = .ok (.iload_n 1, 1) := by decide +kernel
theorem dX11_entry_1 : decode cX11_entry 1 = .ok (.iload_n 2, 1) := by decide +kernel
theorem dX11_entry_2 : decode cX11_entry 2 = .ok (.iload_n 3, 1) := by decide +kernel
theorem dX11_entry_3 : decode cX11_entry 3 = .ok (.iload 4, 2) := by decide +kernel
theorem dX11_entry_5 : decode cX11_entry 5 = .ok (.iload 5, 2) := by decide +kernel
theorem dX11_entry_7 : decode cX11_entry 7 = .ok (.invokestatic 102, 3) := by decide +kernel
theorem dX11_entry_10 : decode cX11_entry 10 = .ok (.ifCond .eq 34, 3) := by decide +kernel
theorem dX11_entry_13 : decode cX11_entry 13 = .ok (.iload 6, 2) := by decide +kernel
theorem dX11_entry_15 : decode cX11_entry 15 = .ok (.ifCond .lt 29, 3) := by decide +kernel
theorem dX11_entry_18 : decode cX11_entry 18 = .ok (.iload 6, 2) := by decide +kernel
theorem dX11_entry_20 : decode cX11_entry 20 = .ok (.bipush 8, 2) := by decide +kernel
theorem dX11_entry_22 : decode cX11_entry 22 = .ok (.if_icmp .gt 22, 3) := by decide +kernel
theorem dX11_entry_25 : decode cX11_entry 25 = .ok (.iload 6, 2) := by decide +kernel
theorem dX11_entry_27 : decode cX11_entry 27 = .ok (.iload 7, 2) := by decide +kernel
theorem dX11_entry_29 : decode cX11_entry 29 = .ok (.invokestatic 106, 3) := by decide +kernel
theorem dX11_entry_32 : decode cX11_entry 32 = .ok (.ifCond .eq 12, 3) := by decide +kernel
theorem dX11_entry_35 : decode cX11_entry 35 = .ok (.iload 7, 2) := by decide +kernel
theorem dX11_entry_37 : decode cX11_entry 37 = .ok (.aload_n 0, 1) := by decide +kernel
theorem dX11_entry_38 : decode cX11_entry 38 = .ok (.getfield 83, 3) := by decide +kernel
theorem dX11_entry_41 : decode cX11_entry 41 = .ok (.if_icmp .le 5, 3) := by decide +kernel
theorem dX11_entry_44 : decode cX11_entry 44 = .ok (.iconst (-1), 1) := by decide +kernel
theorem dX11_entry_45 : decode cX11_entry 45 = .ok (.ireturn, 1) := by decide +kernel
theorem dX11_entry_46 : decode cX11_entry 46 = .ok (.aload_n 0, 1) := by decide +kernel
theorem dX11_entry_47 : decode cX11_entry 47 = .ok (.iload 7, 2) := by decide +kernel
theorem dX11_entry_49 : decode cX11_entry 49 = .ok (.invokevirtual 110, 3) := by decide +kernel
theorem dX11_entry_52 : decode cX11_entry 52 = .ok (.iconst 0, 1) := by decide +kernel
theorem dX11_entry_53 : decode cX11_entry 53 = .ok (.istore 8, 2) := by decide +kernel
theorem dX11_entry_55 : decode cX11_entry 55 = .ok (.iload 8, 2) := by decide +kernel
theorem dX11_entry_57 : decode cX11_entry 57 = .ok (.iload 7, 2) := by decide +kernel
theorem dX11_entry_59 : decode cX11_entry 59 = .ok (.if_icmp .ge 30, 3) := by decide +kernel
theorem dX11_entry_62 : decode cX11_entry 62 = .ok (.iload 6, 2) := by decide +kernel
theorem dX11_entry_64 : decode cX11_entry 64 = .ok (.aload_n 0, 1) := by decide +kernel
theorem dX11_entry_65 : decode cX11_entry 65 = .ok (.getfield 13, 3) := by decide +kernel
theorem dX11_entry_68 : decode cX11_entry 68 = .ok (.iload 8, 2) := by decide +kernel
theorem dX11_entry_70 : decode cX11_entry 70 = .ok (.baload, 1) := by decide +kernel
theorem dX11_entry_71 : decode cX11_entry 71 = .ok (.sipush 255, 3) := by decide +kernel
theorem dX11_entry_74 : decode cX11_entry 74 = .ok (.iand, 1) := by decide +kernel
theorem dX11_entry_75 : decode cX11_entry 75 = .ok (.invokestatic 113, 3) := by decide +kernel
theorem dX11_entry_78 : decode cX11_entry 78 = .ok (.ifCond .ne 5, 3) := by decide +kernel
theorem dX11_entry_81 : decode cX11_entry 81 = .ok (.iconst (-1), 1) := by decide +kernel
theorem dX11_entry_82 : decode cX11_entry 82 = .ok (.ireturn, 1) := by decide +kernel
theorem dX11_entry_83 : decode cX11_entry 83 = .ok (.iinc 8 1, 3) := by decide +kernel
theorem dX11_entry_86 : decode cX11_entry 86 = .ok (.goto (-31), 3) := by decide +kernel
theorem dX11_entry_89 : decode cX11_entry 89 = .ok (.aload_n 0, 1) := by decide +kernel
theorem dX11_entry_90 : decode cX11_entry 90 = .ok (.getfield 92, 3) := by decide +kernel
theorem dX11_entry_93 : decode cX11_entry 93 = .ok (.bipush 60, 2) := by decide +kernel
theorem dX11_entry_95 : decode cX11_entry 95 = .ok (.if_icmp .ne 5, 3) := by decide +kernel
theorem dX11_entry_98 : decode cX11_entry 98 = .ok (.iconst (-1), 1) := by decide +kernel
theorem dX11_entry_99 : decode cX11_entry 99 = .ok (.ireturn, 1) := by decide +kernel
theorem dX11_entry_100 : decode cX11_entry 100 = .ok (.aload_n 0, 1) := by decide +kernel
theorem dX11_entry_101 : decode cX11_entry 101 = .ok (.iconst 0, 1) := by decide +kernel
theorem dX11_entry_102 : decode cX11_entry 102 = .ok (.iload_n 1, 1) := by decide +kernel
theorem dX11_entry_103 : decode cX11_entry 103 = .ok (.invokevirtual 116, 3) := by decide +kernel
theorem dX11_entry_106 : decode cX11_entry 106 = .ok (.aload_n 0, 1) := by decide +kernel
theorem dX11_entry_107 : decode cX11_entry 107 = .ok (.iconst 1, 1) := by decide +kernel
theorem dX11_entry_108 : decode cX11_entry 108 = .ok (.iload_n 2, 1) := by decide +kernel
theorem dX11_entry_109 : decode cX11_entry 109 = .ok (.invokevirtual 116, 3) := by decide +kernel
theorem dX11_entry_112 : decode cX11_entry 112 = .ok (.aload_n 0, 1) := by decide +kernel
theorem dX11_entry_113 : decode cX11_entry 113 = .ok (.iconst 2, 1) := by decide +kernel
theorem dX11_entry_114 : decode cX11_entry 114 = .ok (.iload_n 3, 1) := by decide +kernel
theorem dX11_entry_115 : decode cX11_entry 115 = .ok (.invokevirtual 116, 3) := by decide +kernel
theorem dX11_entry_118 : decode cX11_entry 118 = .ok (.aload_n 0, 1) := by decide +kernel
theorem dX11_entry_119 : decode cX11_entry 119 = .ok (.iconst 3, 1) := by decide +kernel
theorem dX11_entry_120 : decode cX11_entry 120 = .ok (.iload 4, 2) := by decide +kernel
theorem dX11_entry_122 : decode cX11_entry 122 = .ok (.invokevirtual 116, 3) := by decide +kernel
theorem dX11_entry_125 : decode cX11_entry 125 = .ok (.aload_n 0, 1) := by decide +kernel
theorem dX11_entry_126 : decode cX11_entry 126 = .ok (.iconst 4, 1) := by decide +kernel
theorem dX11_entry_127 : decode cX11_entry 127 = .ok (.iload 5, 2) := by decide +kernel
theorem dX11_entry_129 : decode cX11_entry 129 = .ok (.invokevirtual 116, 3) := by decide +kernel
theorem dX11_entry_132 : decode cX11_entry 132 = .ok (.aload_n 0, 1) := by decide +kernel
theorem dX11_entry_133 : decode cX11_entry 133 = .ok (.aload_n 0, 1) := by decide +kernel
theorem dX11_entry_134 : decode cX11_entry 134 = .ok (.getfield 26, 3) := by decide +kernel
theorem dX11_entry_137 : decode cX11_entry 137 = .ok (.iconst 5, 1) := by decide +kernel
theorem dX11_entry_138 : decode cX11_entry 138 = .ok (.aload_n 0, 1) := by decide +kernel
theorem dX11_entry_139 : decode cX11_entry 139 = .ok (.getfield 92, 3) := by decide +kernel
theorem dX11_entry_142 : decode cX11_entry 142 = .ok (.imul, 1) := by decide +kernel
theorem dX11_entry_143 : decode cX11_entry 143 = .ok (.aload_n 0, 1) := by decide +kernel
theorem dX11_entry_144 : decode cX11_entry 144 = .ok (.getfield 16, 3) := by decide +kernel
theorem dX11_entry_147 : decode cX11_entry 147 = .ok (.aload_n 0, 1) := by decide +kernel
theorem dX11_entry_148 : decode cX11_entry 148 = .ok (.getfield 92, 3) := by decide +kernel
theorem dX11_entry_151 : decode cX11_entry 151 = .ok (.iaload, 1) := by decide +kernel
theorem dX11_entry_152 : decode cX11_entry 152 = .ok (.invokevirtual 120, 3) := by decide +kernel
theorem dX11_entry_155 : decode cX11_entry 155 = .ok (.iconst (-1), 1) := by decide +kernel
theorem dX11_entry_156 : decode cX11_entry 156 = .ok (.if_icmp .eq 5, 3) := by decide +kernel
theorem dX11_entry_159 : decode cX11_entry 159 = .ok (.iconst (-1), 1) := by decide +kernel
theorem dX11_entry_160 : decode cX11_entry 160 = .ok (.ireturn, 1) := by decide +kernel
theorem dX11_entry_161 : decode cX11_entry 161 = .ok (.aload_n 0, 1) := by decide +kernel
theorem dX11_entry_162 : decode cX11_entry 162 = .ok (.getfield 20, 3) := by decide +kernel
theorem dX11_entry_165 : decode cX11_entry 165 = .ok (.aload_n 0, 1) := by decide +kernel
theorem dX11_entry_166 : decode cX11_entry 166 = .ok (.getfield 92, 3) := by decide +kernel
theorem dX11_entry_169 : decode cX11_entry 169 = .ok (.iload 6, 2) := by decide +kernel
theorem dX11_entry_171 : decode cX11_entry 171 = .ok (.iastore, 1) := by decide +kernel
theorem dX11_entry_172 : decode cX11_entry 172 = .ok (.aload_n 0, 1) := by decide +kernel
theorem dX11_entry_173 : decode cX11_entry 173 = .ok (.getfield 23, 3) := by decide +kernel
theorem dX11_entry_176 : decode cX11_entry 176 = .ok (.aload_n 0, 1) := by decide +kernel
theorem dX11_entry_177 : decode cX11_entry 177 = .ok (.getfield 92, 3) := by decide +kernel
theorem dX11_entry_180 : decode cX11_entry 180 = .ok (.iload 7, 2) := by decide +kernel
theorem dX11_entry_182 : decode cX11_entry 182 = .ok (.iastore, 1) := by decide +kernel
theorem dX11_entry_183 : decode cX11_entry 183 = .ok (.iconst 0, 1) := by decide +kernel
theorem dX11_entry_184 : decode cX11_entry 184 = .ok (.istore 8, 2) := by decide +kernel
theorem dX11_entry_186 : decode cX11_entry 186 = .ok (.iload 8, 2) := by decide +kernel
theorem dX11_entry_188 : decode cX11_entry 188 = .ok (.iload 7, 2) := by decide +kernel
theorem dX11_entry_190 : decode cX11_entry 190 = .ok (.if_icmp .ge 31, 3) := by decide +kernel
theorem dX11_entry_193 : decode cX11_entry 193 = .ok (.aload_n 0, 1) := by decide +kernel
theorem dX11_entry_194 : decode cX11_entry 194 = .ok (.getfield 29, 3) := by decide +kernel
theorem dX11_entry_197 : decode cX11_entry 197 = .ok (.bipush 16, 2) := by decide +kernel
theorem dX11_entry_199 : decode cX11_entry 199 = .ok (.aload_n 0, 1) := by decide +kernel
theorem dX11_entry_200 : decode cX11_entry 200 = .ok (.getfield 92, 3) := by decide +kernel
theorem dX11_entry_203 : decode cX11_entry 203 = .ok (.imul, 1) := by decide +kernel
theorem dX11_entry_204 : decode cX11_entry 204 = .ok (.iload 8, 2) := by decide +kernel
theorem dX11_entry_206 : decode cX11_entry 206 = .ok (.iadd, 1) := by decide +kernel
theorem dX11_entry_207 : decode cX11_entry 207 = .ok (.aload_n 0, 1) := by decide +kernel
theorem dX11_entry_208 : decode cX11_entry 208 = .ok (.getfield 13, 3) := by decide +kernel
