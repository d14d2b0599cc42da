set_option maxRecDepth 20000 in
theorem ggX9_firstOf_X6_firstAt : GoodIn wsX9_firstOf wsX6_firstAt := goodIn_r _ [13, 14, 15, 26, 27, 28, 29, 30, 31] (by decide +kernel) (by decide +kernel)
set_option maxRecDepth 20000 in
theorem gX9_firstOf_X6_firstAt : GoodIn wsX9_firstOf (wsV RX9 82 RX6 yX6_firstAt wsX6_firstAt) := goodIn_app (goodIn_of _ (by decide +kernel)) ggX9_firstOf_X6_firstAt
theorem dX9_firstOf_0 : decode cX9_firstOf 0 = .ok (.aload_n 0, 1) := by decide +kernel
theorem dX9_firstOf_1 : decode cX9_firstOf 1 = .ok (.getfield 32, 3) := by decide +kernel
theorem dX9_firstOf_4 : decode cX9_firstOf 4 = .ok (.aload_n 0, 1) := by decide +kernel
theorem dX9_firstOf_5 : decode cX9_firstOf 5 = .ok (.iload_n 1, 1) := by decide +kernel
theorem dX9_firstOf_6 : decode cX9_firstOf 6 = .ok (.invokevirtual 79, 3) := by decide +kernel
theorem dX9_firstOf_9 : decode cX9_firstOf 9 = .ok (.invokevirtual 82, 3) := by decide +kernel
theorem dX9_firstOf_12 : decode cX9_firstOf 12 = .ok (.ireturn, 1) := by decide +kernel
set_option maxRecDepth 20000 in
theorem ggX9_strokesOf_X9_lastOf : GoodIn wsX9_strokesOf wsX9_lastOf := goodIn_r _ [5, 6, 7, 20, 21, 22, 23, 24, 25, 26, 27, 28, 29] (by decide +kernel) (by decide +kernel)
set_option maxRecDepth 20000 in
theorem gX9_strokesOf_X9_lastOf : GoodIn wsX9_strokesOf (wsV RX9 79 RX9 yX9_lastOf wsX9_lastOf) := goodIn_app (goodIn_of _ (by decide +kernel)) ggX9_strokesOf_X9_lastOf
set_option maxRecDepth 20000 in
theorem ggX9_strokesOf_X9_firstOf : GoodIn wsX9_strokesOf wsX9_firstOf := goodIn_r _ [11, 12, 1, 2, 3, 4, 5, 6, 7, 13, 14, 15, 16, 17, 18, 19, 20, 21, 22, 23, 24, 25, 26, 27, 28, 29, 30, 31, 32, 33, 34, 35] (by decide +kernel) (by decide +kernel)
set_option maxRecDepth 20000 in
theorem gX9_strokesOf_X9_firstOf : GoodIn wsX9_strokesOf (wsV RX9 85 RX9 yX9_firstOf wsX9_firstOf) := goodIn_app (goodIn_of _ (by decide +kernel)) ggX9_strokesOf_X9_firstOf
theorem dX9_strokesOf_0 : decode cX9_strokesOf 0 = .ok (.aload_n 0, 1) := by decide +kernel
theorem dX9_strokesOf_1 : decode cX9_strokesOf 1 = .ok (.iload_n 1, 1) := by decide +kernel
theorem dX9_strokesOf_2 : decode cX9_strokesOf 2 = .ok (.invokevirtual 79, 3) := by decide +kernel
theorem dX9_strokesOf_5 : decode cX9_strokesOf 5 = .ok (.aload_n 0, 1) := by decide +kernel
theorem dX9_strokesOf_6 : decode cX9_strokesOf 6 = .ok (.iload_n 1, 1) := by decide +kernel
theorem dX9_strokesOf_7 : decode cX9_strokesOf 7 = .ok (.invokevirtual 85, 3) := by decide +kernel
theorem dX9_strokesOf_10 : decode cX9_strokesOf 10 = .ok (.isub, 1) := by decide +kernel
theorem dX9_strokesOf_11 : decode cX9_strokesOf 11 = .ok (.iconst 1, 1) := by decide +kernel
theorem dX9_strokesOf_12 : decode cX9_strokesOf 12 = .ok (.iadd, 1) := by decide +kernel
theorem dX9_strokesOf_13 : decode cX9_strokesOf 13 = .ok (.ireturn, 1) := by decide +kernel
set_option maxRecDepth 20000 in
theorem ggX9_lengthAhead_X9_lengthBehind : GoodIn wsX9_lengthAhead wsX9_lengthBehind := goodIn_r _ [5, 6, 7, 8, 9, 10, 11, 12, 13, 14, 15, 16, 17] (by decide +kernel) (by decide +kernel)
set_option maxRecDepth 20000 in
theorem gX9_lengthAhead_X9_lengthBehind : GoodIn wsX9_lengthAhead (wsV RX9 88 RX9 yX9_lengthBehind wsX9_lengthBehind) := goodIn_app (goodIn_of _ (by decide +kernel)) ggX9_lengthAhead_X9_lengthBehind
theorem dX9_lengthAhead_0 : decode cX9_lengthAhead 0 = .ok (.iload_n 1, 1) := by decide +kernel
theorem dX9_lengthAhead_1 : decode cX9_lengthAhead 1 = .ok (.ifCond .ne 7, 3) := by decide +kernel
theorem dX9_lengthAhead_4 : decode cX9_lengthAhead 4 = .ok (.iconst 0, 1) := by decide +kernel
theorem dX9_lengthAhead_5 : decode cX9_lengthAhead 5 = .ok (.goto 10, 3) := by decide +kernel
theorem dX9_lengthAhead_8 : decode cX9_lengthAhead 8 = .ok (.aload_n 0, 1) := by decide +kernel
theorem dX9_lengthAhead_9 : decode cX9_lengthAhead 9 = .ok (.iload_n 1, 1) := by decide +kernel
theorem dX9_lengthAhead_10 : decode cX9_lengthAhead 10 = .ok (.iconst 1, 1) := by decide +kernel
theorem dX9_lengthAhead_11 : decode cX9_lengthAhead 11 = .ok (.isub, 1) := by decide +kernel
theorem dX9_lengthAhead_12 : decode cX9_lengthAhead 12 = .ok (.invokevirtual 88, 3) := by decide +kernel
theorem dX9_lengthAhead_15 : decode cX9_lengthAhead 15 = .ok (.ireturn, 1) := by decide +kernel
theorem dX9_lengthBehind_0 : decode cX9_lengthBehind 0 = .ok (.iload_n 1, 1) := by decide +kernel
theorem dX9_lengthBehind_1 : decode cX9_lengthBehind 1 = .ok (.ifCond .lt 20, 3) := by decide +kernel
theorem dX9_lengthBehind_4 : decode cX9_lengthBehind 4 = .ok (.iload_n 1, 1) := by decide +kernel
theorem dX9_lengthBehind_5 : decode cX9_lengthBehind 5 = .ok (.aload_n 0, 1) := by decide +kernel
theorem dX9_lengthBehind_6 : decode cX9_lengthBehind 6 = .ok (.getfield 61, 3) := by decide +kernel
theorem dX9_lengthBehind_9 : decode cX9_lengthBehind 9 = .ok (.if_icmp .ge 12, 3) := by decide +kernel
theorem dX9_lengthBehind_12 : decode cX9_lengthBehind 12 = .ok (.aload_n 0, 1) := by decide +kernel
theorem dX9_lengthBehind_13 : decode cX9_lengthBehind 13 = .ok (.getfield 22, 3) := by decide +kernel
theorem dX9_lengthBehind_16 : decode cX9_lengthBehind 16 = .ok (.iload_n 1, 1) := by decide +kernel
theorem dX9_lengthBehind_17 : decode cX9_lengthBehind 17 = .ok (.iaload, 1) := by decide +kernel
theorem dX9_lengthBehind_18 : decode cX9_lengthBehind 18 = .ok (.goto 4, 3) := by decide +kernel
theorem dX9_lengthBehind_21 : decode cX9_lengthBehind 21 = .ok (.iconst (-1), 1) := by decide +kernel
theorem dX9_lengthBehind_22 : decode cX9_lengthBehind 22 = .ok (.ireturn, 1) := by decide +kernel
theorem dX9_lastOf_0 : decode cX9_lastOf 0 = .ok (.iload_n 1, 1) := by decide +kernel
theorem dX9_lastOf_1 : decode cX9_lastOf 1 = .ok (.ifCond .lt 20, 3) := by decide +kernel
theorem dX9_lastOf_4 : decode cX9_lastOf 4 = .ok (.iload_n 1, 1) := by decide +kernel
theorem dX9_lastOf_5 : decode cX9_lastOf 5 = .ok (.aload_n 0, 1) := by decide +kernel
theorem dX9_lastOf_6 : decode cX9_lastOf 6 = .ok (.getfield 61, 3) := by decide +kernel
theorem dX9_lastOf_9 : decode cX9_lastOf 9 = .ok (.if_icmp .ge 12, 3) := by decide +kernel
theorem dX9_lastOf_12 : decode cX9_lastOf 12 = .ok (.aload_n 0, 1) := by decide +kernel
theorem dX9_lastOf_13 : decode cX9_lastOf 13 = .ok (.getfield 18, 3) := by decide +kernel
theorem dX9_lastOf_16 : decode cX9_lastOf 16 = .ok (.iload_n 1, 1) := by decide +kernel
theorem dX9_lastOf_17 : decode cX9_lastOf 17 = .ok (.iaload, 1) := by decide +kernel
theorem dX9_lastOf_18 : decode cX9_lastOf 18 = .ok (.goto 4, 3) := by decide +kernel
theorem dX9_lastOf_21 : decode cX9_lastOf 21 = .ok (.iconst (-1), 1) := by decide +kernel
theorem dX9_lastOf_22 : decode cX9_lastOf 22 = .ok (.ireturn, 1) := by decide +kernel
set_option maxRecDepth 20000 in
theorem ggX9_findLasts_X6_size : GoodIn wsX9_findLasts wsX6_size := goodIn_r _ [13, 14, 30, 31, 32, 33, 34, 35] (by decide +kernel) (by decide +kernel)
set_option maxRecDepth 20000 in
theorem gX9_findLasts_X6_size : GoodIn wsX9_findLasts (wsV RX9 91 RX6 yX6_size wsX6_size) := goodIn_app (goodIn_of _ (by decide +kernel)) ggX9_findLasts_X6_size
set_option maxRecDepth 20000 in
theorem ggX9_findLasts_X6_firstAt : GoodIn wsX9_findLasts wsX6_firstAt := goodIn_r _ [18, 14, 19, 30, 31, 32, 33, 34, 35] (by decide +kernel) (by decide +kernel)
set_option maxRecDepth 20000 in
theorem gX9_findLasts_X6_firstAt : GoodIn wsX9_findLasts (wsV RX9 82 RX6 yX6_firstAt wsX6_firstAt) := goodIn_app (goodIn_of _ (by decide +kernel)) ggX9_findLasts_X6_firstAt
theorem dX9_findLasts_0 : decode cX9_findLasts 0 = .ok (.aload_n 0, 1) := by decide +kernel
theorem dX9_findLasts_1 : decode cX9_findLasts 1 = .ok (.getfield 32, 3) := by decide +kernel
theorem dX9_findLasts_4 : decode cX9_findLasts 4 = .ok (.invokevirtual 91, 3) := by decide +kernel
theorem dX9_findLasts_7 : decode cX9_findLasts 7 = .ok (.sipush 300, 3) := by decide +kernel
theorem dX9_findLasts_10 : decode cX9_findLasts 10 = .ok (.invokestatic 92, 3) := by decide +kernel
theorem dX9_findLasts_13 : decode cX9_findLasts 13 = .ok (.istore_n 1, 1) := by decide +kernel
theorem dX9_findLasts_14 : decode cX9_findLasts 14 = .ok (.iload_n 1, 1) := by decide +kernel
theorem dX9_findLasts_15 : decode cX9_findLasts 15 = .ok (.iconst 1, 1) := by decide +kernel
theorem dX9_findLasts_16 : decode cX9_findLasts 16 = .ok (.isub, 1) := by decide +kernel
theorem dX9_findLasts_17 : decode cX9_findLasts 17 = .ok (.istore_n 2, 1) := by decide +kernel
theorem dX9_findLasts_18 : decode cX9_findLasts 18 = .ok (.iload_n 2, 1) := by decide +kernel
theorem dX9_findLasts_19 : decode cX9_findLasts 19 = .ok (.istore_n 3, 1) := by decide +kernel
theorem dX9_findLasts_20 : decode cX9_findLasts 20 = .ok (.iload_n 3, 1) := by decide +kernel
theorem dX9_findLasts_21 : decode cX9_findLasts 21 = .ok (.ifCond .lt 41, 3) := by decide +kernel
theorem dX9_findLasts_24 : decode cX9_findLasts 24 = .ok (.aload_n 0, 1) := by decide +kernel
theorem dX9_findLasts_25 : decode cX9_findLasts 25 = .ok (.getfield 25, 3) := by decide +kernel
theorem dX9_findLasts_28 : decode cX9_findLasts 28 = .ok (.iload_n 3, 1) := by decide +kernel
theorem dX9_findLasts_29 : decode cX9_findLasts 29 = .ok (.iload_n 3, 1) := by decide +kernel
theorem dX9_findLasts_30 : decode cX9_findLasts 30 = .ok (.iload_n 2, 1) := by decide +kernel
theorem dX9_findLasts_31 : decode cX9_findLasts 31 = .ok (.if_icmp .ne 7, 3) := by decide +kernel
theorem dX9_findLasts_34 : decode cX9_findLasts 34 = .ok (.iconst 1, 1) := by decide +kernel
theorem dX9_findLasts_35 : decode cX9_findLasts 35 = .ok (.goto 4, 3) := by decide +kernel
theorem dX9_findLasts_38 : decode cX9_findLasts 38 = .ok (.iconst 0, 1) := by decide +kernel
theorem dX9_findLasts_39 : decode cX9_findLasts 39 = .ok (.iastore, 1) := by decide +kernel
theorem dX9_findLasts_40 : decode cX9_findLasts 40 = .ok (.iload_n 3, 1) := by decide +kernel
theorem dX9_findLasts_41 : decode cX9_findLasts 41 = .ok (.iload_n 2, 1) := by decide +kernel
theorem dX9_findLasts_42 : decode cX9_findLasts 42 = .ok (.if_icmp .ne 14, 3) := by decide +kernel
theorem dX9_findLasts_45 : decode cX9_findLasts 45 = .ok (.aload_n 0, 1) := by decide +kernel
theorem dX9_findLasts_46 : decode cX9_findLasts 46 = .ok (.getfield 32, 3) := by decide +kernel
theorem dX9_findLasts_49 : decode cX9_findLasts 49 = .ok (.iload_n 3, 1) := by decide +kernel
theorem dX9_findLasts_50 : decode cX9_findLasts 50 = .ok (.invokevirtual 82, 3) := by decide +kernel
theorem dX9_findLasts_53 : decode cX9_findLasts 53 = .ok (.iconst 1, 1) := by decide +kernel
theorem dX9_findLasts_54 : decode cX9_findLasts 54 = .ok (.isub, 1) := by decide +kernel
theorem dX9_findLasts_55 : decode cX9_findLasts 55 = .ok (.istore_n 2, 1) := by decide +kernel
theorem dX9_findLasts_56 : decode cX9_findLasts 56 = .ok (.iinc 3 (-1), 3) := by decide +kernel
theorem dX9_findLasts_59 : decode cX9_findLasts 59 = .ok (.goto (-39), 3) := by decide +kernel
theorem dX9_findLasts_62 : decode cX9_findLasts 62 = .ok (.aload_n 0, 1) := by decide +kernel
theorem dX9_findLasts_63 : decode cX9_findLasts 63 = .ok (.iconst 0, 1) := by decide +kernel
theorem dX9_findLasts_64 : decode cX9_findLasts 64 = .ok (.putfield 61, 3) := by decide +kernel
theorem dX9_findLasts_67 : decode cX9_findLasts 67 = .ok (.iconst 0, 1) := by decide +kernel
theorem dX9_findLasts_68 : decode cX9_findLasts 68 = .ok (.istore_n 3, 1) := by decide +kernel
theorem dX9_findLasts_69 : decode cX9_findLasts 69 = .ok (.iload_n 3, 1) := by decide +kernel
theorem dX9_findLasts_70 : decode cX9_findLasts 70 = .ok (.iload_n 1, 1) := by decide +kernel
theorem dX9_findLasts_71 : decode cX9_findLasts 71 = .ok (.if_icmp .ge 61, 3) := by decide +kernel
theorem dX9_findLasts_74 : decode cX9_findLasts 74 = .ok (.aload_n 0, 1) := by decide +kernel
theorem dX9_findLasts_75 : decode cX9_findLasts 75 = .ok (.getfield 25, 3) := by decide +kernel
theorem dX9_findLasts_78 : decode cX9_findLasts 78 = .ok (.iload_n 3, 1) := by decide +kernel
theorem dX9_findLasts_79 : decode cX9_findLasts 79 = .ok (.iaload, 1) := by decide +kernel
theorem dX9_findLasts_80 : decode cX9_findLasts 80 = .ok (.iconst 1, 1) := by decide +kernel
theorem dX9_findLasts_81 : decode cX9_findLasts 81 = .ok (.if_icmp .ne 7, 3) := by decide +kernel
theorem dX9_findLasts_84 : decode cX9_findLasts 84 = .ok (.iconst 1, 1) := by decide +kernel
theorem dX9_findLasts_85 : decode cX9_findLasts 85 = .ok (.goto 4, 3) := by decide +kernel
theorem dX9_findLasts_88 : decode cX9_findLasts 88 = .ok (.iconst 0, 1) := by decide +kernel
theorem dX9_findLasts_89 : decode cX9_findLasts 89 = .ok (.istore 4, 2) := by decide +kernel
theorem dX9_findLasts_91 : decode cX9_findLasts 91 = .ok (.aload_n 0, 1) := by decide +kernel
theorem dX9_findLasts_92 : decode cX9_findLasts 92 = .ok (.getfield 25, 3) := by decide +kernel
theorem dX9_findLasts_95 : decode cX9_findLasts 95 = .ok (.iload_n 3, 1) := by decide +kernel
theorem dX9_findLasts_96 : decode cX9_findLasts 96 = .ok (.aload_n 0, 1) := by decide +kernel
theorem dX9_findLasts_97 : decode cX9_findLasts 97 = .ok (.getfield 61, 3) := by decide +kernel
theorem dX9_findLasts_100 : decode cX9_findLasts 100 = .ok (.iastore, 1) := by decide +kernel
theorem dX9_findLasts_101 : decode cX9_findLasts 101 = .ok (.iload 4, 2) := by decide +kernel
theorem dX9_findLasts_103 : decode cX9_findLasts 103 = .ok (.ifCond .eq 23, 3) := by decide +kernel
theorem dX9_findLasts_106 : decode cX9_findLasts 106 = .ok (.aload_n 0, 1) := by decide +kernel
theorem dX9_findLasts_107 : decode cX9_findLasts 107 = .ok (.getfield 18, 3) := by decide +kernel
theorem dX9_findLasts_110 : decode cX9_findLasts 110 = .ok (.aload_n 0, 1) := by decide +kernel
theorem dX9_findLasts_111 : decode cX9_findLasts 111 = .ok (.getfield 61, 3) := by decide +kernel
theorem dX9_findLasts_114 : decode cX9_findLasts 114 = .ok (.iload_n 3, 1) := by decide +kernel
theorem dX9_findLasts_115 : decode cX9_findLasts 115 = .ok (.iastore, 1) := by decide +kernel
theorem dX9_findLasts_116 : decode cX9_findLasts 116 = .ok (.aload_n 0, 1) := by decide +kernel
theorem dX9_findLasts_117 : decode cX9_findLasts 117 = .ok (.dup, 1) := by decide +kernel
theorem dX9_findLasts_118 : decode cX9_findLasts 118 = .ok (.getfield 61, 3) := by decide +kernel
theorem dX9_findLasts_121 : decode cX9_findLasts 121 = .ok (.iconst 1, 1) := by decide +kernel
theorem dX9_findLasts_122 : decode cX9_findLasts 122 = .ok (.iadd, 1) := by decide +kernel
theorem dX9_findLasts_123 : decode cX9_findLasts 123 = .ok (.putfield 61, 3) := by decide +kernel
theorem dX9_findLasts_126 : decode cX9_findLasts 126 = .ok (.iinc 3 1, 3) := by decide +kernel
theorem dX9_findLasts_129 : decode cX9_findLasts 129 = .ok (.goto (-60), 3) := by decide +kernel
theorem dX9_findLasts_132 : decode cX9_findLasts 132 = .ok (.return_, 1) := by decide +kernel
set_option maxRecDepth 20000 in
theorem ggX9_writeTranslation_X9_entryOf : GoodIn wsX9_writeTranslation wsX9_entryOf := goodIn_r _ [10, 3, 11, 12, 13, 9, 14, 15, 16, 17, 18, 19, 20, 21, 22, 23, 179, 180, 181, 182, 183, 184, 185, 186, 187, 188, 189, 190, 191, 192, 193, 194] (by decide +kernel) (by decide +kernel)
set_option maxRecDepth 20000 in
theorem gX9_writeTranslation_X9_entryOf : GoodIn wsX9_writeTranslation (wsV RX9 98 RX9 yX9_entryOf wsX9_entryOf) := goodIn_app (goodIn_of _ (by decide +kernel)) ggX9_writeTranslation_X9_entryOf
set_option maxRecDepth 20000 in
theorem ggX9_writeTranslation_X9_lastOf : GoodIn wsX9_writeTranslation wsX9_lastOf := goodIn_r _ [14, 15, 16, 179, 180, 181, 182, 183, 184, 185, 186, 187, 188] (by decide +kernel) (by decide +kernel)
set_option maxRecDepth 20000 in
theorem gX9_writeTranslation_X9_lastOf : GoodIn wsX9_writeTranslation (wsV RX9 79 RX9 yX9_lastOf wsX9_lastOf) := goodIn_app (goodIn_of _ (by decide +kernel)) ggX9_writeTranslation_X9_lastOf
set_option maxRecDepth 20000 in
theorem ggX9_writeTranslation_X6_keysAt : GoodIn wsX9_writeTranslation wsX6_keysAt := goodIn_r _ [27, 22, 28, 189, 190, 191, 192, 193, 194] (by decide +kernel) (by decide +kernel)
set_option maxRecDepth 20000 in
theorem gX9_writeTranslation_X6_keysAt : GoodIn wsX9_writeTranslation (wsV RX9 101 RX6 yX6_keysAt wsX6_keysAt) := goodIn_app (goodIn_of _ (by decide +kernel)) ggX9_writeTranslation_X6_keysAt
set_option maxRecDepth 20000 in
theorem ggX9_writeTranslation_X2_spell : GoodIn wsX9_writeTranslation wsX2_spell := goodIn_r _ [33, 34, 35, 36, 37, 38, 39, 40, 41, 42, 43, 44, 45, 46, 47, 48, 49, 32, 50, 51, 52, 53, 54, 55, 56, 57, 58, 59, 60, 61, 62, 63, 64, 65, 66, 67, 68, 69, 70, 71, 72, 73, 74, 75, 76, 77, 78, 79, 80, 81, 82, 83, 84, 85, 86, 87, 88, 195, 196] (by decide +kernel) (by decide +kernel)
set_option maxRecDepth 20000 in
theorem gX9_writeTranslation_X2_spell : GoodIn wsX9_writeTranslation (wsV RX9 104 RX2 yX2_spell wsX2_spell) := goodIn_app (goodIn_of _ (by decide +kernel)) ggX9_writeTranslation_X2_spell
set_option maxRecDepth 20000 in
theorem ggX9_writeTranslation_X4_writeRaw : GoodIn wsX9_writeTranslation wsX4_writeRaw := goodIn_r _ [93, 94, 95, 96, 92, 97, 98, 99, 100, 101, 102, 103, 104, 105, 106, 107, 32, 108, 34, 109, 110, 111, 112, 51, 197, 198, 199, 200, 201, 202, 203, 195, 196] (by decide +kernel) (by decide +kernel)
set_option maxRecDepth 20000 in
theorem gX9_writeTranslation_X4_writeRaw : GoodIn wsX9_writeTranslation (wsV RX9 107 RX4 yX4_writeRaw wsX4_writeRaw) := goodIn_app (goodIn_of _ (by decide +kernel)) ggX9_writeTranslation_X4_writeRaw
set_option maxRecDepth 20000 in
theorem ggX9_writeTranslation_X0_kindOf : GoodIn wsX9_writeTranslation wsX0_kindOf := goodIn_r _ [117, 118, 119, 204, 205, 206, 207, 208, 209] (by decide +kernel) (by decide +kernel)
set_option maxRecDepth 20000 in
theorem gX9_writeTranslation_X0_kindOf : GoodIn wsX9_writeTranslation (wsV RX9 111 RX0 yX0_kindOf wsX0_kindOf) := goodIn_app (goodIn_of _ (by decide +kernel)) ggX9_writeTranslation_X0_kindOf
set_option maxRecDepth 20000 in
theorem ggX9_writeTranslation_X4_writeEntry : GoodIn wsX9_writeTranslation wsX4_writeEntry := goodIn_r _ [123, 124, 99, 125, 126, 114, 115, 116, 117, 118, 119, 127, 128, 129, 92, 130, 94, 95, 96, 97, 98, 100, 101, 102, 103, 104, 131, 132, 133, 134, 135, 136, 137, 138, 139, 140, 141, 142, 143, 144, 145, 146, 147, 148, 149, 150, 151, 152, 153, 154, 155, 156, 157, 158, 159, 160, 161, 162, 163, 164, 165, 166, 167, 168, 169, 170, 171, 172, 173, 174, 175, 176, 177, 178, 197, 198, 199, 200, 201, 202, 203, 204, 205, 206, 207, 208, 209] (by decide +kernel) (by decide +kernel)
set_option maxRecDepth 20000 in
theorem gX9_writeTranslation_X4_writeEntry : GoodIn wsX9_writeTranslation (wsV RX9 116 RX4 yX4_writeEntry wsX4_writeEntry) := goodIn_app (goodIn_of _ (by decide +kernel)) ggX9_writeTranslation_X4_writeEntry
theorem dX9_writeTranslation_0 : decode cX9_writeTranslation 0 = .ok (.aload_n 0, 1) := by decide +kernel
theorem dX9_writeTranslation_1 : decode cX9_writeTranslation 1 = .ok (.iload_n 1, 1) := by decide +kernel
theorem dX9_writeTranslation_2 : decode cX9_writeTranslation 2 = .ok (.invokevirtual 98, 3) := by decide +kernel
theorem dX9_writeTranslation_5 : decode cX9_writeTranslation 5 = .ok (.istore_n 2, 1) := by decide +kernel
theorem dX9_writeTranslation_6 : decode cX9_writeTranslation 6 = .ok (.iload_n 2, 1) := by decide +kernel
theorem dX9_writeTranslation_7 : decode cX9_writeTranslation 7 = .ok (.iconst (-1), 1) := by decide +kernel
theorem dX9_writeTranslation_8 : decode cX9_writeTranslation 8 = .ok (.if_icmp .ne 46, 3) := by decide +kernel
theorem dX9_writeTranslation_11 : decode cX9_writeTranslation 11 = .ok (.aload_n 0, 1) := by decide +kernel
theorem dX9_writeTranslation_12 : decode cX9_writeTranslation 12 = .ok (.dup, 1) := by decide +kernel
theorem dX9_writeTranslation_13 : decode cX9_writeTranslation 13 = .ok (.getfield 57, 3) := by decide +kernel
theorem dX9_writeTranslation_16 : decode cX9_writeTranslation 16 = .ok (.iconst 1, 1) := by decide +kernel
theorem dX9_writeTranslation_17 : decode cX9_writeTranslation 17 = .ok (.iadd, 1) := by decide +kernel
theorem dX9_writeTranslation_18 : decode cX9_writeTranslation 18 = .ok (.putfield 57, 3) := by decide +kernel
theorem dX9_writeTranslation_21 : decode cX9_writeTranslation 21 = .ok (.aload_n 0, 1) := by decide +kernel
theorem dX9_writeTranslation_22 : decode cX9_writeTranslation 22 = .ok (.getfield 12, 3) := by decide +kernel
theorem dX9_writeTranslation_25 : decode cX9_writeTranslation 25 = .ok (.aload_n 0, 1) := by decide +kernel
theorem dX9_writeTranslation_26 : decode cX9_writeTranslation 26 = .ok (.getfield 32, 3) := by decide +kernel
theorem dX9_writeTranslation_29 : decode cX9_writeTranslation 29 = .ok (.aload_n 0, 1) := by decide +kernel
theorem dX9_writeTranslation_30 : decode cX9_writeTranslation 30 = .ok (.iload_n 1, 1) := by decide +kernel
theorem dX9_writeTranslation_31 : decode cX9_writeTranslation 31 = .ok (.invokevirtual 79, 3) := by decide +kernel
theorem dX9_writeTranslation_34 : decode cX9_writeTranslation 34 = .ok (.invokevirtual 101, 3) := by decide +kernel
theorem dX9_writeTranslation_37 : decode cX9_writeTranslation 37 = .ok (.invokevirtual 104, 3) := by decide +kernel
theorem dX9_writeTranslation_40 : decode cX9_writeTranslation 40 = .ok (.aload_n 0, 1) := by decide +kernel
theorem dX9_writeTranslation_41 : decode cX9_writeTranslation 41 = .ok (.getfield 36, 3) := by decide +kernel
theorem dX9_writeTranslation_44 : decode cX9_writeTranslation 44 = .ok (.aload_n 0, 1) := by decide +kernel
theorem dX9_writeTranslation_45 : decode cX9_writeTranslation 45 = .ok (.getfield 12, 3) := by decide +kernel
theorem dX9_writeTranslation_48 : decode cX9_writeTranslation 48 = .ok (.invokevirtual 107, 3) := by decide +kernel
theorem dX9_writeTranslation_51 : decode cX9_writeTranslation 51 = .ok (.goto 34, 3) := by decide +kernel
theorem dX9_writeTranslation_54 : decode cX9_writeTranslation 54 = .ok (.aload_n 0, 1) := by decide +kernel
theorem dX9_writeTranslation_55 : decode cX9_writeTranslation 55 = .ok (.getfield 36, 3) := by decide +kernel
theorem dX9_writeTranslation_58 : decode cX9_writeTranslation 58 = .ok (.iload_n 2, 1) := by decide +kernel
theorem dX9_writeTranslation_59 : decode cX9_writeTranslation 59 = .ok (.aload_n 0, 1) := by decide +kernel
theorem dX9_writeTranslation_60 : decode cX9_writeTranslation 60 = .ok (.getfield 28, 3) := by decide +kernel
theorem dX9_writeTranslation_63 : decode cX9_writeTranslation 63 = .ok (.aload_n 0, 1) := by decide +kernel
theorem dX9_writeTranslation_64 : decode cX9_writeTranslation 64 = .ok (.iload_n 1, 1) := by decide +kernel
theorem dX9_writeTranslation_65 : decode cX9_writeTranslation 65 = .ok (.iconst 1, 1) := by decide +kernel
theorem dX9_writeTranslation_66 : decode cX9_writeTranslation 66 = .ok (.isub, 1) := by decide +kernel
theorem dX9_writeTranslation_67 : decode cX9_writeTranslation 67 = .ok (.invokevirtual 98, 3) := by decide +kernel
theorem dX9_writeTranslation_70 : decode cX9_writeTranslation 70 = .ok (.invokevirtual 111, 3) := by decide +kernel
theorem dX9_writeTranslation_73 : decode cX9_writeTranslation 73 = .ok (.iconst 5, 1) := by decide +kernel
theorem dX9_writeTranslation_74 : decode cX9_writeTranslation 74 = .ok (.if_icmp .ne 7, 3) := by decide +kernel
theorem dX9_writeTranslation_77 : decode cX9_writeTranslation 77 = .ok (.iconst 1, 1) := by decide +kernel
theorem dX9_writeTranslation_78 : decode cX9_writeTranslation 78 = .ok (.goto 4, 3) := by decide +kernel
theorem dX9_writeTranslation_81 : decode cX9_writeTranslation 81 = .ok (.iconst 0, 1) := by decide +kernel
theorem dX9_writeTranslation_82 : decode cX9_writeTranslation 82 = .ok (.invokevirtual 116, 3) := by decide +kernel
theorem dX9_writeTranslation_85 : decode cX9_writeTranslation 85 = .ok (.return_, 1) := by decide +kernel
set_option maxRecDepth 20000 in
theorem ggX10_init_X8_init : GoodIn wsX10_init wsX8_init := goodIn_r _ [39, 40, 2, 3, 41, 42, 129, 130] (by decide +kernel) (by decide +kernel)
set_option maxRecDepth 20000 in
theorem gX10_init_X8_init_n9 : GoodIn wsX10_init (wsX8_init) := ggX10_init_X8_init
set_option maxRecDepth 20000 in
theorem ggX10_init_X0_init : GoodIn wsX10_init wsX0_init := goodIn_r _ [44, 45, 2, 3, 36, 46, 47, 48, 49, 41, 50, 140, 141, 142, 143, 144, 145] (by decide +kernel) (by decide +kernel)
set_option maxRecDepth 20000 in
theorem gX10_init_X0_init_n18 : GoodIn wsX10_init (wsX0_init) := ggX10_init_X0_init
set_option maxRecDepth 20000 in
theorem ggX10_init_X6_init : GoodIn wsX10_init wsX6_init := goodIn_r _ [53, 54, 2, 3, 36, 55, 56, 57, 58, 146, 147, 148, 149, 150, 151] (by decide +kernel) (by decide +kernel)
set_option maxRecDepth 20000 in
theorem gX10_init_X6_init : GoodIn wsX10_init (wsX6_init) := ggX10_init_X6_init
set_option maxRecDepth 20000 in
theorem ggX10_init_X4_init : GoodIn wsX10_init wsX4_init := goodIn_r _ [61, 62, 2, 3, 63, 64, 65, 66, 67, 41, 68, 152, 153, 154, 155, 156, 157, 158] (by decide +kernel) (by decide +kernel)
set_option maxRecDepth 20000 in
theorem gX10_init_X4_init : GoodIn wsX10_init (wsX4_init) := ggX10_init_X4_init
set_option maxRecDepth 20000 in
theorem ggX10_init_X9_init : GoodIn wsX10_init wsX9_init := goodIn_r _ [71, 72, 2, 3, 73, 33, 34, 74, 36, 75, 76, 77, 78, 79, 80, 81, 82, 83, 41, 84, 186, 187, 159, 160, 161, 162, 163, 164, 165, 166, 167, 168] (by decide +kernel) (by decide +kernel)
set_option maxRecDepth 20000 in
theorem gX10_init_X9_init : GoodIn wsX10_init (wsX9_init) := ggX10_init_X9_init
set_option maxRecDepth 20000 in
theorem ggX10_init_X5_init : GoodIn wsX10_init wsX5_init := goodIn_r _ [87, 88, 2, 3, 41, 89, 36, 90, 91, 92, 93, 94, 95, 96, 97, 98, 99, 100, 101, 102, 103, 13, 14, 104, 105, 106, 107, 108, 109, 110, 111, 112, 113, 114, 115, 116, 117, 118, 119, 17, 18, 120, 121, 60, 61, 62, 63, 64, 65, 66, 67, 68, 122, 52, 53, 54, 55, 56, 57, 58, 169, 170, 171, 172, 173, 174, 175, 176, 177, 178, 179, 180, 181, 188, 189, 190, 191, 192, 193, 194, 195, 196, 146, 147, 148, 149, 150, 151, 152, 153, 154, 155, 156, 157, 158] (by decide +kernel) (by decide +kernel)
set_option maxRecDepth 20000 in
theorem gX10_init_X5_init : GoodIn wsX10_init (wsX5_init) := ggX10_init_X5_init
set_option maxRecDepth 20000 in
theorem ggX10_init_X7_init : GoodIn wsX10_init wsX7_init := goodIn_r _ [125, 126, 2, 3, 36, 127, 128, 182, 183, 184, 185] (by decide +kernel) (by decide +kernel)
set_option maxRecDepth 20000 in
theorem gX10_init_X7_init : GoodIn wsX10_init (wsX7_init) := ggX10_init_X7_init
set_option maxRecDepth 20000 in
theorem ggX10_init_X2_init : GoodIn wsX10_init wsX2_init := goodIn_r _ [82, 83, 2, 3, 41, 84, 186, 187] (by decide +kernel) (by decide +kernel)
set_option maxRecDepth 20000 in
theorem gX10_init_X2_init_n66 : GoodIn wsX10_init (wsX2_init) := ggX10_init_X2_init
theorem dX10_init_0 : decode cX10_init 0 = .ok (.aload_n 0, 1) := by decide +kernel
theorem dX10_init_1 : decode cX10_init 1 = .ok (.invokespecial 1, 3) := by decide +kernel
theorem dX10_init_4 : decode cX10_init 4 = .ok (.aload_n 0, 1) := by decide +kernel
theorem dX10_init_5 : decode cX10_init 5 = .ok (.new 7, 3) := by decide +kernel
theorem dX10_init_8 : decode cX10_init 8 = .ok (.dup, 1) := by decide +kernel
theorem dX10_init_9 : decode cX10_init 9 = .ok (.invokespecial 9, 3) := by decide +kernel
theorem dX10_init_12 : decode cX10_init 12 = .ok (.putfield 10, 3) := by decide +kernel
theorem dX10_init_15 : decode cX10_init 15 = .ok (.aload_n 0, 1) := by decide +kernel
theorem dX10_init_16 : decode cX10_init 16 = .ok (.new 16, 3) := by decide +kernel
theorem dX10_init_19 : decode cX10_init 19 = .ok (.dup, 1) := by decide +kernel
theorem dX10_init_20 : decode cX10_init 20 = .ok (.invokespecial 18, 3) := by decide +kernel
theorem dX10_init_23 : decode cX10_init 23 = .ok (.putfield 19, 3) := by decide +kernel
theorem dX10_init_26 : decode cX10_init 26 = .ok (.aload_n 0, 1) := by decide +kernel
theorem dX10_init_27 : decode cX10_init 27 = .ok (.new 23, 3) := by decide +kernel
theorem dX10_init_30 : decode cX10_init 30 = .ok (.dup, 1) := by decide +kernel
theorem dX10_init_31 : decode cX10_init 31 = .ok (.aload_n 0, 1) := by decide +kernel
theorem dX10_init_32 : decode cX10_init 32 = .ok (.getfield 19, 3) := by decide +kernel
theorem dX10_init_35 : decode cX10_init 35 = .ok (.invokespecial 25, 3) := by decide +kernel
theorem dX10_init_38 : decode cX10_init 38 = .ok (.putfield 28, 3) := by decide +kernel
theorem dX10_init_41 : decode cX10_init 41 = .ok (.aload_n 0, 1) := by decide +kernel
theorem dX10_init_42 : decode cX10_init 42 = .ok (.new 32, 3) := by decide +kernel
theorem dX10_init_45 : decode cX10_init 45 = .ok (.dup, 1) := by decide +kernel
theorem dX10_init_46 : decode cX10_init 46 = .ok (.aload_n 0, 1) := by decide +kernel
theorem dX10_init_47 : decode cX10_init 47 = .ok (.getfield 19, 3) := by decide +kernel
theorem dX10_init_50 : decode cX10_init 50 = .ok (.sipush 6900, 3) := by decide +kernel
theorem dX10_init_53 : decode cX10_init 53 = .ok (.invokespecial 34, 3) := by decide +kernel
theorem dX10_init_56 : decode cX10_init 56 = .ok (.putfield 37, 3) := by decide +kernel
theorem dX10_init_59 : decode cX10_init 59 = .ok (.aload_n 0, 1) := by decide +kernel
theorem dX10_init_60 : decode cX10_init 60 = .ok (.new 41, 3) := by decide +kernel
theorem dX10_init_63 : decode cX10_init 63 = .ok (.dup, 1) := by decide +kernel
theorem dX10_init_64 : decode cX10_init 64 = .ok (.aload_n 0, 1) := by decide +kernel
theorem dX10_init_65 : decode cX10_init 65 = .ok (.getfield 19, 3) := by decide +kernel
theorem dX10_init_68 : decode cX10_init 68 = .ok (.aload_n 0, 1) := by decide +kernel
theorem dX10_init_69 : decode cX10_init 69 = .ok (.getfield 28, 3) := by decide +kernel
theorem dX10_init_72 : decode cX10_init 72 = .ok (.aload_n 0, 1) := by decide +kernel
theorem dX10_init_73 : decode cX10_init 73 = .ok (.getfield 37, 3) := by decide +kernel
theorem dX10_init_76 : decode cX10_init 76 = .ok (.invokespecial 43, 3) := by decide +kernel
theorem dX10_init_79 : decode cX10_init 79 = .ok (.putfield 46, 3) := by decide +kernel
theorem dX10_init_82 : decode cX10_init 82 = .ok (.aload_n 0, 1) := by decide +kernel
theorem dX10_init_83 : decode cX10_init 83 = .ok (.new 50, 3) := by decide +kernel
theorem dX10_init_86 : decode cX10_init 86 = .ok (.dup, 1) := by decide +kernel
theorem dX10_init_87 : decode cX10_init 87 = .ok (.aload_n 0, 1) := by decide +kernel
theorem dX10_init_88 : decode cX10_init 88 = .ok (.getfield 19, 3) := by decide +kernel
theorem dX10_init_91 : decode cX10_init 91 = .ok (.invokespecial 52, 3) := by decide +kernel
theorem dX10_init_94 : decode cX10_init 94 = .ok (.putfield 53, 3) := by decide +kernel
theorem dX10_init_97 : decode cX10_init 97 = .ok (.aload_n 0, 1) := by decide +kernel
theorem dX10_init_98 : decode cX10_init 98 = .ok (.new 57, 3) := by decide +kernel
theorem dX10_init_101 : decode cX10_init 101 = .ok (.dup, 1) := by decide +kernel
theorem dX10_init_102 : decode cX10_init 102 = .ok (.aload_n 0, 1) := by decide +kernel
theorem dX10_init_103 : decode cX10_init 103 = .ok (.getfield 19, 3) := by decide +kernel
theorem dX10_init_106 : decode cX10_init 106 = .ok (.invokespecial 59, 3) := by decide +kernel
theorem dX10_init_109 : decode cX10_init 109 = .ok (.putfield 60, 3) := by decide +kernel
theorem dX10_init_112 : decode cX10_init 112 = .ok (.aload_n 0, 1) := by decide +kernel
theorem dX10_init_113 : decode cX10_init 113 = .ok (.new 64, 3) := by decide +kernel
theorem dX10_init_116 : decode cX10_init 116 = .ok (.dup, 1) := by decide +kernel
theorem dX10_init_117 : decode cX10_init 117 = .ok (.invokespecial 66, 3) := by decide +kernel
theorem dX10_init_120 : decode cX10_init 120 = .ok (.putfield 67, 3) := by decide +kernel
theorem dX10_init_123 : decode cX10_init 123 = .ok (.aload_n 0, 1) := by decide +kernel
theorem dX10_init_124 : decode cX10_init 124 = .ok (.iconst 5, 1) := by decide +kernel
theorem dX10_init_125 : decode cX10_init 125 = .ok (.newarray .int, 2) := by decide +kernel
theorem dX10_init_127 : decode cX10_init 127 = .ok (.putfield 71, 3) := by decide +kernel
theorem dX10_init_130 : decode cX10_init 130 = .ok (.return_, 1) := by decide +kernel
set_option maxRecDepth 20000 in
theorem ggX10_feed_X8_hasRoom : GoodIn wsX10_feed wsX8_hasRoom := goodIn_r _ [6, 7, 26, 27] (by decide +kernel) (by decide +kernel)
set_option maxRecDepth 20000 in
theorem gX10_feed_X8_hasRoom : GoodIn wsX10_feed (wsV RX10 75 RX8 yX8_hasRoom wsX8_hasRoom) := goodIn_app (goodIn_of _ (by decide +kernel)) ggX10_feed_X8_hasRoom
set_option maxRecDepth 20000 in
theorem ggX10_feed_X8_add : GoodIn wsX10_feed wsX8_add := goodIn_r _ [11, 7, 12, 26, 27] (by decide +kernel) (by decide +kernel)
set_option maxRecDepth 20000 in
theorem gX10_feed_X8_add : GoodIn wsX10_feed (wsV RX10 79 RX8 yX8_add wsX8_add) := goodIn_app (goodIn_of _ (by decide +kernel)) ggX10_feed_X8_add
set_option maxRecDepth 20000 in
theorem ggX10_feed_X8_size : GoodIn wsX10_feed wsX8_size := goodIn_r _ [16, 7, 26, 27] (by decide +kernel) (by decide +kernel)
set_option maxRecDepth 20000 in
theorem gX10_feed_X8_size : GoodIn wsX10_feed (wsV RX10 83 RX8 yX8_size wsX8_size) := goodIn_app (goodIn_of _ (by decide +kernel)) ggX10_feed_X8_size
theorem dX10_feed_0 : decode cX10_feed 0 = .ok (.aload_n 0, 1) := by decide +kernel
theorem dX10_feed_1 : decode cX10_feed 1 = .ok (.getfield 10, 3) := by decide +kernel
theorem dX10_feed_4 : decode cX10_feed 4 = .ok (.bipush 20, 2) := by decide +kernel
theorem dX10_feed_6 : decode cX10_feed 6 = .ok (.invokevirtual 75, 3) := by decide +kernel
theorem dX10_feed_9 : decode cX10_feed 9 = .ok (.ifCond .ne 5, 3) := by decide +kernel
theorem dX10_feed_12 : decode cX10_feed 12 = .ok (.iconst (-1), 1) := by decide +kernel
theorem dX10_feed_13 : decode cX10_feed 13 = .ok (.ireturn, 1) := by decide +kernel
theorem dX10_feed_14 : decode cX10_feed 14 = .ok (.aload_n 0, 1) := by decide +kernel
theorem dX10_feed_15 : decode cX10_feed 15 = .ok (.getfield 10, 3) := by decide +kernel
theorem dX10_feed_18 : decode cX10_feed 18 = .ok (.iload_n 1, 1) := by decide +kernel
theorem dX10_feed_19 : decode cX10_feed 19 = .ok (.invokevirtual 79, 3) := by decide +kernel
theorem dX10_feed_22 : decode cX10_feed 22 = .ok (.aload_n 0, 1) := by decide +kernel
theorem dX10_feed_23 : decode cX10_feed 23 = .ok (.getfield 10, 3) := by decide +kernel
theorem dX10_feed_26 : decode cX10_feed 26 = .ok (.iload_n 2, 1) := by decide +kernel
theorem dX10_feed_27 : decode cX10_feed 27 = .ok (.invokevirtual 79, 3) := by decide +kernel
theorem dX10_feed_30 : decode cX10_feed 30 = .ok (.aload_n 0, 1) := by decide +kernel
theorem dX10_feed_31 : decode cX10_feed 31 = .ok (.getfield 10, 3) := by decide +kernel
theorem dX10_feed_34 : decode cX10_feed 34 = .ok (.iload_n 3, 1) := by decide +kernel
theorem dX10_feed_35 : decode cX10_feed 35 = .ok (.invokevirtual 79, 3) := by decide +kernel
theorem dX10_feed_38 : decode cX10_feed 38 = .ok (.aload_n 0, 1) := by decide +kernel
theorem dX10_feed_39 : decode cX10_feed 39 = .ok (.getfield 10, 3) := by decide +kernel
theorem dX10_feed_42 : decode cX10_feed 42 = .ok (.iload 4, 2) := by decide +kernel
theorem dX10_feed_44 : decode cX10_feed 44 = .ok (.invokevirtual 79, 3) := by decide +kernel
theorem dX10_feed_47 : decode cX10_feed 47 = .ok (.aload_n 0, 1) := by decide +kernel
theorem dX10_feed_48 : decode cX10_feed 48 = .ok (.getfield 10, 3) := by decide +kernel
theorem dX10_feed_51 : decode cX10_feed 51 = .ok (.iload 5, 2) := by decide +kernel
theorem dX10_feed_53 : decode cX10_feed 53 = .ok (.invokevirtual 79, 3) := by decide +kernel
theorem dX10_feed_56 : decode cX10_feed 56 = .ok (.aload_n 0, 1) := by decide +kernel
theorem dX10_feed_57 : decode cX10_feed 57 = .ok (.getfield 10, 3) := by decide +kernel
theorem dX10_feed_60 : decode cX10_feed 60 = .ok (.invokevirtual 83, 3) := by decide +kernel
theorem dX10_feed_63 : decode cX10_feed 63 = .ok (.ireturn, 1) := by decide +kernel
set_option maxRecDepth 20000 in
theorem ggX10_entry_X10_layOutline : GoodIn wsX10_entry wsX10_layOutline := goodIn_r _ [8, 3, 9, 10, 7, 11, 12, 94, 95, 96, 97, 98, 99, 100, 101, 102] (by decide +kernel) (by decide +kernel)
set_option maxRecDepth 20000 in
theorem gX10_entry_X10_layOutline : GoodIn wsX10_entry (wsV RX10 87 RX10 yX10_layOutline wsX10_layOutline) := goodIn_app (goodIn_of _ (by decide +kernel)) ggX10_entry_X10_layOutline
set_option maxRecDepth 20000 in
theorem ggX10_entry_X0_takesLength : GoodIn wsX10_entry wsX0_takesLength := goodIn_r _ [16] (by decide +kernel) (by decide +kernel)
set_option maxRecDepth 20000 in
theorem gX10_entry_X0_takesLength : GoodIn wsX10_entry (va_wsS RX10 91 yX0_takesLength wsX0_takesLength) := goodIn_app (goodIn_of _ (by decide +kernel)) ggX10_entry_X0_takesLength
set_option maxRecDepth 20000 in
theorem ggX10_entry_X8_size : GoodIn wsX10_entry wsX8_size := goodIn_r _ [21, 22, 103, 104] (by decide +kernel) (by decide +kernel)
set_option maxRecDepth 20000 in
theorem gX10_entry_X8_size : GoodIn wsX10_entry (wsV RX10 83 RX8 yX8_size wsX8_size) := goodIn_app (goodIn_of _ (by decide +kernel)) ggX10_entry_X8_size
set_option maxRecDepth 20000 in
theorem ggX10_entry_X10_tapeFits : GoodIn wsX10_entry wsX10_tapeFits := goodIn_r _ [26, 1, 27, 28, 29, 20, 30, 22, 31, 32, 33, 15, 34, 35, 7, 36, 94, 95, 96, 97, 98, 99, 100, 101, 102, 103, 104] (by decide +kernel) (by decide +kernel)
set_option maxRecDepth 20000 in
theorem gX10_entry_X10_tapeFits : GoodIn wsX10_entry (wsV RX10 95 RX10 yX10_tapeFits wsX10_tapeFits) := goodIn_app (goodIn_of _ (by decide +kernel)) ggX10_entry_X10_tapeFits
set_option maxRecDepth 20000 in
theorem ggX10_entry_X0_isFull : GoodIn wsX10_entry wsX0_isFull := goodIn_r _ [40, 41, 105, 106, 107, 108, 109, 110] (by decide +kernel) (by decide +kernel)
set_option maxRecDepth 20000 in
theorem gX10_entry_X0_isFull : GoodIn wsX10_entry (wsV RX10 98 RX0 yX0_isFull wsX0_isFull) := goodIn_app (goodIn_of _ (by decide +kernel)) ggX10_entry_X0_isFull
set_option maxRecDepth 20000 in
theorem ggX10_entry_X0_hasOutline : GoodIn wsX10_entry wsX0_hasOutline := goodIn_r _ [45, 41, 46, 47, 48, 49, 15, 50, 51, 52, 53, 54, 55, 105, 106, 107, 108, 109, 110] (by decide +kernel) (by decide +kernel)
set_option maxRecDepth 20000 in
theorem gX10_entry_X0_hasOutline : GoodIn wsX10_entry (wsV RX10 102 RX0 yX0_hasOutline wsX0_hasOutline) := goodIn_app (goodIn_of _ (by decide +kernel)) ggX10_entry_X0_hasOutline
set_option maxRecDepth 20000 in
theorem ggX10_entry_X0_add : GoodIn wsX10_entry wsX0_add := goodIn_r _ [59, 41, 51, 60, 61, 46, 62, 63, 28, 29, 20, 30, 22, 31, 105, 106, 107, 108, 109, 110, 103, 104] (by decide +kernel) (by decide +kernel)
set_option maxRecDepth 20000 in
theorem gX10_entry_X0_add : GoodIn wsX10_entry (wsV RX10 106 RX0 yX0_add wsX0_add) := goodIn_app (goodIn_of _ (by decide +kernel)) ggX10_entry_X0_add
set_option maxRecDepth 20000 in
theorem ggX10_entry_X10_readAnew : GoodIn wsX10_entry wsX10_readAnew := goodIn_r _ [67, 68, 69, 70, 71, 72, 73, 74, 75, 76, 77, 78, 79, 80, 81, 82, 83, 84, 85, 94, 95, 96, 97, 98, 99, 100, 101, 102, 111, 112, 113, 114, 115, 116, 117, 118, 119, 120, 121, 122, 123, 124, 125, 126] (by decide +kernel) (by decide +kernel)
set_option maxRecDepth 20000 in
theorem gX10_entry_X10_readAnew : GoodIn wsX10_entry (wsV RX10 109 RX10 yX10_readAnew wsX10_readAnew) := goodIn_app (goodIn_of _ (by decide +kernel)) ggX10_entry_X10_readAnew
set_option maxRecDepth 20000 in
theorem ggX10_entry_X8_wipe : GoodIn wsX10_entry wsX8_wipe := goodIn_r _ [89, 22, 103, 104] (by decide +kernel) (by decide +kernel)
set_option maxRecDepth 20000 in
theorem gX10_entry_X8_wipe : GoodIn wsX10_entry (wsV RX10 112 RX8 yX8_wipe wsX8_wipe) := goodIn_app (goodIn_of _ (by decide +kernel)) ggX10_entry_X8_wipe
set_option maxRecDepth 20000 in
theorem ggX10_entry_X0_size : GoodIn wsX10_entry wsX0_size := goodIn_r _ [93, 41, 105, 106, 107, 108, 109, 110] (by decide +kernel) (by decide +kernel)
set_option maxRecDepth 20000 in
theorem gX10_entry_X0_size : GoodIn wsX10_entry (wsV RX10 115 RX0 yX0_size wsX0_size) := goodIn_app (goodIn_of _ (by decide +kernel)) ggX10_entry_X0_size
theorem dX10_entry_0 : decode cX10_entry 0 = .ok (.aload_n 0, 1) := by decide +kernel
theorem dX10_entry_1 : decode cX10_entry 1 = .ok (.iload_n 1, 1) := by decide +kernel
theorem dX10_entry_2 : decode cX10_entry 2 = .ok (.iload_n 2, 1) := by decide +kernel
theorem dX10_entry_3 : decode cX10_entry 3 = .ok (.iload_n 3, 1) := by decide +kernel
theorem dX10_entry_4 : decode cX10_entry 4 = .ok (.iload 4, 2) := by decide +kernel
theorem dX10_entry_6 : decode cX10_entry 6 = .ok (.iload 5, 2) := by decide +kernel
theorem dX10_entry_8 : decode cX10_entry 8 = .ok (.invokevirtual 87, 3) := by decide +kernel
theorem dX10_entry_11 : decode cX10_entry 11 = .ok (.istore 8, 2) := by decide +kernel
theorem dX10_entry_13 : decode cX10_entry 13 = .ok (.iload 8, 2) := by decide +kernel
theorem dX10_entry_15 : decode cX10_entry 15 = .ok (.ifCond .eq 25, 3) := by decide +kernel
theorem dX10_entry_18 : decode cX10_entry 18 = .ok (.iload 6, 2) := by decide +kernel
theorem dX10_entry_20 : decode cX10_entry 20 = .ok (.iload 7, 2) := by decide +kernel
theorem dX10_entry_22 : decode cX10_entry 22 = .ok (.invokestatic 91, 3) := by decide +kernel
theorem dX10_entry_25 : decode cX10_entry 25 = .ok (.ifCond .eq 15, 3) := by decide +kernel
theorem dX10_entry_28 : decode cX10_entry 28 = .ok (.iload 7, 2) := by decide +kernel
theorem dX10_entry_30 : decode cX10_entry 30 = .ok (.aload_n 0, 1) := by decide +kernel
theorem dX10_entry_31 : decode cX10_entry 31 = .ok (.getfield 10, 3) := by decide +kernel
theorem dX10_entry_34 : decode cX10_entry 34 = .ok (.invokevirtual 83, 3) := by decide +kernel
theorem dX10_entry_37 : decode cX10_entry 37 = .ok (.if_icmp .le 5, 3) := by decide +kernel
theorem dX10_entry_40 : decode cX10_entry 40 = .ok (.iconst (-1), 1) := by decide +kernel
theorem dX10_entry_41 : decode cX10_entry 41 = .ok (.ireturn, 1) := by decide +kernel
theorem dX10_entry_42 : decode cX10_entry 42 = .ok (.aload_n 0, 1) := by decide +kernel
theorem dX10_entry_43 : decode cX10_entry 43 = .ok (.iload 6, 2) := by decide +kernel
theorem dX10_entry_45 : decode cX10_entry 45 = .ok (.iload 7, 2) := by decide +kernel
theorem dX10_entry_47 : decode cX10_entry 47 = .ok (.invokevirtual 95, 3) := by decide +kernel
theorem dX10_entry_50 : decode cX10_entry 50 = .ok (.ifCond .eq 33, 3) := by decide +kernel
theorem dX10_entry_53 : decode cX10_entry 53 = .ok (.aload_n 0, 1) := by decide +kernel
theorem dX10_entry_54 : decode cX10_entry 54 = .ok (.getfield 19, 3) := by decide +kernel
theorem dX10_entry_57 : decode cX10_entry 57 = .ok (.invokevirtual 98, 3) := by decide +kernel
theorem dX10_entry_60 : decode cX10_entry 60 = .ok (.ifCond .ne 23, 3) := by decide +kernel
theorem dX10_entry_63 : decode cX10_entry 63 = .ok (.aload_n 0, 1) := by decide +kernel
theorem dX10_entry_64 : decode cX10_entry 64 = .ok (.getfield 19, 3) := by decide +kernel
theorem dX10_entry_67 : decode cX10_entry 67 = .ok (.aload_n 0, 1) := by decide +kernel
theorem dX10_entry_68 : decode cX10_entry 68 = .ok (.getfield 71, 3) := by decide +kernel
theorem dX10_entry_71 : decode cX10_entry 71 = .ok (.iload 8, 2) := by decide +kernel
theorem dX10_entry_73 : decode cX10_entry 73 = .ok (.invokevirtual 102, 3) := by decide +kernel
theorem dX10_entry_76 : decode cX10_entry 76 = .ok (.ifCond .ne 7, 3) := by decide +kernel
theorem dX10_entry_79 : decode cX10_entry 79 = .ok (.iconst 1, 1) := by decide +kernel
theorem dX10_entry_80 : decode cX10_entry 80 = .ok (.goto 4, 3) := by decide +kernel
theorem dX10_entry_83 : decode cX10_entry 83 = .ok (.iconst 0, 1) := by decide +kernel
theorem dX10_entry_84 : decode cX10_entry 84 = .ok (.istore 9, 2) := by decide +kernel
theorem dX10_entry_86 : decode cX10_entry 86 = .ok (.iload 9, 2) := by decide +kernel
theorem dX10_entry_88 : decode cX10_entry 88 = .ok (.ifCond .eq 29, 3) := by decide +kernel
theorem dX10_entry_91 : decode cX10_entry 91 = .ok (.aload_n 0, 1) := by decide +kernel
theorem dX10_entry_92 : decode cX10_entry 92 = .ok (.getfield 19, 3) := by decide +kernel
theorem dX10_entry_95 : decode cX10_entry 95 = .ok (.aload_n 0, 1) := by decide +kernel
theorem dX10_entry_96 : decode cX10_entry 96 = .ok (.getfield 71, 3) := by decide +kernel
theorem dX10_entry_99 : decode cX10_entry 99 = .ok (.iload 8, 2) := by decide +kernel
theorem dX10_entry_101 : decode cX10_entry 101 = .ok (.iload 6, 2) := by decide +kernel
theorem dX10_entry_103 : decode cX10_entry 103 = .ok (.aload_n 0, 1) := by decide +kernel
theorem dX10_entry_104 : decode cX10_entry 104 = .ok (.getfield 10, 3) := by decide +kernel
theorem dX10_entry_107 : decode cX10_entry 107 = .ok (.iload 7, 2) := by decide +kernel
theorem dX10_entry_109 : decode cX10_entry 109 = .ok (.invokevirtual 106, 3) := by decide +kernel
theorem dX10_entry_112 : decode cX10_entry 112 = .ok (.aload_n 0, 1) := by decide +kernel
theorem dX10_entry_113 : decode cX10_entry 113 = .ok (.iconst 0, 1) := by decide +kernel
theorem dX10_entry_114 : decode cX10_entry 114 = .ok (.invokevirtual 109, 3) := by decide +kernel
theorem dX10_entry_117 : decode cX10_entry 117 = .ok (.aload_n 0, 1) := by decide +kernel
theorem dX10_entry_118 : decode cX10_entry 118 = .ok (.getfield 10, 3) := by decide +kernel
theorem dX10_entry_121 : decode cX10_entry 121 = .ok (.invokevirtual 112, 3) := by decide +kernel
theorem dX10_entry_124 : decode cX10_entry 124 = .ok (.iload 9, 2) := by decide +kernel
theorem dX10_entry_126 : decode cX10_entry 126 = .ok (.ifCond .eq 15, 3) := by decide +kernel
theorem dX10_entry_129 : decode cX10_entry 129 = .ok (.aload_n 0, 1) := by decide +kernel
theorem dX10_entry_130 : decode cX10_entry 130 = .ok (.getfield 19, 3) := by decide +kernel
theorem dX10_entry_133 : decode cX10_entry 133 = .ok (.invokevirtual 115, 3) := by decide +kernel
theorem dX10_entry_136 : decode cX10_entry 136 = .ok (.iconst 1, 1) := by decide +kernel
theorem dX10_entry_137 : decode cX10_entry 137 = .ok (.isub, 1) := by decide +kernel
theorem dX10_entry_138 : decode cX10_entry 138 = .ok (.goto 4, 3) := by decide +kernel
theorem dX10_entry_141 : decode cX10_entry 141 = .ok (.iconst (-1), 1) := by decide +kernel
theorem dX10_entry_142 : decode cX10_entry 142 = .ok (.ireturn, 1) := by decide +kernel
set_option maxRecDepth 20000 in
theorem ggX10_drop_X0_has : GoodIn wsX10_drop wsX0_has := goodIn_r _ [6, 7, 53, 54, 55, 56, 57, 58] (by decide +kernel) (by decide +kernel)
set_option maxRecDepth 20000 in
theorem gX10_drop_X0_has : GoodIn wsX10_drop (wsV RX10 116 RX0 yX0_has wsX0_has) := goodIn_app (goodIn_of _ (by decide +kernel)) ggX10_drop_X0_has
set_option maxRecDepth 20000 in
theorem ggX10_drop_X0_remove : GoodIn wsX10_drop wsX0_remove := goodIn_r _ [11, 7, 12, 13, 14, 15, 16, 17, 18, 19, 20, 53, 54, 55, 56, 57, 58] (by decide +kernel) (by decide +kernel)
set_option maxRecDepth 20000 in
theorem gX10_drop_X0_remove : GoodIn wsX10_drop (wsV RX10 119 RX0 yX0_remove wsX0_remove) := goodIn_app (goodIn_of _ (by decide +kernel)) ggX10_drop_X0_remove
set_option maxRecDepth 20000 in
theorem ggX10_drop_X10_readAnew : GoodIn wsX10_drop wsX10_readAnew := goodIn_r _ [25, 26, 27, 28, 29, 30, 31, 32, 33, 34, 35, 36, 37, 38, 39, 40, 41, 42, 43, 44, 45, 46, 47, 48, 49, 50, 51, 52, 59, 60, 61, 62, 63, 64, 65, 66, 67, 68, 69, 70, 71, 72, 73, 74] (by decide +kernel) (by decide +kernel)
set_option maxRecDepth 20000 in
theorem gX10_drop_X10_readAnew : GoodIn wsX10_drop (wsV RX10 109 RX10 yX10_readAnew wsX10_readAnew) := goodIn_app (goodIn_of _ (by decide +kernel)) ggX10_drop_X10_readAnew
theorem dX10_drop_0 : decode cX10_drop 0 = .ok (.aload_n 0, 1) := by decide +kernel
theorem dX10_drop_1 : decode cX10_drop 1 = .ok (.getfield 19, 3) := by decide +kernel
theorem dX10_drop_4 : decode cX10_drop 4 = .ok (.iload_n 1, 1) := by decide +kernel
theorem dX10_drop_5 : decode cX10_drop 5 = .ok (.invokevirtual 116, 3) := by decide +kernel
theorem dX10_drop_8 : decode cX10_drop 8 = .ok (.ifCond .ne 5, 3) := by decide +kernel
theorem dX10_drop_11 : decode cX10_drop 11 = .ok (.iconst 0, 1) := by decide +kernel
theorem dX10_drop_12 : decode cX10_drop 12 = .ok (.ireturn, 1) := by decide +kernel
theorem dX10_drop_13 : decode cX10_drop 13 = .ok (.aload_n 0, 1) := by decide +kernel
theorem dX10_drop_14 : decode cX10_drop 14 = .ok (.getfield 19, 3) := by decide +kernel
theorem dX10_drop_17 : decode cX10_drop 17 = .ok (.iload_n 1, 1) := by decide +kernel
theorem dX10_drop_18 : decode cX10_drop 18 = .ok (.invokevirtual 119, 3) := by decide +kernel
theorem dX10_drop_21 : decode cX10_drop 21 = .ok (.aload_n 0, 1) := by decide +kernel
theorem dX10_drop_22 : decode cX10_drop 22 = .ok (.iconst 0, 1) := by decide +kernel
theorem dX10_drop_23 : decode cX10_drop 23 = .ok (.invokevirtual 109, 3) := by decide +kernel
theorem dX10_drop_26 : decode cX10_drop 26 = .ok (.iconst 1, 1) := by decide +kernel
theorem dX10_drop_27 : decode cX10_drop 27 = .ok (.ireturn, 1) := by decide +kernel
set_option maxRecDepth 20000 in
theorem ggX10_stroke_X10_isStroke : GoodIn wsX10_stroke wsX10_isStroke := goodIn_r _ [6, 7] (by decide +kernel) (by decide +kernel)
set_option maxRecDepth 20000 in
theorem gX10_stroke_X10_isStroke : GoodIn wsX10_stroke (va_wsS RX10 122 yX10_isStroke wsX10_isStroke) := goodIn_app (goodIn_of _ (by decide +kernel)) ggX10_stroke_X10_isStroke
set_option maxRecDepth 20000 in
theorem ggX10_stroke_X6_isFull : GoodIn wsX10_stroke wsX6_isFull := goodIn_r _ [12, 13, 42, 43, 44, 45, 46, 47] (by decide +kernel) (by decide +kernel)
set_option maxRecDepth 20000 in
theorem gX10_stroke_X6_isFull : GoodIn wsX10_stroke (wsV RX10 125 RX6 yX6_isFull wsX6_isFull) := goodIn_app (goodIn_of _ (by decide +kernel)) ggX10_stroke_X6_isFull
set_option maxRecDepth 20000 in
theorem ggX10_stroke_X6_size : GoodIn wsX10_stroke wsX6_size := goodIn_r _ [17, 13, 42, 43, 44, 45, 46, 47] (by decide +kernel) (by decide +kernel)
set_option maxRecDepth 20000 in
theorem gX10_stroke_X6_size : GoodIn wsX10_stroke (wsV RX10 126 RX6 yX6_size wsX6_size) := goodIn_app (goodIn_of _ (by decide +kernel)) ggX10_stroke_X6_size
set_option maxRecDepth 20000 in
theorem ggX10_stroke_X6_put : GoodIn wsX10_stroke wsX6_put := goodIn_r _ [21, 13, 22, 23, 24, 25, 26, 42, 43, 44, 45, 46, 47] (by decide +kernel) (by decide +kernel)
set_option maxRecDepth 20000 in
theorem gX10_stroke_X6_put : GoodIn wsX10_stroke (wsV RX10 127 RX6 yX6_put wsX6_put) := goodIn_app (goodIn_of _ (by decide +kernel)) ggX10_stroke_X6_put
set_option maxRecDepth 20000 in
theorem ggX10_stroke_X9_forget : GoodIn wsX10_stroke wsX9_forget := goodIn_r _ [31, 32, 48, 49, 50, 51, 52, 53, 54, 55, 56, 57] (by decide +kernel) (by decide +kernel)
set_option maxRecDepth 20000 in
theorem gX10_stroke_X9_forget : GoodIn wsX10_stroke (wsV RX10 131 RX9 yX9_forget wsX9_forget) := goodIn_app (goodIn_of _ (by decide +kernel)) ggX10_stroke_X9_forget
theorem dX10_stroke_0 : decode cX10_stroke 0 = .ok (.iload_n 1, 1) := by decide +kernel
theorem dX10_stroke_1 : decode cX10_stroke 1 = .ok (.invokestatic 122, 3) := by decide +kernel
theorem dX10_stroke_4 : decode cX10_stroke 4 = .ok (.ifCond .eq 13, 3) := by decide +kernel
theorem dX10_stroke_7 : decode cX10_stroke 7 = .ok (.aload_n 0, 1) := by decide +kernel
theorem dX10_stroke_8 : decode cX10_stroke 8 = .ok (.getfield 28, 3) := by decide +kernel
theorem dX10_stroke_11 : decode cX10_stroke 11 = .ok (.invokevirtual 125, 3) := by decide +kernel
theorem dX10_stroke_14 : decode cX10_stroke 14 = .ok (.ifCond .eq 5, 3) := by decide +kernel
theorem dX10_stroke_17 : decode cX10_stroke 17 = .ok (.iconst (-1), 1) := by decide +kernel
theorem dX10_stroke_18 : decode cX10_stroke 18 = .ok (.ireturn, 1) := by decide +kernel
theorem dX10_stroke_19 : decode cX10_stroke 19 = .ok (.aload_n 0, 1) := by decide +kernel
theorem dX10_stroke_20 : decode cX10_stroke 20 = .ok (.getfield 28, 3) := by decide +kernel
theorem dX10_stroke_23 : decode cX10_stroke 23 = .ok (.aload_n 0, 1) := by decide +kernel
theorem dX10_stroke_24 : decode cX10_stroke 24 = .ok (.getfield 28, 3) := by decide +kernel
theorem dX10_stroke_27 : decode cX10_stroke 27 = .ok (.invokevirtual 126, 3) := by decide +kernel
theorem dX10_stroke_30 : decode cX10_stroke 30 = .ok (.iload_n 1, 1) := by decide +kernel
theorem dX10_stroke_31 : decode cX10_stroke 31 = .ok (.invokevirtual 127, 3) := by decide +kernel
theorem dX10_stroke_34 : decode cX10_stroke 34 = .ok (.aload_n 0, 1) := by decide +kernel
theorem dX10_stroke_35 : decode cX10_stroke 35 = .ok (.getfield 46, 3) := by decide +kernel
theorem dX10_stroke_38 : decode cX10_stroke 38 = .ok (.invokevirtual 131, 3) := by decide +kernel
theorem dX10_stroke_41 : decode cX10_stroke 41 = .ok (.aload_n 0, 1) := by decide +kernel
theorem dX10_stroke_42 : decode cX10_stroke 42 = .ok (.getfield 28, 3) := by decide +kernel
theorem dX10_stroke_45 : decode cX10_stroke 45 = .ok (.invokevirtual 126, 3) := by decide +kernel
theorem dX10_stroke_48 : decode cX10_stroke 48 = .ok (.ireturn, 1) := by decide +kernel
set_option maxRecDepth 20000 in
theorem ggX10_back_X6_size : GoodIn wsX10_back wsX6_size := goodIn_r _ [6, 7, 59, 60, 61, 62, 63, 64] (by decide +kernel) (by decide +kernel)
set_option maxRecDepth 20000 in
theorem gX10_back_X6_size : GoodIn wsX10_back (wsV RX10 126 RX6 yX6_size wsX6_size) := goodIn_app (goodIn_of _ (by decide +kernel)) ggX10_back_X6_size
set_option maxRecDepth 20000 in
theorem ggX10_back_X10_cut : GoodIn wsX10_back wsX10_cut := goodIn_r _ [12, 1, 13, 14, 15, 5, 16, 7, 17, 18, 19, 20, 21, 22, 23, 24, 25, 26, 27, 28, 29, 30, 31, 32, 11, 33, 34, 35, 36, 37, 38, 39, 40, 41, 42, 43, 44, 45, 46, 47, 48, 49, 50, 51, 52, 53, 54, 55, 56, 57, 58, 59, 60, 61, 62, 63, 64, 65, 66, 67, 68, 69, 70, 71, 72, 73, 74] (by decide +kernel) (by decide +kernel)
set_option maxRecDepth 20000 in
theorem gX10_back_X10_cut : GoodIn wsX10_back (wsV RX10 134 RX10 yX10_cut wsX10_cut) := goodIn_app (goodIn_of _ (by decide +kernel)) ggX10_back_X10_cut
theorem dX10_back_0 : decode cX10_back 0 = .ok (.aload_n 0, 1) := by decide +kernel
theorem dX10_back_1 : decode cX10_back 1 = .ok (.aload_n 0, 1) := by decide +kernel
theorem dX10_back_2 : decode cX10_back 2 = .ok (.getfield 28, 3) := by decide +kernel
theorem dX10_back_5 : decode cX10_back 5 = .ok (.invokevirtual 126, 3) := by decide +kernel
theorem dX10_back_8 : decode cX10_back 8 = .ok (.iconst 1, 1) := by decide +kernel
theorem dX10_back_9 : decode cX10_back 9 = .ok (.isub, 1) := by decide +kernel
theorem dX10_back_10 : decode cX10_back 10 = .ok (.invokevirtual 134, 3) := by decide +kernel
theorem dX10_back_13 : decode cX10_back 13 = .ok (.ireturn, 1) := by decide +kernel
set_option maxRecDepth 20000 in
theorem ggX10_correct_X6_has : GoodIn wsX10_correct wsX6_has := goodIn_r _ [6, 7, 47, 48, 49, 50, 51, 52] (by decide +kernel) (by decide +kernel)
set_option maxRecDepth 20000 in
theorem gX10_correct_X6_has : GoodIn wsX10_correct (wsV RX10 138 RX6 yX6_has wsX6_has) := goodIn_app (goodIn_of _ (by decide +kernel)) ggX10_correct_X6_has
set_option maxRecDepth 20000 in
theorem ggX10_correct_X10_isStroke : GoodIn wsX10_correct wsX10_isStroke := goodIn_r _ [11, 12] (by decide +kernel) (by decide +kernel)
set_option maxRecDepth 20000 in
theorem gX10_correct_X10_isStroke : GoodIn wsX10_correct (va_wsS RX10 122 yX10_isStroke wsX10_isStroke) := goodIn_app (goodIn_of _ (by decide +kernel)) ggX10_correct_X10_isStroke
set_option maxRecDepth 20000 in
theorem ggX10_correct_X6_replace : GoodIn wsX10_correct wsX6_replace := goodIn_r _ [16, 7, 17, 47, 48, 49, 50, 51, 52] (by decide +kernel) (by decide +kernel)
set_option maxRecDepth 20000 in
theorem gX10_correct_X6_replace : GoodIn wsX10_correct (wsV RX10 139 RX6 yX6_replace wsX6_replace) := goodIn_app (goodIn_of _ (by decide +kernel)) ggX10_correct_X6_replace
set_option maxRecDepth 20000 in
theorem ggX10_correct_X10_readAnew : GoodIn wsX10_correct wsX10_readAnew := goodIn_r _ [21, 1, 22, 23, 24, 25, 5, 26, 27, 28, 29, 30, 31, 32, 33, 34, 35, 36, 37, 38, 39, 40, 41, 42, 43, 44, 45, 46, 47, 48, 49, 50, 51, 52, 53, 54, 55, 56, 57, 58, 59, 60, 61, 62] (by decide +kernel) (by decide +kernel)
set_option maxRecDepth 20000 in
theorem gX10_correct_X10_readAnew : GoodIn wsX10_correct (wsV RX10 109 RX10 yX10_readAnew wsX10_readAnew) := goodIn_app (goodIn_of _ (by decide +kernel)) ggX10_correct_X10_readAnew
theorem dX10_correct_0 : decode cX10_correct 0 = .ok (.aload_n 0, 1) := by decide +kernel
theorem dX10_correct_1 : decode cX10_correct 1 = .ok (.getfield 28, 3) := by decide +kernel
theorem dX10_correct_4 : decode cX10_correct 4 = .ok (.iload_n 1, 1) := by decide +kernel
theorem dX10_correct_5 : decode cX10_correct 5 = .ok (.invokevirtual 138, 3) := by decide +kernel
theorem dX10_correct_8 : decode cX10_correct 8 = .ok (.ifCond .eq 10, 3) := by decide +kernel
theorem dX10_correct_11 : decode cX10_correct 11 = .ok (.iload_n 2, 1) := by decide +kernel
theorem dX10_correct_12 : decode cX10_correct 12 = .ok (.invokestatic 122, 3) := by decide +kernel
theorem dX10_correct_15 : decode cX10_correct 15 = .ok (.ifCond .ne 5, 3) := by decide +kernel
theorem dX10_correct_18 : decode cX10_correct 18 = .ok (.iconst 0, 1) := by decide +kernel
theorem dX10_correct_19 : decode cX10_correct 19 = .ok (.ireturn, 1) := by decide +kernel
theorem dX10_correct_20 : decode cX10_correct 20 = .ok (.aload_n 0, 1) := by decide +kernel
theorem dX10_correct_21 : decode cX10_correct 21 = .ok (.getfield 28, 3) := by decide +kernel
theorem dX10_correct_24 : decode cX10_correct 24 = .ok (.iload_n 1, 1) := by decide +kernel
theorem dX10_correct_25 : decode cX10_correct 25 = .ok (.iload_n 2, 1) := by decide +kernel
theorem dX10_correct_26 : decode cX10_correct 26 = .ok (.invokevirtual 139, 3) := by decide +kernel
theorem dX10_correct_29 : decode cX10_correct 29 = .ok (.aload_n 0, 1) := by decide +kernel
theorem dX10_correct_30 : decode cX10_correct 30 = .ok (.iload_n 1, 1) := by decide +kernel
theorem dX10_correct_31 : decode cX10_correct 31 = .ok (.invokevirtual 109, 3) := by decide +kernel
theorem dX10_correct_34 : decode cX10_correct 34 = .ok (.iconst 1, 1) := by decide +kernel
theorem dX10_correct_35 : decode cX10_correct 35 = .ok (.ireturn, 1) := by decide +kernel
set_option maxRecDepth 20000 in
theorem ggX10_insert_X6_size : GoodIn wsX10_insert wsX6_size := goodIn_r _ [6, 7, 59, 60, 61, 62, 63, 64] (by decide +kernel) (by decide +kernel)
set_option maxRecDepth 20000 in
theorem gX10_insert_X6_size : GoodIn wsX10_insert (wsV RX10 126 RX6 yX6_size wsX6_size) := goodIn_app (goodIn_of _ (by decide +kernel)) ggX10_insert_X6_size
set_option maxRecDepth 20000 in
theorem ggX10_insert_X6_has : GoodIn wsX10_insert wsX6_has := goodIn_r _ [11, 7, 59, 60, 61, 62, 63, 64] (by decide +kernel) (by decide +kernel)
set_option maxRecDepth 20000 in
theorem gX10_insert_X6_has : GoodIn wsX10_insert (wsV RX10 138 RX6 yX6_has wsX6_has) := goodIn_app (goodIn_of _ (by decide +kernel)) ggX10_insert_X6_has
set_option maxRecDepth 20000 in
theorem ggX10_insert_X10_isStroke : GoodIn wsX10_insert wsX10_isStroke := goodIn_r _ [15, 16] (by decide +kernel) (by decide +kernel)
set_option maxRecDepth 20000 in
theorem gX10_insert_X10_isStroke : GoodIn wsX10_insert (va_wsS RX10 122 yX10_isStroke wsX10_isStroke) := goodIn_app (goodIn_of _ (by decide +kernel)) ggX10_insert_X10_isStroke
set_option maxRecDepth 20000 in
theorem ggX10_insert_X6_isFull : GoodIn wsX10_insert wsX6_isFull := goodIn_r _ [20, 7, 59, 60, 61, 62, 63, 64] (by decide +kernel) (by decide +kernel)
set_option maxRecDepth 20000 in
theorem gX10_insert_X6_isFull : GoodIn wsX10_insert (wsV RX10 125 RX6 yX6_isFull wsX6_isFull) := goodIn_app (goodIn_of _ (by decide +kernel)) ggX10_insert_X6_isFull
set_option maxRecDepth 20000 in
theorem ggX10_insert_X6_put : GoodIn wsX10_insert wsX6_put := goodIn_r _ [24, 7, 25, 26, 27, 28, 29, 59, 60, 61, 62, 63, 64] (by decide +kernel) (by decide +kernel)
set_option maxRecDepth 20000 in
theorem gX10_insert_X6_put : GoodIn wsX10_insert (wsV RX10 127 RX6 yX6_put wsX6_put) := goodIn_app (goodIn_of _ (by decide +kernel)) ggX10_insert_X6_put
set_option maxRecDepth 20000 in
theorem ggX10_insert_X10_readAnew : GoodIn wsX10_insert wsX10_readAnew := goodIn_r _ [33, 1, 34, 35, 36, 37, 5, 38, 39, 40, 41, 42, 43, 44, 45, 46, 47, 48, 49, 50, 51, 52, 53, 54, 55, 56, 57, 58, 59, 60, 61, 62, 63, 64, 65, 66, 67, 68, 69, 70, 71, 72, 73, 74] (by decide +kernel) (by decide +kernel)
set_option maxRecDepth 20000 in
theorem gX10_insert_X10_readAnew : GoodIn wsX10_insert (wsV RX10 109 RX10 yX10_readAnew wsX10_readAnew) := goodIn_app (goodIn_of _ (by decide +kernel)) ggX10_insert_X10_readAnew
theorem dX10_insert_0 : decode cX10_insert 0 = .ok (.iload_n 1, 1) := by decide +kernel
theorem dX10_insert_1 : decode cX10_insert 1 = .ok (.aload_n 0, 1) := by decide +kernel
theorem dX10_insert_2 : decode cX10_insert 2 = .ok (.getfield 28, 3) := by decide +kernel
theorem dX10_insert_5 : decode cX10_insert 5 = .ok (.invokevirtual 126, 3) := by decide +kernel
theorem dX10_insert_8 : decode cX10_insert 8 = .ok (.if_icmp .eq 14, 3) := by decide +kernel
theorem dX10_insert_11 : decode cX10_insert 11 = .ok (.aload_n 0, 1) := by decide +kernel
theorem dX10_insert_12 : decode cX10_insert 12 = .ok (.getfield 28, 3) := by decide +kernel
theorem dX10_insert_15 : decode cX10_insert 15 = .ok (.iload_n 1, 1) := by decide +kernel
theorem dX10_insert_16 : decode cX10_insert 16 = .ok (.invokevirtual 138, 3) := by decide +kernel
theorem dX10_insert_19 : decode cX10_insert 19 = .ok (.ifCond .eq 7, 3) := by decide +kernel
theorem dX10_insert_22 : decode cX10_insert 22 = .ok (.iconst 1, 1) := by decide +kernel
theorem dX10_insert_23 : decode cX10_insert 23 = .ok (.goto 4, 3) := by decide +kernel
theorem dX10_insert_26 : decode cX10_insert 26 = .ok (.iconst 0, 1) := by decide +kernel
theorem dX10_insert_27 : decode cX10_insert 27 = .ok (.istore_n 3, 1) := by decide +kernel
theorem dX10_insert_28 : decode cX10_insert 28 = .ok (.iload_n 3, 1) := by decide +kernel
theorem dX10_insert_29 : decode cX10_insert 29 = .ok (.ifCond .eq 20, 3) := by decide +kernel
theorem dX10_insert_32 : decode cX10_insert 32 = .ok (.iload_n 2, 1) := by decide +kernel
theorem dX10_insert_33 : decode cX10_insert 33 = .ok (.invokestatic 122, 3) := by decide +kernel
theorem dX10_insert_36 : decode cX10_insert 36 = .ok (.ifCond .eq 13, 3) := by decide +kernel
theorem dX10_insert_39 : decode cX10_insert 39 = .ok (.aload_n 0, 1) := by decide +kernel
theorem dX10_insert_40 : decode cX10_insert 40 = .ok (.getfield 28, 3) := by decide +kernel
theorem dX10_insert_43 : decode cX10_insert 43 = .ok (.invokevirtual 125, 3) := by decide +kernel
theorem dX10_insert_46 : decode cX10_insert 46 = .ok (.ifCond .eq 5, 3) := by decide +kernel
theorem dX10_insert_49 : decode cX10_insert 49 = .ok (.iconst 0, 1) := by decide +kernel
theorem dX10_insert_50 : decode cX10_insert 50 = .ok (.ireturn, 1) := by decide +kernel
theorem dX10_insert_51 : decode cX10_insert 51 = .ok (.aload_n 0, 1) := by decide +kernel
theorem dX10_insert_52 : decode cX10_insert 52 = .ok (.getfield 28, 3) := by decide +kernel
theorem dX10_insert_55 : decode cX10_insert 55 = .ok (.iload_n 1, 1) := by decide +kernel
theorem dX10_insert_56 : decode cX10_insert 56 = .ok (.iload_n 2, 1) := by decide +kernel
theorem dX10_insert_57 : decode cX10_insert 57 = .ok (.invokevirtual 127, 3) := by decide +kernel
theorem dX10_insert_60 : decode cX10_insert 60 = .ok (.aload_n 0, 1) := by decide +kernel
theorem dX10_insert_61 : decode cX10_insert 61 = .ok (.iload_n 1, 1) := by decide +kernel
theorem dX10_insert_62 : decode cX10_insert 62 = .ok (.invokevirtual 109, 3) := by decide +kernel
theorem dX10_insert_65 : decode cX10_insert 65 = .ok (.iconst 1, 1) := by decide +kernel
theorem dX10_insert_66 : decode cX10_insert 66 = .ok (.ireturn, 1) := by decide +kernel
set_option maxRecDepth 20000 in
theorem ggX10_cut_X6_has : GoodIn wsX10_cut wsX6_has := goodIn_r _ [6, 7, 51, 52, 53, 54, 55, 56] (by decide +kernel) (by decide +kernel)
set_option maxRecDepth 20000 in
theorem gX10_cut_X6_has : GoodIn wsX10_cut (wsV RX10 138 RX6 yX6_has wsX6_has) := goodIn_app (goodIn_of _ (by decide +kernel)) ggX10_cut_X6_has
set_option maxRecDepth 20000 in
theorem ggX10_cut_X6_keysAt : GoodIn wsX10_cut wsX6_keysAt := goodIn_r _ [11, 7, 12, 51, 52, 53, 54, 55, 56] (by decide +kernel) (by decide +kernel)
set_option maxRecDepth 20000 in
theorem gX10_cut_X6_keysAt : GoodIn wsX10_cut (wsV RX10 142 RX6 yX6_keysAt wsX6_keysAt) := goodIn_app (goodIn_of _ (by decide +kernel)) ggX10_cut_X6_keysAt
set_option maxRecDepth 20000 in
theorem ggX10_cut_X6_remove : GoodIn wsX10_cut wsX6_remove := goodIn_r _ [16, 7, 12, 17, 18, 19, 20, 51, 52, 53, 54, 55, 56] (by decide +kernel) (by decide +kernel)
set_option maxRecDepth 20000 in
theorem gX10_cut_X6_remove : GoodIn wsX10_cut (wsV RX10 145 RX6 yX6_remove wsX6_remove) := goodIn_app (goodIn_of _ (by decide +kernel)) ggX10_cut_X6_remove
set_option maxRecDepth 20000 in
theorem ggX10_cut_X10_readAnew : GoodIn wsX10_cut wsX10_readAnew := goodIn_r _ [25, 1, 26, 27, 28, 29, 5, 30, 31, 32, 33, 34, 35, 36, 37, 38, 39, 40, 41, 42, 43, 44, 45, 46, 47, 48, 49, 50, 51, 52, 53, 54, 55, 56, 57, 58, 59, 60, 61, 62, 63, 64, 65, 66] (by decide +kernel) (by decide +kernel)
set_option maxRecDepth 20000 in
theorem gX10_cut_X10_readAnew : GoodIn wsX10_cut (wsV RX10 109 RX10 yX10_readAnew wsX10_readAnew) := goodIn_app (goodIn_of _ (by decide +kernel)) ggX10_cut_X10_readAnew
theorem dX10_cut_0 : decode cX10_cut 0 = .ok (.aload_n 0, 1) := by decide +kernel
theorem dX10_cut_1 : decode cX10_cut 1 = .ok (.getfield 28, 3) := by decide +kernel
theorem dX10_cut_4 : decode cX10_cut 4 = .ok (.iload_n 1, 1) := by decide +kernel
theorem dX10_cut_5 : decode cX10_cut 5 = .ok (.invokevirtual 138, 3) := by decide +kernel
theorem dX10_cut_8 : decode cX10_cut 8 = .ok (.ifCond .ne 5, 3) := by decide +kernel
theorem dX10_cut_11 : decode cX10_cut 11 = .ok (.iconst (-1), 1) := by decide +kernel
theorem dX10_cut_12 : decode cX10_cut 12 = .ok (.ireturn, 1) := by decide +kernel
theorem dX10_cut_13 : decode cX10_cut 13 = .ok (.aload_n 0, 1) := by decide +kernel
theorem dX10_cut_14 : decode cX10_cut 14 = .ok (.getfield 28, 3) := by decide +kernel
theorem dX10_cut_17 : decode cX10_cut 17 = .ok (.iload_n 1, 1) := by decide +kernel
theorem dX10_cut_18 : decode cX10_cut 18 = .ok (.invokevirtual 142, 3) := by decide +kernel
theorem dX10_cut_21 : decode cX10_cut 21 = .ok (.istore_n 2, 1) := by decide +kernel
theorem dX10_cut_22 : decode cX10_cut 22 = .ok (.aload_n 0, 1) := by decide +kernel
theorem dX10_cut_23 : decode cX10_cut 23 = .ok (.getfield 28, 3) := by decide +kernel
theorem dX10_cut_26 : decode cX10_cut 26 = .ok (.iload_n 1, 1) := by decide +kernel
theorem dX10_cut_27 : decode cX10_cut 27 = .ok (.invokevirtual 145, 3) := by decide +kernel
theorem dX10_cut_30 : decode cX10_cut 30 = .ok (.aload_n 0, 1) := by decide +kernel
theorem dX10_cut_31 : decode cX10_cut 31 = .ok (.iload_n 1, 1) := by decide +kernel
theorem dX10_cut_32 : decode cX10_cut 32 = .ok (.invokevirtual 109, 3) := by decide +kernel
theorem dX10_cut_35 : decode cX10_cut 35 = .ok (.iload_n 2, 1) := by decide +kernel
theorem dX10_cut_36 : decode cX10_cut 36 = .ok (.ireturn, 1) := by decide +kernel
set_option maxRecDepth 20000 in
theorem ggX10_count_X9_settle : GoodIn wsX10_count wsX9_settle := goodIn_r _ [11, 12, 13, 14, 15, 16, 17, 18, 19, 20, 21, 22, 23, 24, 25, 26, 27, 28, 29, 30, 31, 32, 33, 34, 35, 36, 37, 38, 39, 40, 41, 42, 43, 44, 45, 46, 47, 48, 49, 50, 51, 52, 53, 54, 55, 56, 57, 58, 59, 60, 10, 61, 62, 63, 64, 65, 66, 67, 68, 69, 70, 71, 72, 73, 74, 75, 76, 77, 78, 79, 80, 81, 82, 83, 84, 85, 86, 87, 88, 89, 90, 91, 92, 93, 94, 95, 96, 97, 98, 99, 100, 101, 102, 103, 104, 105, 106, 107, 108, 109, 110, 111, 112, 113, 114, 115, 116, 117, 118, 119, 120, 121, 122, 123, 124, 125, 126, 127, 128, 129, 130, 131, 132, 133, 134, 135, 136, 137, 138, 139, 140, 141, 142, 143, 144, 145, 146, 147, 148, 149, 150, 151, 152, 153, 154, 155, 156, 157, 158, 159, 160, 161, 162, 163, 164, 165, 166, 167, 168, 169, 170, 171, 172, 173, 174, 175, 176, 177, 178, 179, 180, 181, 182, 183, 184, 185, 186, 187, 188, 189, 190, 191, 192, 193, 194, 195, 196, 197, 198, 199, 200, 201, 202, 203, 204, 205, 206, 207, 208, 209, 210, 211, 212, 213, 214, 215, 216, 217, 218, 219, 220, 221, 222, 223, 224, 225, 226, 227, 228, 229, 230, 231, 232, 233, 234, 235, 236, 237, 238, 239, 240, 241, 242, 243, 244, 245, 246, 247, 248, 249, 250, 251, 252, 298, 299, 300, 301, 302, 303, 304, 305, 306, 307, 308, 309, 310, 311, 312, 313, 314, 315, 316, 317, 318, 319, 320, 321, 322, 323, 324, 325, 326, 327, 328] (by decide +kernel) (by decide +kernel)
set_option maxRecDepth 20000 in
theorem gX10_count_X9_settle : GoodIn wsX10_count (wsV RX10 146 RX9 yX9_settle wsX9_settle) := goodIn_app (goodIn_of _ (by decide +kernel)) ggX10_count_X9_settle
set_option maxRecDepth 20000 in
theorem ggX10_count_X6_size : GoodIn wsX10_count wsX6_size := goodIn_r _ [70, 28, 308, 309, 310, 311, 312, 313] (by decide +kernel) (by decide +kernel)
set_option maxRecDepth 20000 in
theorem gX10_count_X6_size : GoodIn wsX10_count (wsV RX10 126 RX6 yX6_size wsX6_size) := goodIn_app (goodIn_of _ (by decide +kernel)) ggX10_count_X6_size
set_option maxRecDepth 20000 in
theorem ggX10_count_X9_size : GoodIn wsX10_count wsX9_size := goodIn_r _ [257, 16, 298, 299, 300, 301, 302, 303, 304, 305, 306, 307] (by decide +kernel) (by decide +kernel)
set_option maxRecDepth 20000 in
theorem gX10_count_X9_size : GoodIn wsX10_count (wsV RX10 149 RX9 yX9_size wsX9_size) := goodIn_app (goodIn_of _ (by decide +kernel)) ggX10_count_X9_size
set_option maxRecDepth 20000 in
theorem ggX10_count_X9_raws : GoodIn wsX10_count wsX9_raws := goodIn_r _ [261, 15, 298, 299, 300, 301, 302, 303, 304, 305, 306, 307] (by decide +kernel) (by decide +kernel)
set_option maxRecDepth 20000 in
theorem gX10_count_X9_raws : GoodIn wsX10_count (wsV RX10 150 RX9 yX9_raws wsX9_raws) := goodIn_app (goodIn_of _ (by decide +kernel)) ggX10_count_X9_raws
set_option maxRecDepth 20000 in
theorem ggX10_count_X4_size : GoodIn wsX10_count wsX4_size := goodIn_r _ [252, 80, 320, 321, 322, 323, 324, 325, 326] (by decide +kernel) (by decide +kernel)
set_option maxRecDepth 20000 in
theorem gX10_count_X4_size : GoodIn wsX10_count (wsV RX10 153 RX4 yX4_size wsX4_size) := goodIn_app (goodIn_of _ (by decide +kernel)) ggX10_count_X4_size
set_option maxRecDepth 20000 in
theorem ggX10_count_X0_size : GoodIn wsX10_count wsX0_size := goodIn_r _ [45, 46, 314, 315, 316, 317, 318, 319] (by decide +kernel) (by decide +kernel)
set_option maxRecDepth 20000 in
theorem gX10_count_X0_size : GoodIn wsX10_count (wsV RX10 115 RX0 yX0_size wsX0_size) := goodIn_app (goodIn_of _ (by decide +kernel)) ggX10_count_X0_size
set_option maxRecDepth 20000 in
theorem ggX10_count_X8_size : GoodIn wsX10_count wsX8_size := goodIn_r _ [268, 269, 329, 330] (by decide +kernel) (by decide +kernel)
set_option maxRecDepth 20000 in
theorem gX10_count_X8_size : GoodIn wsX10_count (wsV RX10 83 RX8 yX8_size wsX8_size) := goodIn_app (goodIn_of _ (by decide +kernel)) ggX10_count_X8_size
set_option maxRecDepth 20000 in
theorem ggX10_count_X4_shift : GoodIn wsX10_count wsX4_shift := goodIn_r _ [273, 81, 320, 321, 322, 323, 324, 325, 326] (by decide +kernel) (by decide +kernel)
set_option maxRecDepth 20000 in
theorem gX10_count_X4_shift : GoodIn wsX10_count (wsV RX10 154 RX4 yX4_shift wsX4_shift) := goodIn_app (goodIn_of _ (by decide +kernel)) ggX10_count_X4_shift
set_option maxRecDepth 20000 in
theorem ggX10_count_X4_link : GoodIn wsX10_count wsX4_link := goodIn_r _ [277, 82, 320, 321, 322, 323, 324, 325, 326] (by decide +kernel) (by decide +kernel)
set_option maxRecDepth 20000 in
theorem gX10_count_X4_link : GoodIn wsX10_count (wsV RX10 157 RX4 yX4_link wsX4_link) := goodIn_app (goodIn_of _ (by decide +kernel)) ggX10_count_X4_link
set_option maxRecDepth 20000 in
theorem ggX10_count_X5_plannedEntries : GoodIn wsX10_count wsX5_plannedEntries := goodIn_r _ [282, 283, 331, 332, 333, 334, 335, 336, 337, 338, 339, 340, 341, 342, 343] (by decide +kernel) (by decide +kernel)
set_option maxRecDepth 20000 in
theorem gX10_count_X5_plannedEntries : GoodIn wsX10_count (wsV RX10 160 RX5 yX5_plannedEntries wsX5_plannedEntries) := goodIn_app (goodIn_of _ (by decide +kernel)) ggX10_count_X5_plannedEntries
set_option maxRecDepth 20000 in
theorem ggX10_count_X5_plannedStrokes : GoodIn wsX10_count wsX5_plannedStrokes := goodIn_r _ [287, 288, 331, 332, 333, 334, 335, 336, 337, 338, 339, 340, 341, 342, 343] (by decide +kernel) (by decide +kernel)
set_option maxRecDepth 20000 in
theorem gX10_count_X5_plannedStrokes : GoodIn wsX10_count (wsV RX10 163 RX5 yX5_plannedStrokes wsX5_plannedStrokes) := goodIn_app (goodIn_of _ (by decide +kernel)) ggX10_count_X5_plannedStrokes
theorem dX10_count_0 : decode cX10_count 0 = .ok (.aload_n 0, 1) := by decide +kernel
theorem dX10_count_1 : decode cX10_count 1 = .ok (.getfield 46, 3) := by decide +kernel
theorem dX10_count_4 : decode cX10_count 4 = .ok (.invokevirtual 146, 3) := by decide +kernel
theorem dX10_count_7 : decode cX10_count 7 = .ok (.iload_n 1, 1) := by decide +kernel
theorem dX10_count_8 : decode cX10_count 8 = .ok (.tableswitch 136 0 9 #[56, 64, 72, 80, 88, 96, 104, 112, 120, 128], 56) := by decide +kernel
theorem dX10_count_64 : decode cX10_count 64 = .ok (.aload_n 0, 1) := by decide +kernel
theorem dX10_count_65 : decode cX10_count 65 = .ok (.getfield 28, 3) := by decide +kernel
theorem dX10_count_68 : decode cX10_count 68 = .ok (.invokevirtual 126, 3) := by decide +kernel
theorem dX10_count_71 : decode cX10_count 71 = .ok (.ireturn, 1) := by decide +kernel
theorem dX10_count_72 : decode cX10_count 72 = .ok (.aload_n 0, 1) := by decide +kernel
theorem dX10_count_73 : decode cX10_count 73 = .ok (.getfield 46, 3) := by decide +kernel
theorem dX10_count_76 : decode cX10_count 76 = .ok (.invokevirtual 149, 3) := by decide +kernel
theorem dX10_count_79 : decode cX10_count 79 = .ok (.ireturn, 1) := by decide +kernel
theorem dX10_count_80 : decode cX10_count 80 = .ok (.aload_n 0, 1) := by decide +kernel
theorem dX10_count_81 : decode cX10_count 81 = .ok (.getfield 46, 3) := by decide +kernel
theorem dX10_count_84 : decode cX10_count 84 = .ok (.invokevirtual 150, 3) := by decide +kernel
theorem dX10_count_87 : decode cX10_count 87 = .ok (.ireturn, 1) := by decide +kernel
theorem dX10_count_88 : decode cX10_count 88 = .ok (.aload_n 0, 1) := by decide +kernel
theorem dX10_count_89 : decode cX10_count 89 = .ok (.getfield 37, 3) := by decide +kernel
theorem dX10_count_92 : decode cX10_count 92 = .ok (.invokevirtual 153, 3) := by decide +kernel
theorem dX10_count_95 : decode cX10_count 95 = .ok (.ireturn, 1) := by decide +kernel
theorem dX10_count_96 : decode cX10_count 96 = .ok (.aload_n 0, 1) := by decide +kernel
theorem dX10_count_97 : decode cX10_count 97 = .ok (.getfield 19, 3) := by decide +kernel
theorem dX10_count_100 : decode cX10_count 100 = .ok (.invokevirtual 115, 3) := by decide +kernel
theorem dX10_count_103 : decode cX10_count 103 = .ok (.ireturn, 1) := by decide +kernel
theorem dX10_count_104 : decode cX10_count 104 = .ok (.aload_n 0, 1) := by decide +kernel
theorem dX10_count_105 : decode cX10_count 105 = .ok (.getfield 10, 3) := by decide +kernel
theorem dX10_count_108 : decode cX10_count 108 = .ok (.invokevirtual 83, 3) := by decide +kernel
theorem dX10_count_111 : decode cX10_count 111 = .ok (.ireturn, 1) := by decide +kernel
theorem dX10_count_112 : decode cX10_count 112 = .ok (.aload_n 0, 1) := by decide +kernel
theorem dX10_count_113 : decode cX10_count 113 = .ok (.getfield 37, 3) := by decide +kernel
theorem dX10_count_116 : decode cX10_count 116 = .ok (.invokevirtual 154, 3) := by decide +kernel
theorem dX10_count_119 : decode cX10_count 119 = .ok (.ireturn, 1) := by decide +kernel
theorem dX10_count_120 : decode cX10_count 120 = .ok (.aload_n 0, 1) := by decide +kernel
theorem dX10_count_121 : decode cX10_count 121 = .ok (.getfield 37, 3) := by decide +kernel
theorem dX10_count_124 : decode cX10_count 124 = .ok (.invokevirtual 157, 3) := by decide +kernel
theorem dX10_count_127 : decode cX10_count 127 = .ok (.ireturn, 1) := by decide +kernel
theorem dX10_count_128 : decode cX10_count 128 = .ok (.aload_n 0, 1) := by decide +kernel
theorem dX10_count_129 : decode cX10_count 129 = .ok (.getfield 53, 3) := by decide +kernel
theorem dX10_count_132 : decode cX10_count 132 = .ok (.invokevirtual 160, 3) := by decide +kernel
theorem dX10_count_135 : decode cX10_count 135 = .ok (.ireturn, 1) := by decide +kernel
theorem dX10_count_136 : decode cX10_count 136 = .ok (.aload_n 0, 1) := by decide +kernel
theorem dX10_count_137 : decode cX10_count 137 = .ok (.getfield 53, 3) := by decide +kernel
theorem dX10_count_140 : decode cX10_count 140 = .ok (.invokevirtual 163, 3) := by decide +kernel
theorem dX10_count_143 : decode cX10_count 143 = .ok (.ireturn, 1) := by decide +kernel
theorem dX10_count_144 : decode cX10_count 144 = .ok (.iconst (-1), 1) := by decide +kernel
theorem dX10_count_145 : decode cX10_count 145 = .ok (.ireturn, 1) := by decide +kernel
set_option maxRecDepth 20000 in
theorem ggX10_told_X9_settle : GoodIn wsX10_told wsX9_settle := goodIn_r _ [6, 7, 8, 9, 10, 11, 12, 13, 14, 15, 16, 17, 18, 19, 20, 21, 22, 23, 24, 25, 26, 27, 28, 29, 30, 31, 32, 33, 34, 35, 36, 37, 38, 39, 40, 41, 42, 43, 44, 45, 46, 47, 48, 49, 50, 51, 52, 53, 54, 55, 5, 56, 57, 58, 59, 60, 61, 62, 63, 64, 65, 66, 67, 68, 69, 70, 71, 72, 73, 74, 75, 76, 77, 78, 79, 80, 81, 82, 83, 84, 85, 86, 87, 88, 89, 90, 91, 92, 93, 94, 95, 96, 97, 98, 99, 100, 101, 102, 103, 104, 105, 106, 107, 108, 109, 110, 111, 112, 113, 114, 115, 116, 117, 118, 119, 120, 121, 122, 123, 124, 125, 126, 127, 128, 129, 130, 131, 132, 133, 134, 135, 136, 137, 138, 139, 140, 141, 142, 143, 144, 145, 146, 147, 148, 149, 150, 151, 152, 153, 154, 155, 156, 157, 158, 159, 160, 161, 162, 163, 164, 165, 166, 167, 168, 169, 170, 171, 172, 173, 174, 175, 176, 177, 178, 179, 180, 181, 182, 183, 184, 185, 186, 187, 188, 189, 190, 191, 192, 193, 194, 195, 196, 197, 198, 199, 200, 201, 202, 203, 204, 205, 206, 207, 208, 209, 210, 211, 212, 213, 214, 215, 216, 217, 218, 219, 220, 221, 222, 223, 224, 225, 226, 227, 228, 229, 230, 231, 232, 233, 234, 235, 236, 237, 238, 239, 240, 241, 242, 243, 244, 245, 246, 247, 280, 281, 282, 283, 284, 285, 286, 287, 288, 289, 290, 291, 292, 293, 294, 295, 296, 297, 298, 299, 300, 301, 302, 303, 304, 305, 306, 307, 308, 309, 310] (by decide +kernel) (by decide +kernel)
set_option maxRecDepth 20000 in
theorem gX10_told_X9_settle : GoodIn wsX10_told (wsV RX10 146 RX9 yX9_settle wsX9_settle) := goodIn_app (goodIn_of _ (by decide +kernel)) ggX10_told_X9_settle
set_option maxRecDepth 20000 in
theorem ggX10_told_X9_size : GoodIn wsX10_told wsX9_size := goodIn_r _ [251, 11, 280, 281, 282, 283, 284, 285, 286, 287, 288, 289] (by decide +kernel) (by decide +kernel)
set_option maxRecDepth 20000 in
theorem gX10_told_X9_size : GoodIn wsX10_told (wsV RX10 149 RX9 yX9_size wsX9_size) := goodIn_app (goodIn_of _ (by decide +kernel)) ggX10_told_X9_size
set_option maxRecDepth 20000 in
theorem ggX10_told_X9_entryOf : GoodIn wsX10_told wsX9_entryOf := goodIn_r _ [87, 8, 88, 89, 90, 5, 91, 11, 61, 92, 93, 94, 16, 95, 23, 30, 280, 281, 282, 283, 284, 285, 286, 287, 288, 289, 290, 291, 292, 293, 294, 295] (by decide +kernel) (by decide +kernel)
set_option maxRecDepth 20000 in
theorem gX10_told_X9_entryOf : GoodIn wsX10_told (wsV RX10 166 RX9 yX9_entryOf wsX9_entryOf) := goodIn_app (goodIn_of _ (by decide +kernel)) ggX10_told_X9_entryOf
set_option maxRecDepth 20000 in
theorem ggX10_told_X9_firstOf : GoodIn wsX10_told wsX9_firstOf := goodIn_r _ [256, 8, 88, 89, 90, 5, 91, 11, 61, 66, 67, 68, 16, 69, 23, 31, 280, 281, 282, 283, 284, 285, 286, 287, 288, 289, 290, 291, 292, 293, 294, 295] (by decide +kernel) (by decide +kernel)
set_option maxRecDepth 20000 in
theorem gX10_told_X9_firstOf : GoodIn wsX10_told (wsV RX10 169 RX9 yX9_firstOf wsX9_firstOf) := goodIn_app (goodIn_of _ (by decide +kernel)) ggX10_told_X9_firstOf
set_option maxRecDepth 20000 in
theorem ggX10_told_X9_strokesOf : GoodIn wsX10_told wsX9_strokesOf := goodIn_r _ [260, 88, 89, 90, 5, 91, 11, 61, 261, 254, 255, 256, 8, 66, 67, 68, 16, 69, 23, 31, 280, 281, 282, 283, 284, 285, 286, 287, 288, 289, 290, 291, 292, 293, 294, 295] (by decide +kernel) (by decide +kernel)
set_option maxRecDepth 20000 in
theorem gX10_told_X9_strokesOf : GoodIn wsX10_told (wsV RX10 172 RX9 yX9_strokesOf wsX9_strokesOf) := goodIn_app (goodIn_of _ (by decide +kernel)) ggX10_told_X9_strokesOf
set_option maxRecDepth 20000 in
theorem ggX10_told_X9_lengthAhead : GoodIn wsX10_told wsX9_lengthAhead := goodIn_r _ [265, 266, 267, 268, 5, 269, 11, 12, 280, 281, 282, 283, 284, 285, 286, 287, 288, 289] (by decide +kernel) (by decide +kernel)
set_option maxRecDepth 20000 in
theorem gX10_told_X9_lengthAhead : GoodIn wsX10_told (wsV RX10 175 RX9 yX9_lengthAhead wsX9_lengthAhead) := goodIn_app (goodIn_of _ (by decide +kernel)) ggX10_told_X9_lengthAhead
set_option maxRecDepth 20000 in
theorem ggX10_told_X9_lengthBehind : GoodIn wsX10_told wsX9_lengthBehind := goodIn_r _ [269, 11, 12, 280, 281, 282, 283, 284, 285, 286, 287, 288, 289] (by decide +kernel) (by decide +kernel)
set_option maxRecDepth 20000 in
theorem gX10_told_X9_lengthBehind : GoodIn wsX10_told (wsV RX10 178 RX9 yX9_lengthBehind wsX9_lengthBehind) := goodIn_app (goodIn_of _ (by decide +kernel)) ggX10_told_X9_lengthBehind
theorem dX10_told_0 : decode cX10_told 0 = .ok (.aload_n 0, 1) := by decide +kernel
theorem dX10_told_1 : decode cX10_told 1 = .ok (.getfield 46, 3) := by decide +kernel
theorem dX10_told_4 : decode cX10_told 4 = .ok (.invokevirtual 146, 3) := by decide +kernel
theorem dX10_told_7 : decode cX10_told 7 = .ok (.iload_n 1, 1) := by decide +kernel
theorem dX10_told_8 : decode cX10_told 8 = .ok (.ifCond .lt 14, 3) := by decide +kernel
theorem dX10_told_11 : decode cX10_told 11 = .ok (.iload_n 1, 1) := by decide +kernel
theorem dX10_told_12 : decode cX10_told 12 = .ok (.aload_n 0, 1) := by decide +kernel
theorem dX10_told_13 : decode cX10_told 13 = .ok (.getfield 46, 3) := by decide +kernel
theorem dX10_told_16 : decode cX10_told 16 = .ok (.invokevirtual 149, 3) := by decide +kernel
theorem dX10_told_19 : decode cX10_told 19 = .ok (.if_icmp .lt 5, 3) := by decide +kernel
theorem dX10_told_22 : decode cX10_told 22 = .ok (.iconst (-1), 1) := by decide +kernel
theorem dX10_told_23 : decode cX10_told 23 = .ok (.ireturn, 1) := by decide +kernel
theorem dX10_told_24 : decode cX10_told 24 = .ok (.iload_n 2, 1) := by decide +kernel
theorem dX10_told_25 : decode cX10_told 25 = .ok (.tableswitch 80 0 4 #[35, 44, 53, 62, 71], 35) := by decide +kernel
theorem dX10_told_60 : decode cX10_told 60 = .ok (.aload_n 0, 1) := by decide +kernel
theorem dX10_told_61 : decode cX10_told 61 = .ok (.getfield 46, 3) := by decide +kernel
theorem dX10_told_64 : decode cX10_told 64 = .ok (.iload_n 1, 1) := by decide +kernel
theorem dX10_told_65 : decode cX10_told 65 = .ok (.invokevirtual 166, 3) := by decide +kernel
theorem dX10_told_68 : decode cX10_told 68 = .ok (.ireturn, 1) := by decide +kernel
theorem dX10_told_69 : decode cX10_told 69 = .ok (.aload_n 0, 1) := by decide +kernel
theorem dX10_told_70 : decode cX10_told 70 = .ok (.getfield 46, 3) := by decide +kernel
theorem dX10_told_73 : decode cX10_told 73 = .ok (.iload_n 1, 1) := by decide +kernel
theorem dX10_told_74 : decode cX10_told 74 = .ok (.invokevirtual 169, 3) := by decide +kernel
theorem dX10_told_77 : decode cX10_told 77 = .ok (.ireturn, 1) := by decide +kernel
theorem dX10_told_78 : decode cX10_told 78 = .ok (.aload_n 0, 1) := by decide +kernel
theorem dX10_told_79 : decode cX10_told 79 = .ok (.getfield 46, 3) := by decide +kernel
theorem dX10_told_82 : decode cX10_told 82 = .ok (.iload_n 1, 1) := by decide +kernel
theorem dX10_told_83 : decode cX10_told 83 = .ok (.invokevirtual 172, 3) := by decide +kernel
theorem dX10_told_86 : decode cX10_told 86 = .ok (.ireturn, 1) := by decide +kernel
theorem dX10_told_87 : decode cX10_told 87 = .ok (.aload_n 0, 1) := by decide +kernel
theorem dX10_told_88 : decode cX10_told 88 = .ok (.getfield 46, 3) := by decide +kernel
theorem dX10_told_91 : decode cX10_told 91 = .ok (.iload_n 1, 1) := by decide +kernel
theorem dX10_told_92 : decode cX10_told 92 = .ok (.invokevirtual 175, 3) := by decide +kernel
theorem dX10_told_95 : decode cX10_told 95 = .ok (.ireturn, 1) := by decide +kernel
theorem dX10_told_96 : decode cX10_told 96 = .ok (.aload_n 0, 1) := by decide +kernel
theorem dX10_told_97 : decode cX10_told 97 = .ok (.getfield 46, 3) := by decide +kernel
theorem dX10_told_100 : decode cX10_told 100 = .ok (.iload_n 1, 1) := by decide +kernel
theorem dX10_told_101 : decode cX10_told 101 = .ok (.invokevirtual 178, 3) := by decide +kernel
theorem dX10_told_104 : decode cX10_told 104 = .ok (.ireturn, 1) := by decide +kernel
theorem dX10_told_105 : decode cX10_told 105 = .ok (.iconst (-1), 1) := by decide +kernel
theorem dX10_told_106 : decode cX10_told 106 = .ok (.ireturn, 1) := by decide +kernel
set_option maxRecDepth 20000 in
theorem ggX10_octet_X9_settle : GoodIn wsX10_octet wsX9_settle := goodIn_r _ [7, 8, 9, 10, 11, 12, 13, 14, 15, 16, 17, 18, 19, 20, 21, 22, 23, 24, 25, 26, 27, 28, 29, 30, 31, 32, 33, 34, 35, 36, 37, 38, 39, 40, 41, 42, 43, 44, 45, 46, 47, 48, 49, 50, 51, 52, 53, 54, 55, 56, 6, 57, 58, 59, 60, 61, 62, 63, 64, 65, 66, 67, 68, 69, 70, 71, 72, 73, 74, 75, 76, 77, 78, 79, 80, 81, 82, 83, 84, 85, 86, 87, 88, 89, 90, 91, 92, 93, 94, 95, 96, 97, 98, 99, 100, 101, 102, 103, 104, 105, 106, 107, 108, 109, 110, 111, 112, 113, 114, 115, 116, 117, 118, 119, 120, 121, 122, 123, 124, 125, 126, 127, 128, 129, 130, 131, 132, 133, 134, 135, 136, 137, 138, 139, 140, 141, 142, 143, 144, 145, 146, 147, 148, 149, 150, 151, 152, 153, 154, 155, 156, 157, 158, 159, 160, 161, 162, 163, 164, 165, 166, 167, 168, 169, 170, 171, 172, 173, 174, 175, 176, 177, 178, 179, 180, 181, 182, 183, 184, 185, 186, 187, 188, 189, 190, 191, 192, 193, 194, 195, 196, 197, 198, 199, 200, 201, 202, 203, 204, 205, 206, 207, 208, 209, 210, 211, 212, 213, 214, 215, 216, 217, 218, 219, 220, 221, 222, 223, 224, 225, 226, 227, 228, 229, 230, 231, 232, 233, 234, 235, 236, 237, 238, 239, 240, 241, 242, 243, 244, 245, 246, 247, 248, 262, 263, 264, 265, 266, 267, 268, 269, 270, 271, 272, 273, 274, 275, 276, 277, 278, 279, 280, 281, 282, 283, 284, 285, 286, 287, 288, 289, 290, 291, 292] (by decide +kernel) (by decide +kernel)
set_option maxRecDepth 20000 in
theorem gX10_octet_X9_settle : GoodIn wsX10_octet (wsV RX10 146 RX9 yX9_settle wsX9_settle) := goodIn_app (goodIn_of _ (by decide +kernel)) ggX10_octet_X9_settle
set_option maxRecDepth 20000 in
theorem ggX10_octet_X4_byteAt : GoodIn wsX10_octet wsX4_byteAt := goodIn_r _ [252, 76, 173, 284, 285, 286, 287, 288, 289, 290] (by decide +kernel) (by decide +kernel)
set_option maxRecDepth 20000 in
theorem gX10_octet_X4_byteAt : GoodIn wsX10_octet (wsV RX10 181 RX4 yX4_byteAt wsX4_byteAt) := goodIn_app (goodIn_of _ (by decide +kernel)) ggX10_octet_X4_byteAt
theorem dX10_octet_0 : decode cX10_octet 0 = .ok (.aload_n 0, 1) := by decide +kernel
theorem dX10_octet_1 : decode cX10_octet 1 = .ok (.getfield 46, 3) := by decide +kernel
theorem dX10_octet_4 : decode cX10_octet 4 = .ok (.invokevirtual 146, 3) := by decide +kernel
theorem dX10_octet_7 : decode cX10_octet 7 = .ok (.aload_n 0, 1) := by decide +kernel
theorem dX10_octet_8 : decode cX10_octet 8 = .ok (.getfield 37, 3) := by decide +kernel
theorem dX10_octet_11 : decode cX10_octet 11 = .ok (.iload_n 1, 1) := by decide +kernel
theorem dX10_octet_12 : decode cX10_octet 12 = .ok (.invokevirtual 181, 3) := by decide +kernel
theorem dX10_octet_15 : decode cX10_octet 15 = .ok (.ireturn, 1) := by decide +kernel
set_option maxRecDepth 20000 in
theorem ggX10_of_X9_settle : GoodIn wsX10_of wsX9_settle := goodIn_r _ [6, 7, 8, 9, 10, 11, 12, 13, 14, 15, 16, 17, 18, 19, 20, 21, 22, 23, 24, 25, 26, 27, 28, 29, 30, 31, 32, 33, 34, 35, 36, 37, 38, 39, 40, 41, 42, 43, 44, 45, 46, 47, 48, 49, 50, 51, 52, 53, 54, 55, 5, 56, 57, 58, 59, 60, 61, 62, 63, 64, 65, 66, 67, 68, 69, 70, 71, 72, 73, 74, 75, 76, 77, 78, 79, 80, 81, 82, 83, 84, 85, 86, 87, 88, 89, 90, 91, 92, 93, 94, 95, 96, 97, 98, 99, 100, 101, 102, 103, 104, 105, 106, 107, 108, 109, 110, 111, 112, 113, 114, 115, 116, 117, 118, 119, 120, 121, 122, 123, 124, 125, 126, 127, 128, 129, 130, 131, 132, 133, 134, 135, 136, 137, 138, 139, 140, 141, 142, 143, 144, 145, 146, 147, 148, 149, 150, 151, 152, 153, 154, 155, 156, 157, 158, 159, 160, 161, 162, 163, 164, 165, 166, 167, 168, 169, 170, 171, 172, 173, 174, 175, 176, 177, 178, 179, 180, 181, 182, 183, 184, 185, 186, 187, 188, 189, 190, 191, 192, 193, 194, 195, 196, 197, 198, 199, 200, 201, 202, 203, 204, 205, 206, 207, 208, 209, 210, 211, 212, 213, 214, 215, 216, 217, 218, 219, 220, 221, 222, 223, 224, 225, 226, 227, 228, 229, 230, 231, 232, 233, 234, 235, 236, 237, 238, 239, 240, 241, 242, 243, 244, 245, 246, 247, 265, 266, 267, 268, 269, 270, 271, 272, 273, 274, 275, 276, 277, 278, 279, 280, 281, 282, 283, 284, 285, 286, 287, 288, 289, 290, 291, 292, 293, 294, 295] (by decide +kernel) (by decide +kernel)
set_option maxRecDepth 20000 in
theorem gX10_of_X9_settle : GoodIn wsX10_of (wsV RX10 146 RX9 yX9_settle wsX9_settle) := goodIn_app (goodIn_of _ (by decide +kernel)) ggX10_of_X9_settle
set_option maxRecDepth 20000 in
theorem ggX10_of_X9_ownerOf : GoodIn wsX10_of wsX9_ownerOf := goodIn_r _ [251, 8, 60, 252, 253, 254, 16, 255, 23, 265, 266, 267, 268, 269, 270, 271, 272, 273, 274, 275, 276, 277, 278, 279, 280] (by decide +kernel) (by decide +kernel)
set_option maxRecDepth 20000 in
theorem gX10_of_X9_ownerOf : GoodIn wsX10_of (wsV RX10 184 RX9 yX9_ownerOf wsX9_ownerOf) := goodIn_app (goodIn_of _ (by decide +kernel)) ggX10_of_X9_ownerOf
theorem dX10_of_0 : decode cX10_of 0 = .ok (.aload_n 0, 1) := by decide +kernel
theorem dX10_of_1 : decode cX10_of 1 = .ok (.getfield 46, 3) := by decide +kernel
theorem dX10_of_4 : decode cX10_of 4 = .ok (.invokevirtual 146, 3) := by decide +kernel
