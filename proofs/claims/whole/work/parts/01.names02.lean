theorem dX4_byteAt_13 : decode cX4_byteAt 13 = .ok (.getfield 21, 3) := by decide +kernel
theorem dX4_byteAt_16 : decode cX4_byteAt 16 = .ok (.iload_n 1, 1) := by decide +kernel
theorem dX4_byteAt_17 : decode cX4_byteAt 17 = .ok (.baload, 1) := by decide +kernel
theorem dX4_byteAt_18 : decode cX4_byteAt 18 = .ok (.goto 4, 3) := by decide +kernel
theorem dX4_byteAt_21 : decode cX4_byteAt 21 = .ok (.iconst (-1), 1) := by decide +kernel
theorem dX4_byteAt_22 : decode cX4_byteAt 22 = .ok (.ireturn, 1) := by decide +kernel
theorem dX4_empty_0 : decode cX4_empty 0 = .ok (.aload_n 0, 1) := by decide +kernel
theorem dX4_empty_1 : decode cX4_empty 1 = .ok (.iconst 0, 1) := by decide +kernel
theorem dX4_empty_2 : decode cX4_empty 2 = .ok (.putfield 25, 3) := by decide +kernel
theorem dX4_empty_5 : decode cX4_empty 5 = .ok (.aload_n 0, 1) := by decide +kernel
theorem dX4_empty_6 : decode cX4_empty 6 = .ok (.iconst 0, 1) := by decide +kernel
theorem dX4_empty_7 : decode cX4_empty 7 = .ok (.putfield 29, 3) := by decide +kernel
theorem dX4_empty_10 : decode cX4_empty 10 = .ok (.aload_n 0, 1) := by decide +kernel
theorem dX4_empty_11 : decode cX4_empty 11 = .ok (.iconst 0, 1) := by decide +kernel
theorem dX4_empty_12 : decode cX4_empty 12 = .ok (.putfield 32, 3) := by decide +kernel
theorem dX4_empty_15 : decode cX4_empty 15 = .ok (.return_, 1) := by decide +kernel
set_option maxRecDepth 20000 in
theorem ggX4_writeRaw_X4_putBlank : GoodIn wsX4_writeRaw wsX4_putBlank := goodIn_r _ [5, 6, 7, 8, 9, 10, 4, 11, 12, 24, 25, 26, 27, 28, 29, 30] (by decide +kernel) (by decide +kernel)
set_option maxRecDepth 20000 in
theorem gX4_writeRaw_X4_putBlank : GoodIn wsX4_writeRaw (wsV RX4 35 RX4 yX4_putBlank wsX4_putBlank) := goodIn_app (goodIn_of _ (by decide +kernel)) ggX4_writeRaw_X4_putBlank
set_option maxRecDepth 20000 in
theorem ggX4_writeRaw_X2_size : GoodIn wsX4_writeRaw wsX2_size := goodIn_r _ [17, 18, 31, 32] (by decide +kernel) (by decide +kernel)
set_option maxRecDepth 20000 in
theorem gX4_writeRaw_X2_size : GoodIn wsX4_writeRaw (wsV RX4 38 RX2 yX2_size wsX2_size) := goodIn_app (goodIn_of _ (by decide +kernel)) ggX4_writeRaw_X2_size
set_option maxRecDepth 20000 in
theorem ggX4_writeRaw_X2_byteAt : GoodIn wsX4_writeRaw wsX2_byteAt := goodIn_r _ [22, 18, 23, 31, 32] (by decide +kernel) (by decide +kernel)
set_option maxRecDepth 20000 in
theorem gX4_writeRaw_X2_byteAt : GoodIn wsX4_writeRaw (wsV RX4 43 RX2 yX2_byteAt wsX2_byteAt) := goodIn_app (goodIn_of _ (by decide +kernel)) ggX4_writeRaw_X2_byteAt
set_option maxRecDepth 20000 in
theorem ggX4_writeRaw_X4_put : GoodIn wsX4_writeRaw wsX4_put := goodIn_r _ [11, 6, 12, 24, 25, 26, 27, 28, 29, 30] (by decide +kernel) (by decide +kernel)
set_option maxRecDepth 20000 in
theorem gX4_writeRaw_X4_put : GoodIn wsX4_writeRaw (wsV RX4 47 RX4 yX4_put wsX4_put) := goodIn_app (goodIn_of _ (by decide +kernel)) ggX4_writeRaw_X4_put
theorem dX4_writeRaw_0 : decode cX4_writeRaw 0 = .ok (.aload_n 0, 1) := by decide +kernel
theorem dX4_writeRaw_1 : decode cX4_writeRaw 1 = .ok (.invokevirtual 35, 3) := by decide +kernel
theorem dX4_writeRaw_4 : decode cX4_writeRaw 4 = .ok (.iconst 0, 1) := by decide +kernel
theorem dX4_writeRaw_5 : decode cX4_writeRaw 5 = .ok (.istore_n 2, 1) := by decide +kernel
theorem dX4_writeRaw_6 : decode cX4_writeRaw 6 = .ok (.iload_n 2, 1) := by decide +kernel
theorem dX4_writeRaw_7 : decode cX4_writeRaw 7 = .ok (.aload_n 1, 1) := by decide +kernel
theorem dX4_writeRaw_8 : decode cX4_writeRaw 8 = .ok (.invokevirtual 38, 3) := by decide +kernel
theorem dX4_writeRaw_11 : decode cX4_writeRaw 11 = .ok (.if_icmp .ge 18, 3) := by decide +kernel
theorem dX4_writeRaw_14 : decode cX4_writeRaw 14 = .ok (.aload_n 0, 1) := by decide +kernel
theorem dX4_writeRaw_15 : decode cX4_writeRaw 15 = .ok (.aload_n 1, 1) := by decide +kernel
theorem dX4_writeRaw_16 : decode cX4_writeRaw 16 = .ok (.iload_n 2, 1) := by decide +kernel
theorem dX4_writeRaw_17 : decode cX4_writeRaw 17 = .ok (.invokevirtual 43, 3) := by decide +kernel
theorem dX4_writeRaw_20 : decode cX4_writeRaw 20 = .ok (.invokevirtual 47, 3) := by decide +kernel
theorem dX4_writeRaw_23 : decode cX4_writeRaw 23 = .ok (.iinc 2 1, 3) := by decide +kernel
theorem dX4_writeRaw_26 : decode cX4_writeRaw 26 = .ok (.goto (-20), 3) := by decide +kernel
theorem dX4_writeRaw_29 : decode cX4_writeRaw 29 = .ok (.return_, 1) := by decide +kernel
set_option maxRecDepth 20000 in
theorem ggX4_writeEntry_X0_kindOf : GoodIn wsX4_writeEntry wsX0_kindOf := goodIn_r _ [8, 9, 10, 81, 82, 83, 84, 85, 86] (by decide +kernel) (by decide +kernel)
set_option maxRecDepth 20000 in
theorem gX4_writeEntry_X0_kindOf : GoodIn wsX4_writeEntry (wsV RX4 51 RX0 yX0_kindOf wsX0_kindOf) := goodIn_app (goodIn_of _ (by decide +kernel)) ggX4_writeEntry_X0_kindOf
set_option maxRecDepth 20000 in
theorem ggX4_writeEntry_X4_writeText : GoodIn wsX4_writeEntry wsX4_writeText := goodIn_r _ [15, 1, 3, 16, 17, 18, 14, 19, 20, 2, 21, 22, 23, 24, 25, 26, 27, 28, 7, 29, 9, 30, 31, 32, 33, 34, 35, 36, 37, 38, 74, 75, 76, 77, 78, 79, 80, 81, 82, 83, 84, 85, 86] (by decide +kernel) (by decide +kernel)
set_option maxRecDepth 20000 in
theorem gX4_writeEntry_X4_writeText : GoodIn wsX4_writeEntry (wsV RX4 56 RX4 yX4_writeText wsX4_writeText) := goodIn_app (goodIn_of _ (by decide +kernel)) ggX4_writeEntry_X4_writeText
set_option maxRecDepth 20000 in
theorem ggX4_writeEntry_X4_endsByLetter : GoodIn wsX4_writeEntry wsX4_endsByLetter := goodIn_r _ [42, 20, 25, 43, 37, 44, 74, 75, 76, 77, 78, 79, 80] (by decide +kernel) (by decide +kernel)
set_option maxRecDepth 20000 in
theorem gX4_writeEntry_X4_endsByLetter : GoodIn wsX4_writeEntry (wsV RX4 59 RX4 yX4_endsByLetter wsX4_endsByLetter) := goodIn_app (goodIn_of _ (by decide +kernel)) ggX4_writeEntry_X4_endsByLetter
set_option maxRecDepth 20000 in
theorem ggX4_writeEntry_X4_joinSuffix : GoodIn wsX4_writeEntry wsX4_joinSuffix := goodIn_r _ [48, 1, 20, 2, 31, 32, 33, 7, 34, 9, 30, 35, 26, 27, 28, 29, 49, 37, 50, 51, 52, 53, 14, 54, 55, 56, 25, 43, 44, 57, 58, 59, 60, 61, 62, 63, 64, 65, 66, 67, 68, 69, 21, 22, 23, 24, 74, 75, 76, 77, 78, 79, 80, 81, 82, 83, 84, 85, 86] (by decide +kernel) (by decide +kernel)
set_option maxRecDepth 20000 in
theorem gX4_writeEntry_X4_joinSuffix : GoodIn wsX4_writeEntry (wsV RX4 63 RX4 yX4_joinSuffix wsX4_joinSuffix) := goodIn_app (goodIn_of _ (by decide +kernel)) ggX4_writeEntry_X4_joinSuffix
set_option maxRecDepth 20000 in
theorem ggX4_writeEntry_X4_writeMark : GoodIn wsX4_writeEntry wsX4_writeMark := goodIn_r _ [73, 1, 2, 31, 32, 33, 7, 34, 9, 30, 35, 21, 22, 23, 14, 24, 20, 25, 74, 75, 76, 77, 78, 79, 80, 81, 82, 83, 84, 85, 86] (by decide +kernel) (by decide +kernel)
set_option maxRecDepth 20000 in
theorem gX4_writeEntry_X4_writeMark : GoodIn wsX4_writeEntry (wsV RX4 66 RX4 yX4_writeMark wsX4_writeMark) := goodIn_app (goodIn_of _ (by decide +kernel)) ggX4_writeEntry_X4_writeMark
theorem dX4_writeEntry_0 : decode cX4_writeEntry 0 = .ok (.aload_n 0, 1) := by decide +kernel
theorem dX4_writeEntry_1 : decode cX4_writeEntry 1 = .ok (.getfield 9, 3) := by decide +kernel
theorem dX4_writeEntry_4 : decode cX4_writeEntry 4 = .ok (.iload_n 1, 1) := by decide +kernel
theorem dX4_writeEntry_5 : decode cX4_writeEntry 5 = .ok (.invokevirtual 51, 3) := by decide +kernel
theorem dX4_writeEntry_8 : decode cX4_writeEntry 8 = .ok (.tableswitch 165 0 8 #[52, 60, 73, 120, 133, 96, 141, 149, 157], 52) := by decide +kernel
theorem dX4_writeEntry_60 : decode cX4_writeEntry 60 = .ok (.aload_n 0, 1) := by decide +kernel
theorem dX4_writeEntry_61 : decode cX4_writeEntry 61 = .ok (.iload_n 1, 1) := by decide +kernel
theorem dX4_writeEntry_62 : decode cX4_writeEntry 62 = .ok (.invokevirtual 56, 3) := by decide +kernel
theorem dX4_writeEntry_65 : decode cX4_writeEntry 65 = .ok (.goto 108, 3) := by decide +kernel
theorem dX4_writeEntry_68 : decode cX4_writeEntry 68 = .ok (.aload_n 0, 1) := by decide +kernel
theorem dX4_writeEntry_69 : decode cX4_writeEntry 69 = .ok (.iload_n 1, 1) := by decide +kernel
theorem dX4_writeEntry_70 : decode cX4_writeEntry 70 = .ok (.invokevirtual 56, 3) := by decide +kernel
theorem dX4_writeEntry_73 : decode cX4_writeEntry 73 = .ok (.aload_n 0, 1) := by decide +kernel
theorem dX4_writeEntry_74 : decode cX4_writeEntry 74 = .ok (.iconst 1, 1) := by decide +kernel
theorem dX4_writeEntry_75 : decode cX4_writeEntry 75 = .ok (.putfield 32, 3) := by decide +kernel
theorem dX4_writeEntry_78 : decode cX4_writeEntry 78 = .ok (.goto 95, 3) := by decide +kernel
theorem dX4_writeEntry_81 : decode cX4_writeEntry 81 = .ok (.aload_n 0, 1) := by decide +kernel
theorem dX4_writeEntry_82 : decode cX4_writeEntry 82 = .ok (.invokevirtual 59, 3) := by decide +kernel
theorem dX4_writeEntry_85 : decode cX4_writeEntry 85 = .ok (.ifCond .eq 11, 3) := by decide +kernel
theorem dX4_writeEntry_88 : decode cX4_writeEntry 88 = .ok (.aload_n 0, 1) := by decide +kernel
theorem dX4_writeEntry_89 : decode cX4_writeEntry 89 = .ok (.iload_n 1, 1) := by decide +kernel
theorem dX4_writeEntry_90 : decode cX4_writeEntry 90 = .ok (.invokevirtual 63, 3) := by decide +kernel
theorem dX4_writeEntry_93 : decode cX4_writeEntry 93 = .ok (.goto 80, 3) := by decide +kernel
theorem dX4_writeEntry_96 : decode cX4_writeEntry 96 = .ok (.aload_n 0, 1) := by decide +kernel
theorem dX4_writeEntry_97 : decode cX4_writeEntry 97 = .ok (.iload_n 1, 1) := by decide +kernel
theorem dX4_writeEntry_98 : decode cX4_writeEntry 98 = .ok (.invokevirtual 56, 3) := by decide +kernel
theorem dX4_writeEntry_101 : decode cX4_writeEntry 101 = .ok (.goto 72, 3) := by decide +kernel
theorem dX4_writeEntry_104 : decode cX4_writeEntry 104 = .ok (.aload_n 0, 1) := by decide +kernel
theorem dX4_writeEntry_105 : decode cX4_writeEntry 105 = .ok (.iload_n 2, 1) := by decide +kernel
theorem dX4_writeEntry_106 : decode cX4_writeEntry 106 = .ok (.ifCond .eq 7, 3) := by decide +kernel
theorem dX4_writeEntry_109 : decode cX4_writeEntry 109 = .ok (.iconst 1, 1) := by decide +kernel
theorem dX4_writeEntry_110 : decode cX4_writeEntry 110 = .ok (.goto 7, 3) := by decide +kernel
theorem dX4_writeEntry_113 : decode cX4_writeEntry 113 = .ok (.aload_n 0, 1) := by decide +kernel
theorem dX4_writeEntry_114 : decode cX4_writeEntry 114 = .ok (.getfield 32, 3) := by decide +kernel
theorem dX4_writeEntry_117 : decode cX4_writeEntry 117 = .ok (.putfield 32, 3) := by decide +kernel
theorem dX4_writeEntry_120 : decode cX4_writeEntry 120 = .ok (.aload_n 0, 1) := by decide +kernel
theorem dX4_writeEntry_121 : decode cX4_writeEntry 121 = .ok (.iload_n 1, 1) := by decide +kernel
theorem dX4_writeEntry_122 : decode cX4_writeEntry 122 = .ok (.invokevirtual 56, 3) := by decide +kernel
theorem dX4_writeEntry_125 : decode cX4_writeEntry 125 = .ok (.goto 48, 3) := by decide +kernel
theorem dX4_writeEntry_128 : decode cX4_writeEntry 128 = .ok (.aload_n 0, 1) := by decide +kernel
theorem dX4_writeEntry_129 : decode cX4_writeEntry 129 = .ok (.iload_n 1, 1) := by decide +kernel
theorem dX4_writeEntry_130 : decode cX4_writeEntry 130 = .ok (.invokevirtual 66, 3) := by decide +kernel
theorem dX4_writeEntry_133 : decode cX4_writeEntry 133 = .ok (.aload_n 0, 1) := by decide +kernel
theorem dX4_writeEntry_134 : decode cX4_writeEntry 134 = .ok (.iconst 1, 1) := by decide +kernel
theorem dX4_writeEntry_135 : decode cX4_writeEntry 135 = .ok (.putfield 29, 3) := by decide +kernel
theorem dX4_writeEntry_138 : decode cX4_writeEntry 138 = .ok (.goto 35, 3) := by decide +kernel
theorem dX4_writeEntry_141 : decode cX4_writeEntry 141 = .ok (.aload_n 0, 1) := by decide +kernel
theorem dX4_writeEntry_142 : decode cX4_writeEntry 142 = .ok (.iload_n 1, 1) := by decide +kernel
theorem dX4_writeEntry_143 : decode cX4_writeEntry 143 = .ok (.invokevirtual 66, 3) := by decide +kernel
theorem dX4_writeEntry_146 : decode cX4_writeEntry 146 = .ok (.goto 27, 3) := by decide +kernel
theorem dX4_writeEntry_149 : decode cX4_writeEntry 149 = .ok (.aload_n 0, 1) := by decide +kernel
theorem dX4_writeEntry_150 : decode cX4_writeEntry 150 = .ok (.iconst 1, 1) := by decide +kernel
theorem dX4_writeEntry_151 : decode cX4_writeEntry 151 = .ok (.putfield 29, 3) := by decide +kernel
theorem dX4_writeEntry_154 : decode cX4_writeEntry 154 = .ok (.goto 19, 3) := by decide +kernel
theorem dX4_writeEntry_157 : decode cX4_writeEntry 157 = .ok (.aload_n 0, 1) := by decide +kernel
theorem dX4_writeEntry_158 : decode cX4_writeEntry 158 = .ok (.iconst 1, 1) := by decide +kernel
theorem dX4_writeEntry_159 : decode cX4_writeEntry 159 = .ok (.putfield 32, 3) := by decide +kernel
theorem dX4_writeEntry_162 : decode cX4_writeEntry 162 = .ok (.goto 11, 3) := by decide +kernel
theorem dX4_writeEntry_165 : decode cX4_writeEntry 165 = .ok (.aload_n 0, 1) := by decide +kernel
theorem dX4_writeEntry_166 : decode cX4_writeEntry 166 = .ok (.iconst 2, 1) := by decide +kernel
theorem dX4_writeEntry_167 : decode cX4_writeEntry 167 = .ok (.putfield 29, 3) := by decide +kernel
theorem dX4_writeEntry_170 : decode cX4_writeEntry 170 = .ok (.goto 3, 3) := by decide +kernel
theorem dX4_writeEntry_173 : decode cX4_writeEntry 173 = .ok (.return_, 1) := by decide +kernel
set_option maxRecDepth 20000 in
theorem ggX4_writeText_X4_putBlank : GoodIn wsX4_writeText wsX4_putBlank := goodIn_r _ [7, 8, 9, 10, 11, 12, 6, 13, 14, 30, 31, 32, 33, 34, 35, 36] (by decide +kernel) (by decide +kernel)
set_option maxRecDepth 20000 in
theorem gX4_writeText_X4_putBlank : GoodIn wsX4_writeText (wsV RX4 35 RX4 yX4_putBlank wsX4_putBlank) := goodIn_app (goodIn_of _ (by decide +kernel)) ggX4_writeText_X4_putBlank
set_option maxRecDepth 20000 in
theorem ggX4_writeText_X0_lengthOf : GoodIn wsX4_writeText wsX0_lengthOf := goodIn_r _ [19, 20, 21, 37, 38, 39, 40, 41, 42] (by decide +kernel) (by decide +kernel)
set_option maxRecDepth 20000 in
theorem gX4_writeText_X0_lengthOf : GoodIn wsX4_writeText (wsV RX4 69 RX0 yX0_lengthOf wsX0_lengthOf) := goodIn_app (goodIn_of _ (by decide +kernel)) ggX4_writeText_X0_lengthOf
set_option maxRecDepth 20000 in
theorem ggX4_writeText_X0_letterAt : GoodIn wsX4_writeText wsX0_letterAt := goodIn_r _ [25, 20, 21, 26, 37, 38, 39, 40, 41, 42] (by decide +kernel) (by decide +kernel)
set_option maxRecDepth 20000 in
theorem gX4_writeText_X0_letterAt : GoodIn wsX4_writeText (wsV RX4 72 RX0 yX0_letterAt wsX0_letterAt) := goodIn_app (goodIn_of _ (by decide +kernel)) ggX4_writeText_X0_letterAt
set_option maxRecDepth 20000 in
theorem ggX4_writeText_X10_isSmall : GoodIn wsX4_writeText wsX10_isSmall := goodIn_r _ [29] (by decide +kernel) (by decide +kernel)
set_option maxRecDepth 20000 in
theorem gX4_writeText_X10_isSmall_n75 : GoodIn wsX4_writeText (wsX10_isSmall) := ggX4_writeText_X10_isSmall
set_option maxRecDepth 20000 in
theorem ggX4_writeText_X4_put : GoodIn wsX4_writeText wsX4_put := goodIn_r _ [13, 8, 14, 30, 31, 32, 33, 34, 35, 36] (by decide +kernel) (by decide +kernel)
set_option maxRecDepth 20000 in
theorem gX4_writeText_X4_put : GoodIn wsX4_writeText (wsV RX4 47 RX4 yX4_put wsX4_put) := goodIn_app (goodIn_of _ (by decide +kernel)) ggX4_writeText_X4_put
theorem dX4_writeText_0 : decode cX4_writeText 0 = .ok (.aload_n 0, 1) := by decide +kernel
theorem dX4_writeText_1 : decode cX4_writeText 1 = .ok (.invokevirtual 35, 3) := by decide +kernel
theorem dX4_writeText_4 : decode cX4_writeText 4 = .ok (.iconst 0, 1) := by decide +kernel
theorem dX4_writeText_5 : decode cX4_writeText 5 = .ok (.istore_n 2, 1) := by decide +kernel
theorem dX4_writeText_6 : decode cX4_writeText 6 = .ok (.iload_n 2, 1) := by decide +kernel
theorem dX4_writeText_7 : decode cX4_writeText 7 = .ok (.aload_n 0, 1) := by decide +kernel
theorem dX4_writeText_8 : decode cX4_writeText 8 = .ok (.getfield 9, 3) := by decide +kernel
theorem dX4_writeText_11 : decode cX4_writeText 11 = .ok (.iload_n 1, 1) := by decide +kernel
theorem dX4_writeText_12 : decode cX4_writeText 12 = .ok (.invokevirtual 69, 3) := by decide +kernel
theorem dX4_writeText_15 : decode cX4_writeText 15 = .ok (.if_icmp .ge 73, 3) := by decide +kernel
theorem dX4_writeText_18 : decode cX4_writeText 18 = .ok (.aload_n 0, 1) := by decide +kernel
theorem dX4_writeText_19 : decode cX4_writeText 19 = .ok (.getfield 9, 3) := by decide +kernel
theorem dX4_writeText_22 : decode cX4_writeText 22 = .ok (.iload_n 1, 1) := by decide +kernel
theorem dX4_writeText_23 : decode cX4_writeText 23 = .ok (.iload_n 2, 1) := by decide +kernel
theorem dX4_writeText_24 : decode cX4_writeText 24 = .ok (.invokevirtual 72, 3) := by decide +kernel
theorem dX4_writeText_27 : decode cX4_writeText 27 = .ok (.istore_n 3, 1) := by decide +kernel
theorem dX4_writeText_28 : decode cX4_writeText 28 = .ok (.aload_n 0, 1) := by decide +kernel
theorem dX4_writeText_29 : decode cX4_writeText 29 = .ok (.getfield 29, 3) := by decide +kernel
theorem dX4_writeText_32 : decode cX4_writeText 32 = .ok (.iconst 2, 1) := by decide +kernel
theorem dX4_writeText_33 : decode cX4_writeText 33 = .ok (.if_icmp .eq 15, 3) := by decide +kernel
theorem dX4_writeText_36 : decode cX4_writeText 36 = .ok (.aload_n 0, 1) := by decide +kernel
theorem dX4_writeText_37 : decode cX4_writeText 37 = .ok (.getfield 29, 3) := by decide +kernel
theorem dX4_writeText_40 : decode cX4_writeText 40 = .ok (.iconst 1, 1) := by decide +kernel
theorem dX4_writeText_41 : decode cX4_writeText 41 = .ok (.if_icmp .ne 11, 3) := by decide +kernel
theorem dX4_writeText_44 : decode cX4_writeText 44 = .ok (.iload_n 2, 1) := by decide +kernel
theorem dX4_writeText_45 : decode cX4_writeText 45 = .ok (.ifCond .ne 7, 3) := by decide +kernel
theorem dX4_writeText_48 : decode cX4_writeText 48 = .ok (.iconst 1, 1) := by decide +kernel
theorem dX4_writeText_49 : decode cX4_writeText 49 = .ok (.goto 4, 3) := by decide +kernel
theorem dX4_writeText_52 : decode cX4_writeText 52 = .ok (.iconst 0, 1) := by decide +kernel
theorem dX4_writeText_53 : decode cX4_writeText 53 = .ok (.istore 4, 2) := by decide +kernel
theorem dX4_writeText_55 : decode cX4_writeText 55 = .ok (.aload_n 0, 1) := by decide +kernel
theorem dX4_writeText_56 : decode cX4_writeText 56 = .ok (.iload 4, 2) := by decide +kernel
theorem dX4_writeText_58 : decode cX4_writeText 58 = .ok (.ifCond .eq 20, 3) := by decide +kernel
theorem dX4_writeText_61 : decode cX4_writeText 61 = .ok (.iload_n 3, 1) := by decide +kernel
theorem dX4_writeText_62 : decode cX4_writeText 62 = .ok (.invokestatic 75, 3) := by decide +kernel
theorem dX4_writeText_65 : decode cX4_writeText 65 = .ok (.ifCond .eq 13, 3) := by decide +kernel
theorem dX4_writeText_68 : decode cX4_writeText 68 = .ok (.iload_n 3, 1) := by decide +kernel
theorem dX4_writeText_69 : decode cX4_writeText 69 = .ok (.bipush 97, 2) := by decide +kernel
theorem dX4_writeText_71 : decode cX4_writeText 71 = .ok (.isub, 1) := by decide +kernel
theorem dX4_writeText_72 : decode cX4_writeText 72 = .ok (.bipush 65, 2) := by decide +kernel
theorem dX4_writeText_74 : decode cX4_writeText 74 = .ok (.iadd, 1) := by decide +kernel
theorem dX4_writeText_75 : decode cX4_writeText 75 = .ok (.goto 4, 3) := by decide +kernel
theorem dX4_writeText_78 : decode cX4_writeText 78 = .ok (.iload_n 3, 1) := by decide +kernel
theorem dX4_writeText_79 : decode cX4_writeText 79 = .ok (.invokevirtual 47, 3) := by decide +kernel
theorem dX4_writeText_82 : decode cX4_writeText 82 = .ok (.iinc 2 1, 3) := by decide +kernel
theorem dX4_writeText_85 : decode cX4_writeText 85 = .ok (.goto (-79), 3) := by decide +kernel
theorem dX4_writeText_88 : decode cX4_writeText 88 = .ok (.aload_n 0, 1) := by decide +kernel
theorem dX4_writeText_89 : decode cX4_writeText 89 = .ok (.iconst 0, 1) := by decide +kernel
theorem dX4_writeText_90 : decode cX4_writeText 90 = .ok (.putfield 29, 3) := by decide +kernel
theorem dX4_writeText_93 : decode cX4_writeText 93 = .ok (.return_, 1) := by decide +kernel
set_option maxRecDepth 20000 in
theorem ggX4_joinSuffix_X0_letterAt : GoodIn wsX4_joinSuffix wsX0_letterAt := goodIn_r _ [8, 9, 10, 11, 53, 54, 55, 56, 57, 58] (by decide +kernel) (by decide +kernel)
set_option maxRecDepth 20000 in
theorem gX4_joinSuffix_X0_letterAt : GoodIn wsX4_joinSuffix (wsV RX4 72 RX0 yX0_letterAt wsX0_letterAt) := goodIn_app (goodIn_of _ (by decide +kernel)) ggX4_joinSuffix_X0_letterAt
set_option maxRecDepth 20000 in
theorem ggX4_joinSuffix_X0_lengthOf : GoodIn wsX4_joinSuffix wsX0_lengthOf := goodIn_r _ [15, 9, 10, 53, 54, 55, 56, 57, 58] (by decide +kernel) (by decide +kernel)
set_option maxRecDepth 20000 in
theorem gX4_joinSuffix_X0_lengthOf : GoodIn wsX4_joinSuffix (wsV RX4 69 RX0 yX0_lengthOf wsX0_lengthOf) := goodIn_app (goodIn_of _ (by decide +kernel)) ggX4_joinSuffix_X0_lengthOf
set_option maxRecDepth 20000 in
theorem ggX4_joinSuffix_X10_isVowel : GoodIn wsX4_joinSuffix wsX10_isVowel := goodIn_r _ [18] (by decide +kernel) (by decide +kernel)
set_option maxRecDepth 20000 in
theorem gX4_joinSuffix_X10_isVowel_n79 : GoodIn wsX4_joinSuffix (wsX10_isVowel) := ggX4_joinSuffix_X10_isVowel
set_option maxRecDepth 20000 in
theorem ggX4_joinSuffix_X4_measureLastWord : GoodIn wsX4_joinSuffix wsX4_measureLastWord := goodIn_r _ [23, 24, 25, 2, 26, 27, 17, 28, 29, 30, 16, 18, 46, 47, 48, 49, 50, 51, 52] (by decide +kernel) (by decide +kernel)
set_option maxRecDepth 20000 in
theorem gX4_joinSuffix_X4_measureLastWord : GoodIn wsX4_joinSuffix (wsV RX4 82 RX4 yX4_measureLastWord wsX4_measureLastWord) := goodIn_app (goodIn_of _ (by decide +kernel)) ggX4_joinSuffix_X4_measureLastWord
set_option maxRecDepth 20000 in
theorem ggX4_joinSuffix_X4_smallFromEnd : GoodIn wsX4_joinSuffix wsX4_smallFromEnd := goodIn_r _ [34, 2, 24, 26, 29, 17, 30, 46, 47, 48, 49, 50, 51, 52] (by decide +kernel) (by decide +kernel)
set_option maxRecDepth 20000 in
theorem gX4_joinSuffix_X4_smallFromEnd : GoodIn wsX4_joinSuffix (wsV RX4 86 RX4 yX4_smallFromEnd wsX4_smallFromEnd) := goodIn_app (goodIn_of _ (by decide +kernel)) ggX4_joinSuffix_X4_smallFromEnd
set_option maxRecDepth 20000 in
theorem ggX4_joinSuffix_X4_ruleFor : GoodIn wsX4_joinSuffix wsX4_ruleFor := goodIn_r _ [38, 24, 25, 16, 17, 18, 39, 40, 22, 41, 46, 47, 48, 49, 50, 51, 52] (by decide +kernel) (by decide +kernel)
set_option maxRecDepth 20000 in
theorem gX4_joinSuffix_X4_ruleFor : GoodIn wsX4_joinSuffix (wsV RX4 89 RX4 yX4_ruleFor wsX4_ruleFor) := goodIn_app (goodIn_of _ (by decide +kernel)) ggX4_joinSuffix_X4_ruleFor
set_option maxRecDepth 20000 in
theorem ggX4_joinSuffix_X4_put : GoodIn wsX4_joinSuffix wsX4_put := goodIn_r _ [45, 2, 26, 46, 47, 48, 49, 50, 51, 52] (by decide +kernel) (by decide +kernel)
set_option maxRecDepth 20000 in
theorem gX4_joinSuffix_X4_put : GoodIn wsX4_joinSuffix (wsV RX4 47 RX4 yX4_put wsX4_put) := goodIn_app (goodIn_of _ (by decide +kernel)) ggX4_joinSuffix_X4_put
theorem dX4_joinSuffix_0 : decode cX4_joinSuffix 0 = .ok (.aload_n 0, 1) := by decide +kernel
theorem dX4_joinSuffix_1 : decode cX4_joinSuffix 1 = .ok (.getfield 9, 3) := by decide +kernel
theorem dX4_joinSuffix_4 : decode cX4_joinSuffix 4 = .ok (.iload_n 1, 1) := by decide +kernel
theorem dX4_joinSuffix_5 : decode cX4_joinSuffix 5 = .ok (.iconst 0, 1) := by decide +kernel
theorem dX4_joinSuffix_6 : decode cX4_joinSuffix 6 = .ok (.invokevirtual 72, 3) := by decide +kernel
theorem dX4_joinSuffix_9 : decode cX4_joinSuffix 9 = .ok (.istore_n 2, 1) := by decide +kernel
theorem dX4_joinSuffix_10 : decode cX4_joinSuffix 10 = .ok (.iload_n 2, 1) := by decide +kernel
theorem dX4_joinSuffix_11 : decode cX4_joinSuffix 11 = .ok (.bipush 115, 2) := by decide +kernel
theorem dX4_joinSuffix_13 : decode cX4_joinSuffix 13 = .ok (.if_icmp .ne 19, 3) := by decide +kernel
theorem dX4_joinSuffix_16 : decode cX4_joinSuffix 16 = .ok (.aload_n 0, 1) := by decide +kernel
theorem dX4_joinSuffix_17 : decode cX4_joinSuffix 17 = .ok (.getfield 9, 3) := by decide +kernel
theorem dX4_joinSuffix_20 : decode cX4_joinSuffix 20 = .ok (.iload_n 1, 1) := by decide +kernel
theorem dX4_joinSuffix_21 : decode cX4_joinSuffix 21 = .ok (.invokevirtual 69, 3) := by decide +kernel
theorem dX4_joinSuffix_24 : decode cX4_joinSuffix 24 = .ok (.iconst 1, 1) := by decide +kernel
theorem dX4_joinSuffix_25 : decode cX4_joinSuffix 25 = .ok (.if_icmp .ne 7, 3) := by decide +kernel
theorem dX4_joinSuffix_28 : decode cX4_joinSuffix 28 = .ok (.iconst 1, 1) := by decide +kernel
theorem dX4_joinSuffix_29 : decode cX4_joinSuffix 29 = .ok (.goto 4, 3) := by decide +kernel
theorem dX4_joinSuffix_32 : decode cX4_joinSuffix 32 = .ok (.iconst 0, 1) := by decide +kernel
theorem dX4_joinSuffix_33 : decode cX4_joinSuffix 33 = .ok (.istore_n 3, 1) := by decide +kernel
theorem dX4_joinSuffix_34 : decode cX4_joinSuffix 34 = .ok (.aload_n 0, 1) := by decide +kernel
theorem dX4_joinSuffix_35 : decode cX4_joinSuffix 35 = .ok (.iload_n 2, 1) := by decide +kernel
theorem dX4_joinSuffix_36 : decode cX4_joinSuffix 36 = .ok (.invokestatic 79, 3) := by decide +kernel
theorem dX4_joinSuffix_39 : decode cX4_joinSuffix 39 = .ok (.invokevirtual 82, 3) := by decide +kernel
theorem dX4_joinSuffix_42 : decode cX4_joinSuffix 42 = .ok (.aload_n 0, 1) := by decide +kernel
theorem dX4_joinSuffix_43 : decode cX4_joinSuffix 43 = .ok (.iconst 0, 1) := by decide +kernel
theorem dX4_joinSuffix_44 : decode cX4_joinSuffix 44 = .ok (.invokevirtual 86, 3) := by decide +kernel
theorem dX4_joinSuffix_47 : decode cX4_joinSuffix 47 = .ok (.istore 4, 2) := by decide +kernel
theorem dX4_joinSuffix_49 : decode cX4_joinSuffix 49 = .ok (.aload_n 0, 1) := by decide +kernel
theorem dX4_joinSuffix_50 : decode cX4_joinSuffix 50 = .ok (.iload 4, 2) := by decide +kernel
theorem dX4_joinSuffix_52 : decode cX4_joinSuffix 52 = .ok (.aload_n 0, 1) := by decide +kernel
theorem dX4_joinSuffix_53 : decode cX4_joinSuffix 53 = .ok (.iconst 1, 1) := by decide +kernel
theorem dX4_joinSuffix_54 : decode cX4_joinSuffix 54 = .ok (.invokevirtual 86, 3) := by decide +kernel
theorem dX4_joinSuffix_57 : decode cX4_joinSuffix 57 = .ok (.iload_n 2, 1) := by decide +kernel
theorem dX4_joinSuffix_58 : decode cX4_joinSuffix 58 = .ok (.iload_n 3, 1) := by decide +kernel
theorem dX4_joinSuffix_59 : decode cX4_joinSuffix 59 = .ok (.invokevirtual 89, 3) := by decide +kernel
theorem dX4_joinSuffix_62 : decode cX4_joinSuffix 62 = .ok (.tableswitch 90 1 4 #[30, 59, 68, 81], 30) := by decide +kernel
theorem dX4_joinSuffix_92 : decode cX4_joinSuffix 92 = .ok (.aload_n 0, 1) := by decide +kernel
theorem dX4_joinSuffix_93 : decode cX4_joinSuffix 93 = .ok (.dup, 1) := by decide +kernel
theorem dX4_joinSuffix_94 : decode cX4_joinSuffix 94 = .ok (.getfield 25, 3) := by decide +kernel
theorem dX4_joinSuffix_97 : decode cX4_joinSuffix 97 = .ok (.iconst 1, 1) := by decide +kernel
theorem dX4_joinSuffix_98 : decode cX4_joinSuffix 98 = .ok (.isub, 1) := by decide +kernel
theorem dX4_joinSuffix_99 : decode cX4_joinSuffix 99 = .ok (.putfield 25, 3) := by decide +kernel
theorem dX4_joinSuffix_102 : decode cX4_joinSuffix 102 = .ok (.aload_n 0, 1) := by decide +kernel
theorem dX4_joinSuffix_103 : decode cX4_joinSuffix 103 = .ok (.bipush 105, 2) := by decide +kernel
theorem dX4_joinSuffix_105 : decode cX4_joinSuffix 105 = .ok (.invokevirtual 47, 3) := by decide +kernel
theorem dX4_joinSuffix_108 : decode cX4_joinSuffix 108 = .ok (.iload_n 3, 1) := by decide +kernel
theorem dX4_joinSuffix_109 : decode cX4_joinSuffix 109 = .ok (.ifCond .eq 43, 3) := by decide +kernel
theorem dX4_joinSuffix_112 : decode cX4_joinSuffix 112 = .ok (.aload_n 0, 1) := by decide +kernel
theorem dX4_joinSuffix_113 : decode cX4_joinSuffix 113 = .ok (.bipush 101, 2) := by decide +kernel
theorem dX4_joinSuffix_115 : decode cX4_joinSuffix 115 = .ok (.invokevirtual 47, 3) := by decide +kernel
theorem dX4_joinSuffix_118 : decode cX4_joinSuffix 118 = .ok (.goto 34, 3) := by decide +kernel
theorem dX4_joinSuffix_121 : decode cX4_joinSuffix 121 = .ok (.aload_n 0, 1) := by decide +kernel
theorem dX4_joinSuffix_122 : decode cX4_joinSuffix 122 = .ok (.bipush 101, 2) := by decide +kernel
theorem dX4_joinSuffix_124 : decode cX4_joinSuffix 124 = .ok (.invokevirtual 47, 3) := by decide +kernel
theorem dX4_joinSuffix_127 : decode cX4_joinSuffix 127 = .ok (.goto 25, 3) := by decide +kernel
theorem dX4_joinSuffix_130 : decode cX4_joinSuffix 130 = .ok (.aload_n 0, 1) := by decide +kernel
theorem dX4_joinSuffix_131 : decode cX4_joinSuffix 131 = .ok (.dup, 1) := by decide +kernel
theorem dX4_joinSuffix_132 : decode cX4_joinSuffix 132 = .ok (.getfield 25, 3) := by decide +kernel
theorem dX4_joinSuffix_135 : decode cX4_joinSuffix 135 = .ok (.iconst 1, 1) := by decide +kernel
theorem dX4_joinSuffix_136 : decode cX4_joinSuffix 136 = .ok (.isub, 1) := by decide +kernel
theorem dX4_joinSuffix_137 : decode cX4_joinSuffix 137 = .ok (.putfield 25, 3) := by decide +kernel
theorem dX4_joinSuffix_140 : decode cX4_joinSuffix 140 = .ok (.goto 12, 3) := by decide +kernel
theorem dX4_joinSuffix_143 : decode cX4_joinSuffix 143 = .ok (.aload_n 0, 1) := by decide +kernel
theorem dX4_joinSuffix_144 : decode cX4_joinSuffix 144 = .ok (.iload 4, 2) := by decide +kernel
theorem dX4_joinSuffix_146 : decode cX4_joinSuffix 146 = .ok (.invokevirtual 47, 3) := by decide +kernel
theorem dX4_joinSuffix_149 : decode cX4_joinSuffix 149 = .ok (.goto 3, 3) := by decide +kernel
theorem dX4_joinSuffix_152 : decode cX4_joinSuffix 152 = .ok (.iconst 0, 1) := by decide +kernel
theorem dX4_joinSuffix_153 : decode cX4_joinSuffix 153 = .ok (.istore 5, 2) := by decide +kernel
theorem dX4_joinSuffix_155 : decode cX4_joinSuffix 155 = .ok (.iload 5, 2) := by decide +kernel
theorem dX4_joinSuffix_157 : decode cX4_joinSuffix 157 = .ok (.aload_n 0, 1) := by decide +kernel
theorem dX4_joinSuffix_158 : decode cX4_joinSuffix 158 = .ok (.getfield 9, 3) := by decide +kernel
theorem dX4_joinSuffix_161 : decode cX4_joinSuffix 161 = .ok (.iload_n 1, 1) := by decide +kernel
theorem dX4_joinSuffix_162 : decode cX4_joinSuffix 162 = .ok (.invokevirtual 69, 3) := by decide +kernel
theorem dX4_joinSuffix_165 : decode cX4_joinSuffix 165 = .ok (.if_icmp .ge 23, 3) := by decide +kernel
theorem dX4_joinSuffix_168 : decode cX4_joinSuffix 168 = .ok (.aload_n 0, 1) := by decide +kernel
theorem dX4_joinSuffix_169 : decode cX4_joinSuffix 169 = .ok (.aload_n 0, 1) := by decide +kernel
theorem dX4_joinSuffix_170 : decode cX4_joinSuffix 170 = .ok (.getfield 9, 3) := by decide +kernel
theorem dX4_joinSuffix_173 : decode cX4_joinSuffix 173 = .ok (.iload_n 1, 1) := by decide +kernel
theorem dX4_joinSuffix_174 : decode cX4_joinSuffix 174 = .ok (.iload 5, 2) := by decide +kernel
theorem dX4_joinSuffix_176 : decode cX4_joinSuffix 176 = .ok (.invokevirtual 72, 3) := by decide +kernel
theorem dX4_joinSuffix_179 : decode cX4_joinSuffix 179 = .ok (.invokevirtual 47, 3) := by decide +kernel
theorem dX4_joinSuffix_182 : decode cX4_joinSuffix 182 = .ok (.iinc 5 1, 3) := by decide +kernel
theorem dX4_joinSuffix_185 : decode cX4_joinSuffix 185 = .ok (.goto (-30), 3) := by decide +kernel
theorem dX4_joinSuffix_188 : decode cX4_joinSuffix 188 = .ok (.aload_n 0, 1) := by decide +kernel
theorem dX4_joinSuffix_189 : decode cX4_joinSuffix 189 = .ok (.iconst 0, 1) := by decide +kernel
theorem dX4_joinSuffix_190 : decode cX4_joinSuffix 190 = .ok (.putfield 32, 3) := by decide +kernel
theorem dX4_joinSuffix_193 : decode cX4_joinSuffix 193 = .ok (.return_, 1) := by decide +kernel
theorem dX4_isAt_0 : decode cX4_isAt 0 = .ok (.iload_n 2, 1) := by decide +kernel
theorem dX4_isAt_1 : decode cX4_isAt 1 = .ok (.ifCond .lt 19, 3) := by decide +kernel
theorem dX4_isAt_4 : decode cX4_isAt 4 = .ok (.iload_n 3, 1) := by decide +kernel
theorem dX4_isAt_5 : decode cX4_isAt 5 = .ok (.aload_n 1, 1) := by decide +kernel
theorem dX4_isAt_6 : decode cX4_isAt 6 = .ok (.arraylength, 1) := by decide +kernel
theorem dX4_isAt_7 : decode cX4_isAt 7 = .ok (.if_icmp .gt 13, 3) := by decide +kernel
theorem dX4_isAt_10 : decode cX4_isAt 10 = .ok (.iload_n 3, 1) := by decide +kernel
theorem dX4_isAt_11 : decode cX4_isAt 11 = .ok (.iload_n 2, 1) := by decide +kernel
theorem dX4_isAt_12 : decode cX4_isAt 12 = .ok (.isub, 1) := by decide +kernel
theorem dX4_isAt_13 : decode cX4_isAt 13 = .ok (.aload_n 0, 1) := by decide +kernel
theorem dX4_isAt_14 : decode cX4_isAt 14 = .ok (.getfield 25, 3) := by decide +kernel
theorem dX4_isAt_17 : decode cX4_isAt 17 = .ok (.if_icmp .eq 5, 3) := by decide +kernel
theorem dX4_isAt_20 : decode cX4_isAt 20 = .ok (.iconst 0, 1) := by decide +kernel
theorem dX4_isAt_21 : decode cX4_isAt 21 = .ok (.ireturn, 1) := by decide +kernel
theorem dX4_isAt_22 : decode cX4_isAt 22 = .ok (.iconst 0, 1) := by decide +kernel
theorem dX4_isAt_23 : decode cX4_isAt 23 = .ok (.istore 4, 2) := by decide +kernel
theorem dX4_isAt_25 : decode cX4_isAt 25 = .ok (.iload 4, 2) := by decide +kernel
theorem dX4_isAt_27 : decode cX4_isAt 27 = .ok (.aload_n 0, 1) := by decide +kernel
theorem dX4_isAt_28 : decode cX4_isAt 28 = .ok (.getfield 25, 3) := by decide +kernel
theorem dX4_isAt_31 : decode cX4_isAt 31 = .ok (.if_icmp .ge 27, 3) := by decide +kernel
theorem dX4_isAt_34 : decode cX4_isAt 34 = .ok (.aload_n 1, 1) := by decide +kernel
theorem dX4_isAt_35 : decode cX4_isAt 35 = .ok (.iload_n 2, 1) := by decide +kernel
theorem dX4_isAt_36 : decode cX4_isAt 36 = .ok (.iload 4, 2) := by decide +kernel
theorem dX4_isAt_38 : decode cX4_isAt 38 = .ok (.iadd, 1) := by decide +kernel
theorem dX4_isAt_39 : decode cX4_isAt 39 = .ok (.baload, 1) := by decide +kernel
theorem dX4_isAt_40 : decode cX4_isAt 40 = .ok (.aload_n 0, 1) := by decide +kernel
theorem dX4_isAt_41 : decode cX4_isAt 41 = .ok (.getfield 21, 3) := by decide +kernel
theorem dX4_isAt_44 : decode cX4_isAt 44 = .ok (.iload 4, 2) := by decide +kernel
theorem dX4_isAt_46 : decode cX4_isAt 46 = .ok (.baload, 1) := by decide +kernel
theorem dX4_isAt_47 : decode cX4_isAt 47 = .ok (.if_icmp .eq 5, 3) := by decide +kernel
theorem dX4_isAt_50 : decode cX4_isAt 50 = .ok (.iconst 0, 1) := by decide +kernel
theorem dX4_isAt_51 : decode cX4_isAt 51 = .ok (.ireturn, 1) := by decide +kernel
theorem dX4_isAt_52 : decode cX4_isAt 52 = .ok (.iinc 4 1, 3) := by decide +kernel
theorem dX4_isAt_55 : decode cX4_isAt 55 = .ok (.goto (-30), 3) := by decide +kernel
theorem dX4_isAt_58 : decode cX4_isAt 58 = .ok (.iconst 1, 1) := by decide +kernel
theorem dX4_isAt_59 : decode cX4_isAt 59 = .ok (.ireturn, 1) := by decide +kernel
set_option maxRecDepth 20000 in
theorem ggX4_ruleFor_X10_isVowel : GoodIn wsX4_ruleFor wsX10_isVowel := goodIn_r _ [5] (by decide +kernel) (by decide +kernel)
set_option maxRecDepth 20000 in
theorem gX4_ruleFor_X10_isVowel_n79 : GoodIn wsX4_ruleFor (wsX10_isVowel) := ggX4_ruleFor_X10_isVowel
set_option maxRecDepth 20000 in
theorem ggX4_ruleFor_X4_hisses : GoodIn wsX4_ruleFor wsX4_hisses := goodIn_r _ [9] (by decide +kernel) (by decide +kernel)
set_option maxRecDepth 20000 in
theorem gX4_ruleFor_X4_hisses : GoodIn wsX4_ruleFor (va_wsS RX4 96 yX4_hisses wsX4_hisses) := goodIn_app (goodIn_of _ (by decide +kernel)) ggX4_ruleFor_X4_hisses
theorem dX4_ruleFor_0 : decode cX4_ruleFor 0 = .ok (.iload_n 1, 1) := by decide +kernel
theorem dX4_ruleFor_1 : decode cX4_ruleFor 1 = .ok (.bipush 121, 2) := by decide +kernel
theorem dX4_ruleFor_3 : decode cX4_ruleFor 3 = .ok (.if_icmp .ne 26, 3) := by decide +kernel
theorem dX4_ruleFor_6 : decode cX4_ruleFor 6 = .ok (.aload_n 0, 1) := by decide +kernel
theorem dX4_ruleFor_7 : decode cX4_ruleFor 7 = .ok (.getfield 93, 3) := by decide +kernel
theorem dX4_ruleFor_10 : decode cX4_ruleFor 10 = .ok (.iconst 2, 1) := by decide +kernel
theorem dX4_ruleFor_11 : decode cX4_ruleFor 11 = .ok (.if_icmp .lt 18, 3) := by decide +kernel
theorem dX4_ruleFor_14 : decode cX4_ruleFor 14 = .ok (.iload_n 2, 1) := by decide +kernel
theorem dX4_ruleFor_15 : decode cX4_ruleFor 15 = .ok (.invokestatic 79, 3) := by decide +kernel
theorem dX4_ruleFor_18 : decode cX4_ruleFor 18 = .ok (.ifCond .ne 11, 3) := by decide +kernel
theorem dX4_ruleFor_21 : decode cX4_ruleFor 21 = .ok (.iload_n 3, 1) := by decide +kernel
theorem dX4_ruleFor_22 : decode cX4_ruleFor 22 = .ok (.bipush 105, 2) := by decide +kernel
theorem dX4_ruleFor_24 : decode cX4_ruleFor 24 = .ok (.if_icmp .eq 5, 3) := by decide +kernel
theorem dX4_ruleFor_27 : decode cX4_ruleFor 27 = .ok (.iconst 1, 1) := by decide +kernel
theorem dX4_ruleFor_28 : decode cX4_ruleFor 28 = .ok (.ireturn, 1) := by decide +kernel
theorem dX4_ruleFor_29 : decode cX4_ruleFor 29 = .ok (.iload 4, 2) := by decide +kernel
theorem dX4_ruleFor_31 : decode cX4_ruleFor 31 = .ok (.ifCond .eq 13, 3) := by decide +kernel
theorem dX4_ruleFor_34 : decode cX4_ruleFor 34 = .ok (.iload_n 1, 1) := by decide +kernel
theorem dX4_ruleFor_35 : decode cX4_ruleFor 35 = .ok (.iload_n 2, 1) := by decide +kernel
theorem dX4_ruleFor_36 : decode cX4_ruleFor 36 = .ok (.invokestatic 96, 3) := by decide +kernel
theorem dX4_ruleFor_39 : decode cX4_ruleFor 39 = .ok (.ifCond .eq 5, 3) := by decide +kernel
theorem dX4_ruleFor_42 : decode cX4_ruleFor 42 = .ok (.iconst 2, 1) := by decide +kernel
theorem dX4_ruleFor_43 : decode cX4_ruleFor 43 = .ok (.ireturn, 1) := by decide +kernel
theorem dX4_ruleFor_44 : decode cX4_ruleFor 44 = .ok (.iload_n 3, 1) := by decide +kernel
theorem dX4_ruleFor_45 : decode cX4_ruleFor 45 = .ok (.invokestatic 79, 3) := by decide +kernel
theorem dX4_ruleFor_48 : decode cX4_ruleFor 48 = .ok (.ifCond .ne 5, 3) := by decide +kernel
theorem dX4_ruleFor_51 : decode cX4_ruleFor 51 = .ok (.iconst 0, 1) := by decide +kernel
theorem dX4_ruleFor_52 : decode cX4_ruleFor 52 = .ok (.ireturn, 1) := by decide +kernel
theorem dX4_ruleFor_53 : decode cX4_ruleFor 53 = .ok (.iload_n 1, 1) := by decide +kernel
theorem dX4_ruleFor_54 : decode cX4_ruleFor 54 = .ok (.bipush 101, 2) := by decide +kernel
theorem dX4_ruleFor_56 : decode cX4_ruleFor 56 = .ok (.if_icmp .ne 31, 3) := by decide +kernel
theorem dX4_ruleFor_59 : decode cX4_ruleFor 59 = .ok (.aload_n 0, 1) := by decide +kernel
theorem dX4_ruleFor_60 : decode cX4_ruleFor 60 = .ok (.getfield 93, 3) := by decide +kernel
theorem dX4_ruleFor_63 : decode cX4_ruleFor 63 = .ok (.iconst 2, 1) := by decide +kernel
theorem dX4_ruleFor_64 : decode cX4_ruleFor 64 = .ok (.if_icmp .lt 23, 3) := by decide +kernel
theorem dX4_ruleFor_67 : decode cX4_ruleFor 67 = .ok (.iload_n 2, 1) := by decide +kernel
theorem dX4_ruleFor_68 : decode cX4_ruleFor 68 = .ok (.bipush 101, 2) := by decide +kernel
theorem dX4_ruleFor_70 : decode cX4_ruleFor 70 = .ok (.if_icmp .eq 17, 3) := by decide +kernel
theorem dX4_ruleFor_73 : decode cX4_ruleFor 73 = .ok (.iload_n 2, 1) := by decide +kernel
theorem dX4_ruleFor_74 : decode cX4_ruleFor 74 = .ok (.bipush 111, 2) := by decide +kernel
theorem dX4_ruleFor_76 : decode cX4_ruleFor 76 = .ok (.if_icmp .eq 11, 3) := by decide +kernel
theorem dX4_ruleFor_79 : decode cX4_ruleFor 79 = .ok (.iload_n 2, 1) := by decide +kernel
theorem dX4_ruleFor_80 : decode cX4_ruleFor 80 = .ok (.bipush 121, 2) := by decide +kernel
theorem dX4_ruleFor_82 : decode cX4_ruleFor 82 = .ok (.if_icmp .eq 5, 3) := by decide +kernel
theorem dX4_ruleFor_85 : decode cX4_ruleFor 85 = .ok (.iconst 3, 1) := by decide +kernel
theorem dX4_ruleFor_86 : decode cX4_ruleFor 86 = .ok (.ireturn, 1) := by decide +kernel
theorem dX4_ruleFor_87 : decode cX4_ruleFor 87 = .ok (.iload_n 1, 1) := by decide +kernel
theorem dX4_ruleFor_88 : decode cX4_ruleFor 88 = .ok (.bipush 119, 2) := by decide +kernel
theorem dX4_ruleFor_90 : decode cX4_ruleFor 90 = .ok (.if_icmp .eq 15, 3) := by decide +kernel
theorem dX4_ruleFor_93 : decode cX4_ruleFor 93 = .ok (.iload_n 1, 1) := by decide +kernel
theorem dX4_ruleFor_94 : decode cX4_ruleFor 94 = .ok (.bipush 120, 2) := by decide +kernel
theorem dX4_ruleFor_96 : decode cX4_ruleFor 96 = .ok (.if_icmp .eq 9, 3) := by decide +kernel
theorem dX4_ruleFor_99 : decode cX4_ruleFor 99 = .ok (.iload_n 1, 1) := by decide +kernel
theorem dX4_ruleFor_100 : decode cX4_ruleFor 100 = .ok (.bipush 121, 2) := by decide +kernel
theorem dX4_ruleFor_102 : decode cX4_ruleFor 102 = .ok (.if_icmp .ne 7, 3) := by decide +kernel
theorem dX4_ruleFor_105 : decode cX4_ruleFor 105 = .ok (.iconst 1, 1) := by decide +kernel
theorem dX4_ruleFor_106 : decode cX4_ruleFor 106 = .ok (.goto 4, 3) := by decide +kernel
theorem dX4_ruleFor_109 : decode cX4_ruleFor 109 = .ok (.iconst 0, 1) := by decide +kernel
theorem dX4_ruleFor_110 : decode cX4_ruleFor 110 = .ok (.istore 5, 2) := by decide +kernel
theorem dX4_ruleFor_112 : decode cX4_ruleFor 112 = .ok (.aload_n 0, 1) := by decide +kernel
theorem dX4_ruleFor_113 : decode cX4_ruleFor 113 = .ok (.getfield 93, 3) := by decide +kernel
theorem dX4_ruleFor_116 : decode cX4_ruleFor 116 = .ok (.iconst 3, 1) := by decide +kernel
theorem dX4_ruleFor_117 : decode cX4_ruleFor 117 = .ok (.if_icmp .lt 25, 3) := by decide +kernel
theorem dX4_ruleFor_120 : decode cX4_ruleFor 120 = .ok (.iload 5, 2) := by decide +kernel
theorem dX4_ruleFor_122 : decode cX4_ruleFor 122 = .ok (.ifCond .ne 20, 3) := by decide +kernel
theorem dX4_ruleFor_125 : decode cX4_ruleFor 125 = .ok (.iload_n 2, 1) := by decide +kernel
theorem dX4_ruleFor_126 : decode cX4_ruleFor 126 = .ok (.invokestatic 79, 3) := by decide +kernel
theorem dX4_ruleFor_129 : decode cX4_ruleFor 129 = .ok (.ifCond .eq 13, 3) := by decide +kernel
theorem dX4_ruleFor_132 : decode cX4_ruleFor 132 = .ok (.aload_n 0, 1) := by decide +kernel
theorem dX4_ruleFor_133 : decode cX4_ruleFor 133 = .ok (.getfield 100, 3) := by decide +kernel
theorem dX4_ruleFor_136 : decode cX4_ruleFor 136 = .ok (.iconst 1, 1) := by decide +kernel
theorem dX4_ruleFor_137 : decode cX4_ruleFor 137 = .ok (.if_icmp .ne 5, 3) := by decide +kernel
theorem dX4_ruleFor_140 : decode cX4_ruleFor 140 = .ok (.iconst 4, 1) := by decide +kernel
theorem dX4_ruleFor_141 : decode cX4_ruleFor 141 = .ok (.ireturn, 1) := by decide +kernel
theorem dX4_ruleFor_142 : decode cX4_ruleFor 142 = .ok (.iconst 0, 1) := by decide +kernel
theorem dX4_ruleFor_143 : decode cX4_ruleFor 143 = .ok (.ireturn, 1) := by decide +kernel
theorem dX4_hisses_0 : decode cX4_hisses 0 = .ok (.iload_n 0, 1) := by decide +kernel
theorem dX4_hisses_1 : decode cX4_hisses 1 = .ok (.bipush 104, 2) := by decide +kernel
theorem dX4_hisses_3 : decode cX4_hisses 3 = .ok (.if_icmp .ne 19, 3) := by decide +kernel
theorem dX4_hisses_6 : decode cX4_hisses 6 = .ok (.iload_n 1, 1) := by decide +kernel
theorem dX4_hisses_7 : decode cX4_hisses 7 = .ok (.bipush 99, 2) := by decide +kernel
theorem dX4_hisses_9 : decode cX4_hisses 9 = .ok (.if_icmp .eq 9, 3) := by decide +kernel
theorem dX4_hisses_12 : decode cX4_hisses 12 = .ok (.iload_n 1, 1) := by decide +kernel
theorem dX4_hisses_13 : decode cX4_hisses 13 = .ok (.bipush 115, 2) := by decide +kernel
theorem dX4_hisses_15 : decode cX4_hisses 15 = .ok (.if_icmp .ne 7, 3) := by decide +kernel
theorem dX4_hisses_18 : decode cX4_hisses 18 = .ok (.iconst 1, 1) := by decide +kernel
theorem dX4_hisses_19 : decode cX4_hisses 19 = .ok (.goto 4, 3) := by decide +kernel
theorem dX4_hisses_22 : decode cX4_hisses 22 = .ok (.iconst 0, 1) := by decide +kernel
theorem dX4_hisses_23 : decode cX4_hisses 23 = .ok (.istore_n 2, 1) := by decide +kernel
theorem dX4_hisses_24 : decode cX4_hisses 24 = .ok (.iload_n 0, 1) := by decide +kernel
theorem dX4_hisses_25 : decode cX4_hisses 25 = .ok (.bipush 115, 2) := by decide +kernel
theorem dX4_hisses_27 : decode cX4_hisses 27 = .ok (.if_icmp .eq 19, 3) := by decide +kernel
theorem dX4_hisses_30 : decode cX4_hisses 30 = .ok (.iload_n 0, 1) := by decide +kernel
theorem dX4_hisses_31 : decode cX4_hisses 31 = .ok (.bipush 120, 2) := by decide +kernel
theorem dX4_hisses_33 : decode cX4_hisses 33 = .ok (.if_icmp .eq 13, 3) := by decide +kernel
theorem dX4_hisses_36 : decode cX4_hisses 36 = .ok (.iload_n 0, 1) := by decide +kernel
theorem dX4_hisses_37 : decode cX4_hisses 37 = .ok (.bipush 122, 2) := by decide +kernel
theorem dX4_hisses_39 : decode cX4_hisses 39 = .ok (.if_icmp .eq 7, 3) := by decide +kernel
theorem dX4_hisses_42 : decode cX4_hisses 42 = .ok (.iload_n 2, 1) := by decide +kernel
theorem dX4_hisses_43 : decode cX4_hisses 43 = .ok (.ifCond .eq 7, 3) := by decide +kernel
theorem dX4_hisses_46 : decode cX4_hisses 46 = .ok (.iconst 1, 1) := by decide +kernel
theorem dX4_hisses_47 : decode cX4_hisses 47 = .ok (.goto 4, 3) := by decide +kernel
theorem dX4_hisses_50 : decode cX4_hisses 50 = .ok (.iconst 0, 1) := by decide +kernel
theorem dX4_hisses_51 : decode cX4_hisses 51 = .ok (.ireturn, 1) := by decide +kernel
set_option maxRecDepth 20000 in
theorem ggX4_endsByLetter_X10_isLetter : GoodIn wsX4_endsByLetter wsX10_isLetter := goodIn_r _ [5] (by decide +kernel) (by decide +kernel)
set_option maxRecDepth 20000 in
theorem gX4_endsByLetter_X10_isLetter_n103 : GoodIn wsX4_endsByLetter (wsX10_isLetter) := ggX4_endsByLetter_X10_isLetter
theorem dX4_endsByLetter_0 : decode cX4_endsByLetter 0 = .ok (.aload_n 0, 1) := by decide +kernel
theorem dX4_endsByLetter_1 : decode cX4_endsByLetter 1 = .ok (.getfield 25, 3) := by decide +kernel
theorem dX4_endsByLetter_4 : decode cX4_endsByLetter 4 = .ok (.ifCond .le 24, 3) := by decide +kernel
theorem dX4_endsByLetter_7 : decode cX4_endsByLetter 7 = .ok (.aload_n 0, 1) := by decide +kernel
theorem dX4_endsByLetter_8 : decode cX4_endsByLetter 8 = .ok (.getfield 21, 3) := by decide +kernel
theorem dX4_endsByLetter_11 : decode cX4_endsByLetter 11 = .ok (.aload_n 0, 1) := by decide +kernel
theorem dX4_endsByLetter_12 : decode cX4_endsByLetter 12 = .ok (.getfield 25, 3) := by decide +kernel
theorem dX4_endsByLetter_15 : decode cX4_endsByLetter 15 = .ok (.iconst 1, 1) := by decide +kernel
theorem dX4_endsByLetter_16 : decode cX4_endsByLetter 16 = .ok (.isub, 1) := by decide +kernel
theorem dX4_endsByLetter_17 : decode cX4_endsByLetter 17 = .ok (.baload, 1) := by decide +kernel
theorem dX4_endsByLetter_18 : decode cX4_endsByLetter 18 = .ok (.invokestatic 103, 3) := by decide +kernel
theorem dX4_endsByLetter_21 : decode cX4_endsByLetter 21 = .ok (.ifCond .eq 7, 3) := by decide +kernel
theorem dX4_endsByLetter_24 : decode cX4_endsByLetter 24 = .ok (.iconst 1, 1) := by decide +kernel
theorem dX4_endsByLetter_25 : decode cX4_endsByLetter 25 = .ok (.goto 4, 3) := by decide +kernel
theorem dX4_endsByLetter_28 : decode cX4_endsByLetter 28 = .ok (.iconst 0, 1) := by decide +kernel
theorem dX4_endsByLetter_29 : decode cX4_endsByLetter 29 = .ok (.ireturn, 1) := by decide +kernel
set_option maxRecDepth 20000 in
theorem ggX4_measureLastWord_X10_isLetter : GoodIn wsX4_measureLastWord wsX10_isLetter := goodIn_r _ [7] (by decide +kernel) (by decide +kernel)
set_option maxRecDepth 20000 in
theorem gX4_measureLastWord_X10_isLetter_n103 : GoodIn wsX4_measureLastWord (wsX10_isLetter) := ggX4_measureLastWord_X10_isLetter
set_option maxRecDepth 20000 in
theorem ggX4_measureLastWord_X10_smallOf : GoodIn wsX4_measureLastWord wsX10_smallOf := goodIn_r _ [9] (by decide +kernel) (by decide +kernel)
set_option maxRecDepth 20000 in
theorem gX4_measureLastWord_X10_smallOf_n106 : GoodIn wsX4_measureLastWord (wsX10_smallOf) := ggX4_measureLastWord_X10_smallOf
set_option maxRecDepth 20000 in
theorem ggX4_measureLastWord_X10_isVowel : GoodIn wsX4_measureLastWord wsX10_isVowel := goodIn_r _ [11] (by decide +kernel) (by decide +kernel)
set_option maxRecDepth 20000 in
theorem gX4_measureLastWord_X10_isVowel_n79 : GoodIn wsX4_measureLastWord (wsX10_isVowel) := ggX4_measureLastWord_X10_isVowel
theorem dX4_measureLastWord_0 : decode cX4_measureLastWord 0 = .ok (.iload_n 1, 1) := by decide +kernel
theorem dX4_measureLastWord_1 : decode cX4_measureLastWord 1 = .ok (.ifCond .eq 7, 3) := by decide +kernel
theorem dX4_measureLastWord_4 : decode cX4_measureLastWord 4 = .ok (.iconst 2, 1) := by decide +kernel
theorem dX4_measureLastWord_5 : decode cX4_measureLastWord 5 = .ok (.goto 4, 3) := by decide +kernel
theorem dX4_measureLastWord_8 : decode cX4_measureLastWord 8 = .ok (.iconst 0, 1) := by decide +kernel
theorem dX4_measureLastWord_9 : decode cX4_measureLastWord 9 = .ok (.istore_n 2, 1) := by decide +kernel
theorem dX4_measureLastWord_10 : decode cX4_measureLastWord 10 = .ok (.aload_n 0, 1) := by decide +kernel
theorem dX4_measureLastWord_11 : decode cX4_measureLastWord 11 = .ok (.iconst 0, 1) := by decide +kernel
theorem dX4_measureLastWord_12 : decode cX4_measureLastWord 12 = .ok (.putfield 93, 3) := by decide +kernel
theorem dX4_measureLastWord_15 : decode cX4_measureLastWord 15 = .ok (.aload_n 0, 1) := by decide +kernel
theorem dX4_measureLastWord_16 : decode cX4_measureLastWord 16 = .ok (.iconst 0, 1) := by decide +kernel
theorem dX4_measureLastWord_17 : decode cX4_measureLastWord 17 = .ok (.putfield 100, 3) := by decide +kernel
theorem dX4_measureLastWord_20 : decode cX4_measureLastWord 20 = .ok (.aload_n 0, 1) := by decide +kernel
theorem dX4_measureLastWord_21 : decode cX4_measureLastWord 21 = .ok (.getfield 25, 3) := by decide +kernel
theorem dX4_measureLastWord_24 : decode cX4_measureLastWord 24 = .ok (.iconst 1, 1) := by decide +kernel
theorem dX4_measureLastWord_25 : decode cX4_measureLastWord 25 = .ok (.isub, 1) := by decide +kernel
theorem dX4_measureLastWord_26 : decode cX4_measureLastWord 26 = .ok (.istore_n 3, 1) := by decide +kernel
theorem dX4_measureLastWord_27 : decode cX4_measureLastWord 27 = .ok (.iload_n 3, 1) := by decide +kernel
theorem dX4_measureLastWord_28 : decode cX4_measureLastWord 28 = .ok (.ifCond .lt 73, 3) := by decide +kernel
theorem dX4_measureLastWord_31 : decode cX4_measureLastWord 31 = .ok (.aload_n 0, 1) := by decide +kernel
theorem dX4_measureLastWord_32 : decode cX4_measureLastWord 32 = .ok (.getfield 21, 3) := by decide +kernel
theorem dX4_measureLastWord_35 : decode cX4_measureLastWord 35 = .ok (.iload_n 3, 1) := by decide +kernel
theorem dX4_measureLastWord_36 : decode cX4_measureLastWord 36 = .ok (.baload, 1) := by decide +kernel
theorem dX4_measureLastWord_37 : decode cX4_measureLastWord 37 = .ok (.invokestatic 103, 3) := by decide +kernel
theorem dX4_measureLastWord_40 : decode cX4_measureLastWord 40 = .ok (.ifCond .eq 61, 3) := by decide +kernel
theorem dX4_measureLastWord_43 : decode cX4_measureLastWord 43 = .ok (.aload_n 0, 1) := by decide +kernel
theorem dX4_measureLastWord_44 : decode cX4_measureLastWord 44 = .ok (.getfield 93, 3) := by decide +kernel
theorem dX4_measureLastWord_47 : decode cX4_measureLastWord 47 = .ok (.iconst 3, 1) := by decide +kernel
theorem dX4_measureLastWord_48 : decode cX4_measureLastWord 48 = .ok (.if_icmp .lt 12, 3) := by decide +kernel
theorem dX4_measureLastWord_51 : decode cX4_measureLastWord 51 = .ok (.aload_n 0, 1) := by decide +kernel
theorem dX4_measureLastWord_52 : decode cX4_measureLastWord 52 = .ok (.getfield 100, 3) := by decide +kernel
theorem dX4_measureLastWord_55 : decode cX4_measureLastWord 55 = .ok (.iload_n 2, 1) := by decide +kernel
theorem dX4_measureLastWord_56 : decode cX4_measureLastWord 56 = .ok (.if_icmp .lt 4, 3) := by decide +kernel
theorem dX4_measureLastWord_59 : decode cX4_measureLastWord 59 = .ok (.return_, 1) := by decide +kernel
theorem dX4_measureLastWord_60 : decode cX4_measureLastWord 60 = .ok (.aload_n 0, 1) := by decide +kernel
theorem dX4_measureLastWord_61 : decode cX4_measureLastWord 61 = .ok (.dup, 1) := by decide +kernel
theorem dX4_measureLastWord_62 : decode cX4_measureLastWord 62 = .ok (.getfield 93, 3) := by decide +kernel
theorem dX4_measureLastWord_65 : decode cX4_measureLastWord 65 = .ok (.iconst 1, 1) := by decide +kernel
theorem dX4_measureLastWord_66 : decode cX4_measureLastWord 66 = .ok (.iadd, 1) := by decide +kernel
theorem dX4_measureLastWord_67 : decode cX4_measureLastWord 67 = .ok (.putfield 93, 3) := by decide +kernel
theorem dX4_measureLastWord_70 : decode cX4_measureLastWord 70 = .ok (.aload_n 0, 1) := by decide +kernel
theorem dX4_measureLastWord_71 : decode cX4_measureLastWord 71 = .ok (.getfield 21, 3) := by decide +kernel
theorem dX4_measureLastWord_74 : decode cX4_measureLastWord 74 = .ok (.iload_n 3, 1) := by decide +kernel
theorem dX4_measureLastWord_75 : decode cX4_measureLastWord 75 = .ok (.baload, 1) := by decide +kernel
theorem dX4_measureLastWord_76 : decode cX4_measureLastWord 76 = .ok (.invokestatic 106, 3) := by decide +kernel
theorem dX4_measureLastWord_79 : decode cX4_measureLastWord 79 = .ok (.invokestatic 79, 3) := by decide +kernel
theorem dX4_measureLastWord_82 : decode cX4_measureLastWord 82 = .ok (.ifCond .eq 13, 3) := by decide +kernel
theorem dX4_measureLastWord_85 : decode cX4_measureLastWord 85 = .ok (.aload_n 0, 1) := by decide +kernel
theorem dX4_measureLastWord_86 : decode cX4_measureLastWord 86 = .ok (.dup, 1) := by decide +kernel
theorem dX4_measureLastWord_87 : decode cX4_measureLastWord 87 = .ok (.getfield 100, 3) := by decide +kernel
theorem dX4_measureLastWord_90 : decode cX4_measureLastWord 90 = .ok (.iconst 1, 1) := by decide +kernel
theorem dX4_measureLastWord_91 : decode cX4_measureLastWord 91 = .ok (.iadd, 1) := by decide +kernel
theorem dX4_measureLastWord_92 : decode cX4_measureLastWord 92 = .ok (.putfield 100, 3) := by decide +kernel
theorem dX4_measureLastWord_95 : decode cX4_measureLastWord 95 = .ok (.iinc 3 (-1), 3) := by decide +kernel
theorem dX4_measureLastWord_98 : decode cX4_measureLastWord 98 = .ok (.goto (-71), 3) := by decide +kernel
theorem dX4_measureLastWord_101 : decode cX4_measureLastWord 101 = .ok (.return_, 1) := by decide +kernel
set_option maxRecDepth 20000 in
theorem ggX4_smallFromEnd_X10_smallOf : GoodIn wsX4_smallFromEnd wsX10_smallOf := goodIn_r _ [6] (by decide +kernel) (by decide +kernel)
set_option maxRecDepth 20000 in
theorem gX4_smallFromEnd_X10_smallOf_n106 : GoodIn wsX4_smallFromEnd (wsX10_smallOf) := ggX4_smallFromEnd_X10_smallOf
theorem dX4_smallFromEnd_0 : decode cX4_smallFromEnd 0 = .ok (.aload_n 0, 1) := by decide +kernel
theorem dX4_smallFromEnd_1 : decode cX4_smallFromEnd 1 = .ok (.getfield 25, 3) := by decide +kernel
theorem dX4_smallFromEnd_4 : decode cX4_smallFromEnd 4 = .ok (.iconst 1, 1) := by decide +kernel
theorem dX4_smallFromEnd_5 : decode cX4_smallFromEnd 5 = .ok (.isub, 1) := by decide +kernel
theorem dX4_smallFromEnd_6 : decode cX4_smallFromEnd 6 = .ok (.iload_n 1, 1) := by decide +kernel
theorem dX4_smallFromEnd_7 : decode cX4_smallFromEnd 7 = .ok (.isub, 1) := by decide +kernel
theorem dX4_smallFromEnd_8 : decode cX4_smallFromEnd 8 = .ok (.istore_n 2, 1) := by decide +kernel
theorem dX4_smallFromEnd_9 : decode cX4_smallFromEnd 9 = .ok (.iload_n 1, 1) := by decide +kernel
theorem dX4_smallFromEnd_10 : decode cX4_smallFromEnd 10 = .ok (.aload_n 0, 1) := by decide +kernel
theorem dX4_smallFromEnd_11 : decode cX4_smallFromEnd 11 = .ok (.getfield 93, 3) := by decide +kernel
theorem dX4_smallFromEnd_14 : decode cX4_smallFromEnd 14 = .ok (.if_icmp .ge 27, 3) := by decide +kernel
theorem dX4_smallFromEnd_17 : decode cX4_smallFromEnd 17 = .ok (.iload_n 2, 1) := by decide +kernel
theorem dX4_smallFromEnd_18 : decode cX4_smallFromEnd 18 = .ok (.ifCond .lt 23, 3) := by decide +kernel
theorem dX4_smallFromEnd_21 : decode cX4_smallFromEnd 21 = .ok (.iload_n 2, 1) := by decide +kernel
theorem dX4_smallFromEnd_22 : decode cX4_smallFromEnd 22 = .ok (.aload_n 0, 1) := by decide +kernel
theorem dX4_smallFromEnd_23 : decode cX4_smallFromEnd 23 = .ok (.getfield 25, 3) := by decide +kernel
theorem dX4_smallFromEnd_26 : decode cX4_smallFromEnd 26 = .ok (.if_icmp .ge 15, 3) := by decide +kernel
theorem dX4_smallFromEnd_29 : decode cX4_smallFromEnd 29 = .ok (.aload_n 0, 1) := by decide +kernel
theorem dX4_smallFromEnd_30 : decode cX4_smallFromEnd 30 = .ok (.getfield 21, 3) := by decide +kernel
theorem dX4_smallFromEnd_33 : decode cX4_smallFromEnd 33 = .ok (.iload_n 2, 1) := by decide +kernel
theorem dX4_smallFromEnd_34 : decode cX4_smallFromEnd 34 = .ok (.baload, 1) := by decide +kernel
theorem dX4_smallFromEnd_35 : decode cX4_smallFromEnd 35 = .ok (.invokestatic 106, 3) := by decide +kernel
theorem dX4_smallFromEnd_38 : decode cX4_smallFromEnd 38 = .ok (.goto 4, 3) := by decide +kernel
theorem dX4_smallFromEnd_41 : decode cX4_smallFromEnd 41 = .ok (.iconst (-1), 1) := by decide +kernel
theorem dX4_smallFromEnd_42 : decode cX4_smallFromEnd 42 = .ok (.ireturn, 1) := by decide +kernel
set_option maxRecDepth 20000 in
theorem ggX4_writeMark_X0_letterAt : GoodIn wsX4_writeMark wsX0_letterAt := goodIn_r _ [7, 8, 9, 10, 25, 26, 27, 28, 29, 30] (by decide +kernel) (by decide +kernel)
set_option maxRecDepth 20000 in
theorem gX4_writeMark_X0_letterAt : GoodIn wsX4_writeMark (wsV RX4 72 RX0 yX0_letterAt wsX0_letterAt) := goodIn_app (goodIn_of _ (by decide +kernel)) ggX4_writeMark_X0_letterAt
set_option maxRecDepth 20000 in
theorem ggX4_writeMark_X4_put : GoodIn wsX4_writeMark wsX4_put := goodIn_r _ [15, 16, 17, 18, 19, 20, 21, 22, 23, 24] (by decide +kernel) (by decide +kernel)
set_option maxRecDepth 20000 in
theorem gX4_writeMark_X4_put : GoodIn wsX4_writeMark (wsV RX4 47 RX4 yX4_put wsX4_put) := goodIn_app (goodIn_of _ (by decide +kernel)) ggX4_writeMark_X4_put
theorem dX4_writeMark_0 : decode cX4_writeMark 0 = .ok (.aload_n 0, 1) := by decide +kernel
theorem dX4_writeMark_1 : decode cX4_writeMark 1 = .ok (.aload_n 0, 1) := by decide +kernel
theorem dX4_writeMark_2 : decode cX4_writeMark 2 = .ok (.getfield 9, 3) := by decide +kernel
theorem dX4_writeMark_5 : decode cX4_writeMark 5 = .ok (.iload_n 1, 1) := by decide +kernel
theorem dX4_writeMark_6 : decode cX4_writeMark 6 = .ok (.iconst 0, 1) := by decide +kernel
theorem dX4_writeMark_7 : decode cX4_writeMark 7 = .ok (.invokevirtual 72, 3) := by decide +kernel
theorem dX4_writeMark_10 : decode cX4_writeMark 10 = .ok (.invokevirtual 47, 3) := by decide +kernel
theorem dX4_writeMark_13 : decode cX4_writeMark 13 = .ok (.aload_n 0, 1) := by decide +kernel
theorem dX4_writeMark_14 : decode cX4_writeMark 14 = .ok (.iconst 0, 1) := by decide +kernel
theorem dX4_writeMark_15 : decode cX4_writeMark 15 = .ok (.putfield 32, 3) := by decide +kernel
theorem dX4_writeMark_18 : decode cX4_writeMark 18 = .ok (.return_, 1) := by decide +kernel
set_option maxRecDepth 20000 in
theorem ggX4_putBlank_X4_put : GoodIn wsX4_putBlank wsX4_put := goodIn_r _ [7, 1, 8, 9, 10, 11, 12, 13, 14, 15] (by decide +kernel) (by decide +kernel)
set_option maxRecDepth 20000 in
theorem gX4_putBlank_X4_put : GoodIn wsX4_putBlank (wsV RX4 47 RX4 yX4_put wsX4_put) := goodIn_app (goodIn_of _ (by decide +kernel)) ggX4_putBlank_X4_put
theorem dX4_putBlank_0 : decode cX4_putBlank 0 = .ok (.aload_n 0, 1) := by decide +kernel
theorem dX4_putBlank_1 : decode cX4_putBlank 1 = .ok (.getfield 25, 3) := by decide +kernel
theorem dX4_putBlank_4 : decode cX4_putBlank 4 = .ok (.ifCond .le 16, 3) := by decide +kernel
theorem dX4_putBlank_7 : decode cX4_putBlank 7 = .ok (.aload_n 0, 1) := by decide +kernel
theorem dX4_putBlank_8 : decode cX4_putBlank 8 = .ok (.getfield 32, 3) := by decide +kernel
theorem dX4_putBlank_11 : decode cX4_putBlank 11 = .ok (.ifCond .ne 9, 3) := by decide +kernel
theorem dX4_putBlank_14 : decode cX4_putBlank 14 = .ok (.aload_n 0, 1) := by decide +kernel
theorem dX4_putBlank_15 : decode cX4_putBlank 15 = .ok (.bipush 32, 2) := by decide +kernel
theorem dX4_putBlank_17 : decode cX4_putBlank 17 = .ok (.invokevirtual 47, 3) := by decide +kernel
theorem dX4_putBlank_20 : decode cX4_putBlank 20 = .ok (.aload_n 0, 1) := by decide +kernel
theorem dX4_putBlank_21 : decode cX4_putBlank 21 = .ok (.iconst 0, 1) := by decide +kernel
theorem dX4_putBlank_22 : decode cX4_putBlank 22 = .ok (.putfield 32, 3) := by decide +kernel
theorem dX4_putBlank_25 : decode cX4_putBlank 25 = .ok (.return_, 1) := by decide +kernel
theorem dX4_put_0 : decode cX4_put 0 = .ok (.aload_n 0, 1) := by decide +kernel
theorem dX4_put_1 : decode cX4_put 1 = .ok (.getfield 25, 3) := by decide +kernel
theorem dX4_put_4 : decode cX4_put 4 = .ok (.aload_n 0, 1) := by decide +kernel
theorem dX4_put_5 : decode cX4_put 5 = .ok (.getfield 21, 3) := by decide +kernel
theorem dX4_put_8 : decode cX4_put 8 = .ok (.arraylength, 1) := by decide +kernel
theorem dX4_put_9 : decode cX4_put 9 = .ok (.if_icmp .ge 24, 3) := by decide +kernel
theorem dX4_put_12 : decode cX4_put 12 = .ok (.aload_n 0, 1) := by decide +kernel
theorem dX4_put_13 : decode cX4_put 13 = .ok (.getfield 21, 3) := by decide +kernel
theorem dX4_put_16 : decode cX4_put 16 = .ok (.aload_n 0, 1) := by decide +kernel
theorem dX4_put_17 : decode cX4_put 17 = .ok (.getfield 25, 3) := by decide +kernel
theorem dX4_put_20 : decode cX4_put 20 = .ok (.iload_n 1, 1) := by decide +kernel
theorem dX4_put_21 : decode cX4_put 21 = .ok (.i2b, 1) := by decide +kernel
theorem dX4_put_22 : decode cX4_put 22 = .ok (.bastore, 1) := by decide +kernel
theorem dX4_put_23 : decode cX4_put 23 = .ok (.aload_n 0, 1) := by decide +kernel
theorem dX4_put_24 : decode cX4_put 24 = .ok (.dup, 1) := by decide +kernel
theorem dX4_put_25 : decode cX4_put 25 = .ok (.getfield 25, 3) := by decide +kernel
theorem dX4_put_28 : decode cX4_put 28 = .ok (.iconst 1, 1) := by decide +kernel
theorem dX4_put_29 : decode cX4_put 29 = .ok (.iadd, 1) := by decide +kernel
theorem dX4_put_30 : decode cX4_put 30 = .ok (.putfield 25, 3) := by decide +kernel
theorem dX4_put_33 : decode cX4_put 33 = .ok (.return_, 1) := by decide +kernel
set_option maxRecDepth 20000 in
theorem ggX5_init_X1_init : GoodIn wsX5_init wsX1_init := goodIn_r _ [26, 27, 2, 3, 6, 28, 29, 30, 31, 32, 73, 74, 75, 76, 77] (by decide +kernel) (by decide +kernel)
set_option maxRecDepth 20000 in
theorem gX5_init_X1_init : GoodIn wsX5_init (wsX1_init) := ggX5_init_X1_init
set_option maxRecDepth 20000 in
theorem ggX5_init_X3_init : GoodIn wsX5_init wsX3_init := goodIn_r _ [35, 36, 2, 3, 37, 38, 39, 40, 41, 42, 43, 44, 45, 46, 47, 48, 49, 50, 4, 51, 78, 79, 80, 81, 88, 89, 90, 91, 92, 93, 94] (by decide +kernel) (by decide +kernel)
set_option maxRecDepth 20000 in
theorem gX5_init_X3_init : GoodIn wsX5_init (wsX3_init) := ggX5_init_X3_init
set_option maxRecDepth 20000 in
theorem ggX5_init_X6_init : GoodIn wsX5_init wsX6_init := goodIn_r _ [54, 55, 2, 3, 6, 56, 57, 58, 59, 82, 83, 84, 85, 86, 87] (by decide +kernel) (by decide +kernel)
set_option maxRecDepth 20000 in
theorem gX5_init_X6_init : GoodIn wsX5_init (wsX6_init) := ggX5_init_X6_init
theorem dX5_init_0 : decode cX5_init 0 = .ok (.aload_n 0, 1) := by decide +kernel
theorem dX5_init_1 : decode cX5_init 1 = .ok (.invokespecial 3, 3) := by decide +kernel
theorem dX5_init_4 : decode cX5_init 4 = .ok (.aload_n 0, 1) := by decide +kernel
theorem dX5_init_5 : decode cX5_init 5 = .ok (.bipush 60, 2) := by decide +kernel
theorem dX5_init_7 : decode cX5_init 7 = .ok (.newarray .byte, 2) := by decide +kernel
theorem dX5_init_9 : decode cX5_init 9 = .ok (.putfield 9, 3) := by decide +kernel
theorem dX5_init_12 : decode cX5_init 12 = .ok (.aload_n 0, 1) := by decide +kernel
theorem dX5_init_13 : decode cX5_init 13 = .ok (.bipush 60, 2) := by decide +kernel
theorem dX5_init_15 : decode cX5_init 15 = .ok (.newarray .int, 2) := by decide +kernel
theorem dX5_init_17 : decode cX5_init 17 = .ok (.putfield 15, 3) := by decide +kernel
theorem dX5_init_20 : decode cX5_init 20 = .ok (.aload_n 0, 1) := by decide +kernel
theorem dX5_init_21 : decode cX5_init 21 = .ok (.bipush 60, 2) := by decide +kernel
theorem dX5_init_23 : decode cX5_init 23 = .ok (.newarray .int, 2) := by decide +kernel
theorem dX5_init_25 : decode cX5_init 25 = .ok (.putfield 19, 3) := by decide +kernel
theorem dX5_init_28 : decode cX5_init 28 = .ok (.aload_n 0, 1) := by decide +kernel
theorem dX5_init_29 : decode cX5_init 29 = .ok (.iconst (-1), 1) := by decide +kernel
theorem dX5_init_30 : decode cX5_init 30 = .ok (.putfield 22, 3) := by decide +kernel
theorem dX5_init_33 : decode cX5_init 33 = .ok (.aload_n 0, 1) := by decide +kernel
theorem dX5_init_34 : decode cX5_init 34 = .ok (.aload_n 1, 1) := by decide +kernel
theorem dX5_init_35 : decode cX5_init 35 = .ok (.putfield 26, 3) := by decide +kernel
theorem dX5_init_38 : decode cX5_init 38 = .ok (.aload_n 0, 1) := by decide +kernel
theorem dX5_init_39 : decode cX5_init 39 = .ok (.new 30, 3) := by decide +kernel
theorem dX5_init_42 : decode cX5_init 42 = .ok (.dup, 1) := by decide +kernel
theorem dX5_init_43 : decode cX5_init 43 = .ok (.aload_n 1, 1) := by decide +kernel
theorem dX5_init_44 : decode cX5_init 44 = .ok (.iconst 1, 1) := by decide +kernel
theorem dX5_init_45 : decode cX5_init 45 = .ok (.iconst 0, 1) := by decide +kernel
theorem dX5_init_46 : decode cX5_init 46 = .ok (.invokespecial 32, 3) := by decide +kernel
theorem dX5_init_49 : decode cX5_init 49 = .ok (.putfield 35, 3) := by decide +kernel
theorem dX5_init_52 : decode cX5_init 52 = .ok (.aload_n 0, 1) := by decide +kernel
theorem dX5_init_53 : decode cX5_init 53 = .ok (.new 30, 3) := by decide +kernel
theorem dX5_init_56 : decode cX5_init 56 = .ok (.dup, 1) := by decide +kernel
theorem dX5_init_57 : decode cX5_init 57 = .ok (.aload_n 1, 1) := by decide +kernel
theorem dX5_init_58 : decode cX5_init 58 = .ok (.iconst 5, 1) := by decide +kernel
theorem dX5_init_59 : decode cX5_init 59 = .ok (.iconst 5, 1) := by decide +kernel
theorem dX5_init_60 : decode cX5_init 60 = .ok (.invokespecial 32, 3) := by decide +kernel
theorem dX5_init_63 : decode cX5_init 63 = .ok (.putfield 39, 3) := by decide +kernel
theorem dX5_init_66 : decode cX5_init 66 = .ok (.aload_n 0, 1) := by decide +kernel
theorem dX5_init_67 : decode cX5_init 67 = .ok (.new 42, 3) := by decide +kernel
theorem dX5_init_70 : decode cX5_init 70 = .ok (.dup, 1) := by decide +kernel
theorem dX5_init_71 : decode cX5_init 71 = .ok (.aload_n 1, 1) := by decide +kernel
theorem dX5_init_72 : decode cX5_init 72 = .ok (.invokespecial 44, 3) := by decide +kernel
theorem dX5_init_75 : decode cX5_init 75 = .ok (.putfield 47, 3) := by decide +kernel
theorem dX5_init_78 : decode cX5_init 78 = .ok (.aload_n 0, 1) := by decide +kernel
theorem dX5_init_79 : decode cX5_init 79 = .ok (.new 51, 3) := by decide +kernel
theorem dX5_init_82 : decode cX5_init 82 = .ok (.dup, 1) := by decide +kernel
theorem dX5_init_83 : decode cX5_init 83 = .ok (.aload_n 1, 1) := by decide +kernel
theorem dX5_init_84 : decode cX5_init 84 = .ok (.invokespecial 53, 3) := by decide +kernel
theorem dX5_init_87 : decode cX5_init 87 = .ok (.putfield 54, 3) := by decide +kernel
theorem dX5_init_90 : decode cX5_init 90 = .ok (.return_, 1) := by decide +kernel
theorem dX5_plannedEntries_0 : decode cX5_plannedEntries 0 = .ok (.aload_n 0, 1) := by decide +kernel
theorem dX5_plannedEntries_1 : decode cX5_plannedEntries 1 = .ok (.getfield 58, 3) := by decide +kernel
theorem dX5_plannedEntries_4 : decode cX5_plannedEntries 4 = .ok (.ireturn, 1) := by decide +kernel
theorem dX5_plannedStrokes_0 : decode cX5_plannedStrokes 0 = .ok (.aload_n 0, 1) := by decide +kernel
theorem dX5_plannedStrokes_1 : decode cX5_plannedStrokes 1 = .ok (.getfield 61, 3) := by decide +kernel
theorem dX5_plannedStrokes_4 : decode cX5_plannedStrokes 4 = .ok (.ireturn, 1) := by decide +kernel
theorem dX5_plannedAt_0 : decode cX5_plannedAt 0 = .ok (.iload_n 1, 1) := by decide +kernel
theorem dX5_plannedAt_1 : decode cX5_plannedAt 1 = .ok (.ifCond .lt 20, 3) := by decide +kernel
theorem dX5_plannedAt_4 : decode cX5_plannedAt 4 = .ok (.iload_n 1, 1) := by decide +kernel
theorem dX5_plannedAt_5 : decode cX5_plannedAt 5 = .ok (.aload_n 0, 1) := by decide +kernel
theorem dX5_plannedAt_6 : decode cX5_plannedAt 6 = .ok (.getfield 58, 3) := by decide +kernel
theorem dX5_plannedAt_9 : decode cX5_plannedAt 9 = .ok (.if_icmp .ge 12, 3) := by decide +kernel
theorem dX5_plannedAt_12 : decode cX5_plannedAt 12 = .ok (.aload_n 0, 1) := by decide +kernel
theorem dX5_plannedAt_13 : decode cX5_plannedAt 13 = .ok (.getfield 19, 3) := by decide +kernel
theorem dX5_plannedAt_16 : decode cX5_plannedAt 16 = .ok (.iload_n 1, 1) := by decide +kernel
theorem dX5_plannedAt_17 : decode cX5_plannedAt 17 = .ok (.iaload, 1) := by decide +kernel
theorem dX5_plannedAt_18 : decode cX5_plannedAt 18 = .ok (.goto 4, 3) := by decide +kernel
theorem dX5_plannedAt_21 : decode cX5_plannedAt 21 = .ok (.iconst (-1), 1) := by decide +kernel
theorem dX5_plannedAt_22 : decode cX5_plannedAt 22 = .ok (.ireturn, 1) := by decide +kernel
theorem dX5_clearness_0 : decode cX5_clearness 0 = .ok (.aload_n 0, 1) := by decide +kernel
theorem dX5_clearness_1 : decode cX5_clearness 1 = .ok (.getfield 22, 3) := by decide +kernel
theorem dX5_clearness_4 : decode cX5_clearness 4 = .ok (.ireturn, 1) := by decide +kernel
set_option maxRecDepth 20000 in
theorem ggX5_take_X8_byteAt : GoodIn wsX5_take wsX8_byteAt := goodIn_r _ [7, 8, 9, 23, 24] (by decide +kernel) (by decide +kernel)
set_option maxRecDepth 20000 in
theorem gX5_take_X8_byteAt : GoodIn wsX5_take (wsV RX5 67 RX8 yX8_byteAt wsX8_byteAt) := goodIn_app (goodIn_of _ (by decide +kernel)) ggX5_take_X8_byteAt
theorem dX5_take_0 : decode cX5_take 0 = .ok (.aload_n 0, 1) := by decide +kernel
theorem dX5_take_1 : decode cX5_take 1 = .ok (.iconst 0, 1) := by decide +kernel
theorem dX5_take_2 : decode cX5_take 2 = .ok (.putfield 64, 3) := by decide +kernel
theorem dX5_take_5 : decode cX5_take 5 = .ok (.iconst 0, 1) := by decide +kernel
theorem dX5_take_6 : decode cX5_take 6 = .ok (.istore_n 3, 1) := by decide +kernel
theorem dX5_take_7 : decode cX5_take 7 = .ok (.iload_n 3, 1) := by decide +kernel
theorem dX5_take_8 : decode cX5_take 8 = .ok (.iload_n 2, 1) := by decide +kernel
theorem dX5_take_9 : decode cX5_take 9 = .ok (.if_icmp .ge 37, 3) := by decide +kernel
theorem dX5_take_12 : decode cX5_take 12 = .ok (.iload_n 3, 1) := by decide +kernel
theorem dX5_take_13 : decode cX5_take 13 = .ok (.bipush 60, 2) := by decide +kernel
theorem dX5_take_15 : decode cX5_take 15 = .ok (.if_icmp .ge 31, 3) := by decide +kernel
theorem dX5_take_18 : decode cX5_take 18 = .ok (.aload_n 0, 1) := by decide +kernel
theorem dX5_take_19 : decode cX5_take 19 = .ok (.getfield 9, 3) := by decide +kernel
theorem dX5_take_22 : decode cX5_take 22 = .ok (.iload_n 3, 1) := by decide +kernel
theorem dX5_take_23 : decode cX5_take 23 = .ok (.aload_n 1, 1) := by decide +kernel
theorem dX5_take_24 : decode cX5_take 24 = .ok (.iload_n 3, 1) := by decide +kernel
theorem dX5_take_25 : decode cX5_take 25 = .ok (.invokevirtual 67, 3) := by decide +kernel
theorem dX5_take_28 : decode cX5_take 28 = .ok (.i2b, 1) := by decide +kernel
theorem dX5_take_29 : decode cX5_take 29 = .ok (.bastore, 1) := by decide +kernel
theorem dX5_take_30 : decode cX5_take 30 = .ok (.aload_n 0, 1) := by decide +kernel
theorem dX5_take_31 : decode cX5_take 31 = .ok (.dup, 1) := by decide +kernel
theorem dX5_take_32 : decode cX5_take 32 = .ok (.getfield 64, 3) := by decide +kernel
theorem dX5_take_35 : decode cX5_take 35 = .ok (.iconst 1, 1) := by decide +kernel
theorem dX5_take_36 : decode cX5_take 36 = .ok (.iadd, 1) := by decide +kernel
theorem dX5_take_37 : decode cX5_take 37 = .ok (.putfield 64, 3) := by decide +kernel
theorem dX5_take_40 : decode cX5_take 40 = .ok (.iinc 3 1, 3) := by decide +kernel
theorem dX5_take_43 : decode cX5_take 43 = .ok (.goto (-36), 3) := by decide +kernel
theorem dX5_take_46 : decode cX5_take 46 = .ok (.return_, 1) := by decide +kernel
set_option maxRecDepth 20000 in
theorem ggX5_tookWords_X10_isSmall : GoodIn wsX5_tookWords wsX10_isSmall := goodIn_r _ [5] (by decide +kernel) (by decide +kernel)
set_option maxRecDepth 20000 in
theorem gX5_tookWords_X10_isSmall_n73 : GoodIn wsX5_tookWords (wsX10_isSmall) := ggX5_tookWords_X10_isSmall
theorem dX5_tookWords_0 : decode cX5_tookWords 0 = .ok (.iconst 0, 1) := by decide +kernel
theorem dX5_tookWords_1 : decode cX5_tookWords 1 = .ok (.istore_n 1, 1) := by decide +kernel
theorem dX5_tookWords_2 : decode cX5_tookWords 2 = .ok (.iconst 0, 1) := by decide +kernel
theorem dX5_tookWords_3 : decode cX5_tookWords 3 = .ok (.istore_n 2, 1) := by decide +kernel
theorem dX5_tookWords_4 : decode cX5_tookWords 4 = .ok (.iload_n 2, 1) := by decide +kernel
theorem dX5_tookWords_5 : decode cX5_tookWords 5 = .ok (.aload_n 0, 1) := by decide +kernel
theorem dX5_tookWords_6 : decode cX5_tookWords 6 = .ok (.getfield 64, 3) := by decide +kernel
theorem dX5_tookWords_9 : decode cX5_tookWords 9 = .ok (.if_icmp .ge 61, 3) := by decide +kernel
theorem dX5_tookWords_12 : decode cX5_tookWords 12 = .ok (.aload_n 0, 1) := by decide +kernel
theorem dX5_tookWords_13 : decode cX5_tookWords 13 = .ok (.getfield 9, 3) := by decide +kernel
theorem dX5_tookWords_16 : decode cX5_tookWords 16 = .ok (.iload_n 2, 1) := by decide +kernel
theorem dX5_tookWords_17 : decode cX5_tookWords 17 = .ok (.baload, 1) := by decide +kernel
theorem dX5_tookWords_18 : decode cX5_tookWords 18 = .ok (.bipush 32, 2) := by decide +kernel
theorem dX5_tookWords_20 : decode cX5_tookWords 20 = .ok (.if_icmp .ne 7, 3) := by decide +kernel
theorem dX5_tookWords_23 : decode cX5_tookWords 23 = .ok (.iconst 1, 1) := by decide +kernel
theorem dX5_tookWords_24 : decode cX5_tookWords 24 = .ok (.goto 4, 3) := by decide +kernel
theorem dX5_tookWords_27 : decode cX5_tookWords 27 = .ok (.iconst 0, 1) := by decide +kernel
theorem dX5_tookWords_28 : decode cX5_tookWords 28 = .ok (.istore_n 3, 1) := by decide +kernel
theorem dX5_tookWords_29 : decode cX5_tookWords 29 = .ok (.iload_n 3, 1) := by decide +kernel
theorem dX5_tookWords_30 : decode cX5_tookWords 30 = .ok (.ifCond .eq 10, 3) := by decide +kernel
theorem dX5_tookWords_33 : decode cX5_tookWords 33 = .ok (.iload_n 1, 1) := by decide +kernel
theorem dX5_tookWords_34 : decode cX5_tookWords 34 = .ok (.ifCond .ne 20, 3) := by decide +kernel
theorem dX5_tookWords_37 : decode cX5_tookWords 37 = .ok (.goto 15, 3) := by decide +kernel
theorem dX5_tookWords_40 : decode cX5_tookWords 40 = .ok (.aload_n 0, 1) := by decide +kernel
theorem dX5_tookWords_41 : decode cX5_tookWords 41 = .ok (.getfield 9, 3) := by decide +kernel
theorem dX5_tookWords_44 : decode cX5_tookWords 44 = .ok (.iload_n 2, 1) := by decide +kernel
theorem dX5_tookWords_45 : decode cX5_tookWords 45 = .ok (.baload, 1) := by decide +kernel
theorem dX5_tookWords_46 : decode cX5_tookWords 46 = .ok (.invokestatic 73, 3) := by decide +kernel
theorem dX5_tookWords_49 : decode cX5_tookWords 49 = .ok (.ifCond .ne 5, 3) := by decide +kernel
theorem dX5_tookWords_52 : decode cX5_tookWords 52 = .ok (.iconst 0, 1) := by decide +kernel
theorem dX5_tookWords_53 : decode cX5_tookWords 53 = .ok (.ireturn, 1) := by decide +kernel
theorem dX5_tookWords_54 : decode cX5_tookWords 54 = .ok (.iload_n 3, 1) := by decide +kernel
theorem dX5_tookWords_55 : decode cX5_tookWords 55 = .ok (.ifCond .ne 7, 3) := by decide +kernel
theorem dX5_tookWords_58 : decode cX5_tookWords 58 = .ok (.iconst 1, 1) := by decide +kernel
theorem dX5_tookWords_59 : decode cX5_tookWords 59 = .ok (.goto 4, 3) := by decide +kernel
theorem dX5_tookWords_62 : decode cX5_tookWords 62 = .ok (.iconst 0, 1) := by decide +kernel
theorem dX5_tookWords_63 : decode cX5_tookWords 63 = .ok (.istore_n 1, 1) := by decide +kernel
theorem dX5_tookWords_64 : decode cX5_tookWords 64 = .ok (.iinc 2 1, 3) := by decide +kernel
theorem dX5_tookWords_67 : decode cX5_tookWords 67 = .ok (.goto (-63), 3) := by decide +kernel
theorem dX5_tookWords_70 : decode cX5_tookWords 70 = .ok (.iload_n 1, 1) := by decide +kernel
theorem dX5_tookWords_71 : decode cX5_tookWords 71 = .ok (.ireturn, 1) := by decide +kernel
set_option maxRecDepth 20000 in
theorem ggX5_make_X5_draftWord : GoodIn wsX5_make wsX5_draftWord := goodIn_r _ [18, 19, 3, 20, 21, 22, 23, 24, 25, 26, 27, 28, 29, 30, 31, 32, 33, 34, 35, 36, 37, 38, 39, 40, 41, 42, 43, 44, 45, 46, 47, 48, 49, 50, 51, 52, 53, 54, 55, 56, 57, 58, 59, 60, 61, 62, 63, 64, 65, 66, 67, 68, 69, 70, 71, 72, 73, 74, 75, 76, 77, 78, 79, 80, 81, 82, 83, 84, 85, 86, 87, 88, 89, 90, 91, 92, 93, 94, 95, 96, 97, 98, 99, 100, 101, 102, 103, 104, 105, 106, 107, 108, 109, 110, 111, 112, 113, 114, 115, 116, 117, 118, 119, 120, 121, 122, 123, 124, 125, 126, 127, 128, 129, 130, 131, 132, 133, 134, 135, 136, 137, 138, 139, 140, 141, 142, 143, 144, 145, 146, 147, 148, 149, 150, 151, 152, 153, 154, 155, 156, 157, 158, 159, 160, 161, 162, 163, 164, 165, 166, 167, 17, 168, 1, 4, 169, 170, 171, 172, 173, 174, 175, 176, 177, 178, 179, 180, 181, 182, 247, 248, 249, 250, 251, 252, 253, 254, 255, 256, 257, 258, 259, 260, 261, 262, 263, 264, 265, 266, 267, 268, 269, 270, 271, 272, 273, 274, 275, 276, 277, 278, 279, 280, 281] (by decide +kernel) (by decide +kernel)
set_option maxRecDepth 20000 in
theorem gX5_make_X5_draftWord : GoodIn wsX5_make (wsV RX5 80 RX5 yX5_draftWord wsX5_draftWord) := goodIn_app (goodIn_of _ (by decide +kernel)) ggX5_make_X5_draftWord
set_option maxRecDepth 20000 in
theorem ggX5_make_X5_readDraft : GoodIn wsX5_make wsX5_readDraft := goodIn_r _ [186, 11, 1, 177, 4, 187, 188, 189, 190, 191, 192, 193, 194, 63, 64, 43, 65, 45, 66, 195, 196, 197, 198, 199, 200, 201, 202, 203, 204, 205, 206, 207, 208, 209, 7, 8, 9, 210, 211, 212, 213, 214, 215, 24, 216, 217, 218, 219, 220, 221, 222, 223, 224, 225, 226, 227, 228, 41, 42, 44, 229, 230, 231, 232, 233, 234, 247, 248, 249, 250, 251, 252, 253, 254, 255, 256, 257, 258, 259, 282, 283, 284, 285, 286, 287, 265, 266, 267, 268, 269, 270] (by decide +kernel) (by decide +kernel)
set_option maxRecDepth 20000 in
theorem gX5_make_X5_readDraft : GoodIn wsX5_make (wsV RX5 84 RX5 yX5_readDraft wsX5_readDraft) := goodIn_app (goodIn_of _ (by decide +kernel)) ggX5_make_X5_readDraft
set_option maxRecDepth 20000 in
theorem ggX5_make_X6_size : GoodIn wsX5_make wsX6_size := goodIn_r _ [198, 192, 282, 283, 284, 285, 286, 287] (by decide +kernel) (by decide +kernel)
set_option maxRecDepth 20000 in
theorem gX5_make_X6_size : GoodIn wsX5_make (wsV RX5 93 RX6 yX6_size wsX6_size) := goodIn_app (goodIn_of _ (by decide +kernel)) ggX5_make_X6_size
set_option maxRecDepth 20000 in
theorem ggX5_make_X5_isDraftRead : GoodIn wsX5_make wsX5_isDraftRead := goodIn_r _ [238, 11, 1, 4, 195, 196, 197, 190, 198, 192, 239, 240, 241, 242, 222, 243, 244, 245, 246, 223, 247, 248, 249, 250, 251, 252, 253, 254, 255, 256, 257, 258, 259, 282, 283, 284, 285, 286, 287] (by decide +kernel) (by decide +kernel)
set_option maxRecDepth 20000 in
theorem gX5_make_X5_isDraftRead : GoodIn wsX5_make (wsV RX5 97 RX5 yX5_isDraftRead wsX5_isDraftRead) := goodIn_app (goodIn_of _ (by decide +kernel)) ggX5_make_X5_isDraftRead
theorem dX5_make_0 : decode cX5_make 0 = .ok (.aload_n 0, 1) := by decide +kernel
theorem dX5_make_1 : decode cX5_make 1 = .ok (.iconst 0, 1) := by decide +kernel
theorem dX5_make_2 : decode cX5_make 2 = .ok (.putfield 77, 3) := by decide +kernel
theorem dX5_make_5 : decode cX5_make 5 = .ok (.iconst 0, 1) := by decide +kernel
theorem dX5_make_6 : decode cX5_make 6 = .ok (.istore_n 1, 1) := by decide +kernel
theorem dX5_make_7 : decode cX5_make 7 = .ok (.iconst 0, 1) := by decide +kernel
theorem dX5_make_8 : decode cX5_make 8 = .ok (.istore_n 2, 1) := by decide +kernel
theorem dX5_make_9 : decode cX5_make 9 = .ok (.iload_n 2, 1) := by decide +kernel
theorem dX5_make_10 : decode cX5_make 10 = .ok (.aload_n 0, 1) := by decide +kernel
theorem dX5_make_11 : decode cX5_make 11 = .ok (.getfield 64, 3) := by decide +kernel
theorem dX5_make_14 : decode cX5_make 14 = .ok (.if_icmp .gt 43, 3) := by decide +kernel
theorem dX5_make_17 : decode cX5_make 17 = .ok (.iload_n 2, 1) := by decide +kernel
theorem dX5_make_18 : decode cX5_make 18 = .ok (.aload_n 0, 1) := by decide +kernel
theorem dX5_make_19 : decode cX5_make 19 = .ok (.getfield 64, 3) := by decide +kernel
theorem dX5_make_22 : decode cX5_make 22 = .ok (.if_icmp .eq 14, 3) := by decide +kernel
theorem dX5_make_25 : decode cX5_make 25 = .ok (.aload_n 0, 1) := by decide +kernel
theorem dX5_make_26 : decode cX5_make 26 = .ok (.getfield 9, 3) := by decide +kernel
theorem dX5_make_29 : decode cX5_make 29 = .ok (.iload_n 2, 1) := by decide +kernel
theorem dX5_make_30 : decode cX5_make 30 = .ok (.baload, 1) := by decide +kernel
theorem dX5_make_31 : decode cX5_make 31 = .ok (.bipush 32, 2) := by decide +kernel
theorem dX5_make_33 : decode cX5_make 33 = .ok (.if_icmp .ne 18, 3) := by decide +kernel
theorem dX5_make_36 : decode cX5_make 36 = .ok (.aload_n 0, 1) := by decide +kernel
theorem dX5_make_37 : decode cX5_make 37 = .ok (.iload_n 1, 1) := by decide +kernel
theorem dX5_make_38 : decode cX5_make 38 = .ok (.iload_n 2, 1) := by decide +kernel
theorem dX5_make_39 : decode cX5_make 39 = .ok (.invokevirtual 80, 3) := by decide +kernel
theorem dX5_make_42 : decode cX5_make 42 = .ok (.ifCond .ne 5, 3) := by decide +kernel
theorem dX5_make_45 : decode cX5_make 45 = .ok (.iconst 0, 1) := by decide +kernel
theorem dX5_make_46 : decode cX5_make 46 = .ok (.ireturn, 1) := by decide +kernel
theorem dX5_make_47 : decode cX5_make 47 = .ok (.iload_n 2, 1) := by decide +kernel
theorem dX5_make_48 : decode cX5_make 48 = .ok (.iconst 1, 1) := by decide +kernel
theorem dX5_make_49 : decode cX5_make 49 = .ok (.iadd, 1) := by decide +kernel
theorem dX5_make_50 : decode cX5_make 50 = .ok (.istore_n 1, 1) := by decide +kernel
theorem dX5_make_51 : decode cX5_make 51 = .ok (.iinc 2 1, 3) := by decide +kernel
theorem dX5_make_54 : decode cX5_make 54 = .ok (.goto (-45), 3) := by decide +kernel
theorem dX5_make_57 : decode cX5_make 57 = .ok (.aload_n 0, 1) := by decide +kernel
theorem dX5_make_58 : decode cX5_make 58 = .ok (.invokevirtual 84, 3) := by decide +kernel
theorem dX5_make_61 : decode cX5_make 61 = .ok (.aload_n 0, 1) := by decide +kernel
theorem dX5_make_62 : decode cX5_make 62 = .ok (.getfield 15, 3) := by decide +kernel
theorem dX5_make_65 : decode cX5_make 65 = .ok (.iconst 0, 1) := by decide +kernel
theorem dX5_make_66 : decode cX5_make 66 = .ok (.aload_n 0, 1) := by decide +kernel
theorem dX5_make_67 : decode cX5_make 67 = .ok (.getfield 19, 3) := by decide +kernel
theorem dX5_make_70 : decode cX5_make 70 = .ok (.iconst 0, 1) := by decide +kernel
theorem dX5_make_71 : decode cX5_make 71 = .ok (.aload_n 0, 1) := by decide +kernel
theorem dX5_make_72 : decode cX5_make 72 = .ok (.getfield 77, 3) := by decide +kernel
theorem dX5_make_75 : decode cX5_make 75 = .ok (.invokestatic 87, 3) := by decide +kernel
theorem dX5_make_78 : decode cX5_make 78 = .ok (.aload_n 0, 1) := by decide +kernel
theorem dX5_make_79 : decode cX5_make 79 = .ok (.aload_n 0, 1) := by decide +kernel
theorem dX5_make_80 : decode cX5_make 80 = .ok (.getfield 77, 3) := by decide +kernel
theorem dX5_make_83 : decode cX5_make 83 = .ok (.putfield 58, 3) := by decide +kernel
theorem dX5_make_86 : decode cX5_make 86 = .ok (.aload_n 0, 1) := by decide +kernel
theorem dX5_make_87 : decode cX5_make 87 = .ok (.aload_n 0, 1) := by decide +kernel
theorem dX5_make_88 : decode cX5_make 88 = .ok (.getfield 54, 3) := by decide +kernel
theorem dX5_make_91 : decode cX5_make 91 = .ok (.invokevirtual 93, 3) := by decide +kernel
theorem dX5_make_94 : decode cX5_make 94 = .ok (.putfield 61, 3) := by decide +kernel
theorem dX5_make_97 : decode cX5_make 97 = .ok (.aload_n 0, 1) := by decide +kernel
theorem dX5_make_98 : decode cX5_make 98 = .ok (.aload_n 0, 1) := by decide +kernel
theorem dX5_make_99 : decode cX5_make 99 = .ok (.invokevirtual 97, 3) := by decide +kernel
theorem dX5_make_102 : decode cX5_make 102 = .ok (.ifCond .eq 7, 3) := by decide +kernel
theorem dX5_make_105 : decode cX5_make 105 = .ok (.iconst 1, 1) := by decide +kernel
theorem dX5_make_106 : decode cX5_make 106 = .ok (.goto 4, 3) := by decide +kernel
theorem dX5_make_109 : decode cX5_make 109 = .ok (.iconst 0, 1) := by decide +kernel
theorem dX5_make_110 : decode cX5_make 110 = .ok (.putfield 22, 3) := by decide +kernel
theorem dX5_make_113 : decode cX5_make 113 = .ok (.iconst 1, 1) := by decide +kernel
theorem dX5_make_114 : decode cX5_make 114 = .ok (.ireturn, 1) := by decide +kernel
set_option maxRecDepth 20000 in
theorem ggX5_draftWord_X1_solve : GoodIn wsX5_draftWord wsX1_solve := goodIn_r _ [14, 15, 16, 17, 18, 19, 13, 20, 21, 22, 23, 24, 25, 26, 27, 28, 29, 30, 31, 32, 33, 34, 35, 36, 37, 38, 39, 40, 41, 42, 43, 44, 45, 46, 47, 48, 49, 50, 51, 52, 53, 54, 55, 56, 57, 58, 182, 183, 184, 185, 186, 187, 188, 189, 190, 191, 192] (by decide +kernel) (by decide +kernel)
set_option maxRecDepth 20000 in
theorem gX5_draftWord_X1_solve : GoodIn wsX5_draftWord (wsV RX5 101 RX1 yX1_solve wsX1_solve) := goodIn_app (goodIn_of _ (by decide +kernel)) ggX5_draftWord_X1_solve
set_option maxRecDepth 20000 in
theorem ggX5_draftWord_X3_solve : GoodIn wsX5_draftWord wsX3_solve := goodIn_r _ [63, 64, 65, 66, 67, 68, 24, 25, 26, 27, 28, 69, 70, 71, 62, 72, 73, 30, 31, 32, 33, 74, 41, 42, 43, 44, 75, 54, 55, 56, 57, 58, 76, 46, 47, 48, 49, 77, 51, 13, 52, 78, 79, 80, 81, 82, 83, 84, 85, 86, 87, 88, 89, 90, 91, 92, 93, 94, 95, 96, 97, 98, 99, 100, 101, 102, 103, 104, 105, 106, 107, 108, 109, 110, 111, 112, 113, 114, 115, 116, 117, 118, 119, 120, 121, 122, 123, 124, 125, 126, 127, 128, 129, 130, 131, 132, 133, 134, 135, 136, 137, 138, 139, 140, 141, 142, 143, 193, 194, 195, 196, 187, 188, 189, 190, 191, 192, 197, 198, 199, 200, 201, 202, 203] (by decide +kernel) (by decide +kernel)
set_option maxRecDepth 20000 in
theorem gX5_draftWord_X3_solve : GoodIn wsX5_draftWord (wsV RX5 105 RX3 yX3_solve wsX3_solve) := goodIn_app (goodIn_of _ (by decide +kernel)) ggX5_draftWord_X3_solve
set_option maxRecDepth 20000 in
theorem ggX5_draftWord_X3_word : GoodIn wsX5_draftWord wsX3_word := goodIn_r _ [147, 66, 193, 194, 195, 196] (by decide +kernel) (by decide +kernel)
set_option maxRecDepth 20000 in
theorem gX5_draftWord_X3_word : GoodIn wsX5_draftWord (wsV RX5 113 RX3 yX3_word wsX3_word) := goodIn_app (goodIn_of _ (by decide +kernel)) ggX5_draftWord_X3_word
set_option maxRecDepth 20000 in
theorem ggX5_draftWord_X5_draftEntry : GoodIn wsX5_draftWord wsX5_draftEntry := goodIn_r _ [152, 153, 154, 169, 170, 171, 172, 173, 174, 175, 176, 177, 178, 179, 180, 181] (by decide +kernel) (by decide +kernel)
set_option maxRecDepth 20000 in
theorem gX5_draftWord_X5_draftEntry : GoodIn wsX5_draftWord (wsV RX5 116 RX5 yX5_draftEntry wsX5_draftEntry) := goodIn_app (goodIn_of _ (by decide +kernel)) ggX5_draftWord_X5_draftEntry
set_option maxRecDepth 20000 in
theorem ggX5_draftWord_X3_suffix : GoodIn wsX5_draftWord wsX3_suffix := goodIn_r _ [158, 67, 193, 194, 195, 196] (by decide +kernel) (by decide +kernel)
set_option maxRecDepth 20000 in
theorem gX5_draftWord_X3_suffix : GoodIn wsX5_draftWord (wsV RX5 120 RX3 yX3_suffix wsX3_suffix) := goodIn_app (goodIn_of _ (by decide +kernel)) ggX5_draftWord_X3_suffix
set_option maxRecDepth 20000 in
theorem ggX5_draftWord_X5_draftChain : GoodIn wsX5_draftWord wsX5_draftChain := goodIn_r _ [162, 163, 164, 165, 166, 13, 167, 21, 148, 149, 150, 151, 152, 153, 154, 168, 30, 31, 26, 32, 28, 33, 169, 170, 171, 172, 173, 174, 175, 176, 177, 178, 179, 180, 181, 182, 183, 184, 185, 186, 187, 188, 189, 190, 191, 192] (by decide +kernel) (by decide +kernel)
set_option maxRecDepth 20000 in
theorem gX5_draftWord_X5_draftChain : GoodIn wsX5_draftWord (wsV RX5 123 RX5 yX5_draftChain wsX5_draftChain) := goodIn_app (goodIn_of _ (by decide +kernel)) ggX5_draftWord_X5_draftChain
theorem dX5_draftWord_0 : decode cX5_draftWord 0 = .ok (.aload_n 0, 1) := by decide +kernel
theorem dX5_draftWord_1 : decode cX5_draftWord 1 = .ok (.getfield 35, 3) := by decide +kernel
theorem dX5_draftWord_4 : decode cX5_draftWord 4 = .ok (.aload_n 0, 1) := by decide +kernel
theorem dX5_draftWord_5 : decode cX5_draftWord 5 = .ok (.getfield 9, 3) := by decide +kernel
theorem dX5_draftWord_8 : decode cX5_draftWord 8 = .ok (.iload_n 1, 1) := by decide +kernel
theorem dX5_draftWord_9 : decode cX5_draftWord 9 = .ok (.iload_n 2, 1) := by decide +kernel
theorem dX5_draftWord_10 : decode cX5_draftWord 10 = .ok (.invokevirtual 101, 3) := by decide +kernel
theorem dX5_draftWord_13 : decode cX5_draftWord 13 = .ok (.istore_n 3, 1) := by decide +kernel
theorem dX5_draftWord_14 : decode cX5_draftWord 14 = .ok (.aload_n 0, 1) := by decide +kernel
theorem dX5_draftWord_15 : decode cX5_draftWord 15 = .ok (.getfield 39, 3) := by decide +kernel
theorem dX5_draftWord_18 : decode cX5_draftWord 18 = .ok (.aload_n 0, 1) := by decide +kernel
theorem dX5_draftWord_19 : decode cX5_draftWord 19 = .ok (.getfield 9, 3) := by decide +kernel
theorem dX5_draftWord_22 : decode cX5_draftWord 22 = .ok (.iload_n 1, 1) := by decide +kernel
theorem dX5_draftWord_23 : decode cX5_draftWord 23 = .ok (.iload_n 2, 1) := by decide +kernel
theorem dX5_draftWord_24 : decode cX5_draftWord 24 = .ok (.invokevirtual 101, 3) := by decide +kernel
theorem dX5_draftWord_27 : decode cX5_draftWord 27 = .ok (.istore 4, 2) := by decide +kernel
theorem dX5_draftWord_29 : decode cX5_draftWord 29 = .ok (.aload_n 0, 1) := by decide +kernel
theorem dX5_draftWord_30 : decode cX5_draftWord 30 = .ok (.getfield 47, 3) := by decide +kernel
theorem dX5_draftWord_33 : decode cX5_draftWord 33 = .ok (.aload_n 0, 1) := by decide +kernel
theorem dX5_draftWord_34 : decode cX5_draftWord 34 = .ok (.getfield 9, 3) := by decide +kernel
theorem dX5_draftWord_37 : decode cX5_draftWord 37 = .ok (.iload_n 1, 1) := by decide +kernel
theorem dX5_draftWord_38 : decode cX5_draftWord 38 = .ok (.iload_n 2, 1) := by decide +kernel
theorem dX5_draftWord_39 : decode cX5_draftWord 39 = .ok (.invokevirtual 105, 3) := by decide +kernel
theorem dX5_draftWord_42 : decode cX5_draftWord 42 = .ok (.istore 5, 2) := by decide +kernel
theorem dX5_draftWord_44 : decode cX5_draftWord 44 = .ok (.iload_n 3, 1) := by decide +kernel
theorem dX5_draftWord_45 : decode cX5_draftWord 45 = .ok (.iload 4, 2) := by decide +kernel
theorem dX5_draftWord_47 : decode cX5_draftWord 47 = .ok (.iload 5, 2) := by decide +kernel
theorem dX5_draftWord_49 : decode cX5_draftWord 49 = .ok (.invokestatic 106, 3) := by decide +kernel
theorem dX5_draftWord_52 : decode cX5_draftWord 52 = .ok (.invokestatic 106, 3) := by decide +kernel
theorem dX5_draftWord_55 : decode cX5_draftWord 55 = .ok (.istore 6, 2) := by decide +kernel
theorem dX5_draftWord_57 : decode cX5_draftWord 57 = .ok (.iload 6, 2) := by decide +kernel
theorem dX5_draftWord_59 : decode cX5_draftWord 59 = .ok (.ldc 112, 2) := by decide +kernel
theorem dX5_draftWord_61 : decode cX5_draftWord 61 = .ok (.if_icmp .ne 5, 3) := by decide +kernel
