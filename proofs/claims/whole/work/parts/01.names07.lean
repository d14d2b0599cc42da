set_option maxRecDepth 20000 in
theorem gX11_raw_X11_blank : GoodIn wsX11_raw (wsV RX11 139 RX11 yX11_blank wsX11_blank) := goodIn_app (goodIn_of _ (by decide +kernel)) ggX11_raw_X11_blank
set_option maxRecDepth 20000 in
theorem ggX11_raw_X11_puts : GoodIn wsX11_raw wsX11_puts := goodIn_r _ [20, 21, 15, 22, 23, 24, 25, 26, 27, 28, 29, 30, 31, 32, 33, 34, 35, 36, 37, 38, 39, 40, 41, 42, 43, 44, 45, 46, 47, 48, 49, 50, 51, 52, 53, 54, 55, 56, 57, 58, 59, 60, 61, 62, 63, 64] (by decide +kernel) (by decide +kernel)
set_option maxRecDepth 20000 in
theorem gX11_raw_X11_puts : GoodIn wsX11_raw (wsV RX11 136 RX11 yX11_puts wsX11_puts) := goodIn_app (goodIn_of _ (by decide +kernel)) ggX11_raw_X11_puts
theorem dX11_raw_0 : decode cX11_raw 0 = .ok (.aload_n 0, 1) := by decide +kernel
theorem dX11_raw_1 : decode cX11_raw 1 = .ok (.iload_n 1, 1) := by decide +kernel
theorem dX11_raw_2 : decode cX11_raw 2 = .ok (.invokevirtual 181, 3) := by decide +kernel
theorem dX11_raw_5 : decode cX11_raw 5 = .ok (.aload_n 0, 1) := by decide +kernel
theorem dX11_raw_6 : decode cX11_raw 6 = .ok (.invokevirtual 139, 3) := by decide +kernel
theorem dX11_raw_9 : decode cX11_raw 9 = .ok (.iconst 0, 1) := by decide +kernel
theorem dX11_raw_10 : decode cX11_raw 10 = .ok (.istore_n 2, 1) := by decide +kernel
theorem dX11_raw_11 : decode cX11_raw 11 = .ok (.iload_n 2, 1) := by decide +kernel
theorem dX11_raw_12 : decode cX11_raw 12 = .ok (.aload_n 0, 1) := by decide +kernel
theorem dX11_raw_13 : decode cX11_raw 13 = .ok (.getfield 149, 3) := by decide +kernel
theorem dX11_raw_16 : decode cX11_raw 16 = .ok (.if_icmp .ge 19, 3) := by decide +kernel
theorem dX11_raw_19 : decode cX11_raw 19 = .ok (.aload_n 0, 1) := by decide +kernel
theorem dX11_raw_20 : decode cX11_raw 20 = .ok (.aload_n 0, 1) := by decide +kernel
theorem dX11_raw_21 : decode cX11_raw 21 = .ok (.getfield 50, 3) := by decide +kernel
theorem dX11_raw_24 : decode cX11_raw 24 = .ok (.iload_n 2, 1) := by decide +kernel
theorem dX11_raw_25 : decode cX11_raw 25 = .ok (.baload, 1) := by decide +kernel
theorem dX11_raw_26 : decode cX11_raw 26 = .ok (.invokevirtual 136, 3) := by decide +kernel
theorem dX11_raw_29 : decode cX11_raw 29 = .ok (.iinc 2 1, 3) := by decide +kernel
theorem dX11_raw_32 : decode cX11_raw 32 = .ok (.goto (-21), 3) := by decide +kernel
theorem dX11_raw_35 : decode cX11_raw 35 = .ok (.return_, 1) := by decide +kernel
set_option maxRecDepth 20000 in
theorem ggX11_one_X11_word : GoodIn wsX11_one wsX11_word := goodIn_r _ [9, 2, 10, 3, 11, 12, 13, 8, 14, 15, 16, 17, 18, 19, 20, 21, 22, 23, 24, 25, 55, 56, 57, 58, 59, 60, 61, 62, 63, 64, 65, 66, 67, 68, 69, 70, 71, 72, 73, 74, 75, 76, 77, 78, 79, 80, 81, 82, 83, 84, 85, 86, 87, 88, 89, 90, 91, 92, 93, 94, 95, 96, 97] (by decide +kernel) (by decide +kernel)
set_option maxRecDepth 20000 in
theorem gX11_one_X11_word : GoodIn wsX11_one (wsV RX11 171 RX11 yX11_word wsX11_word) := goodIn_app (goodIn_of _ (by decide +kernel)) ggX11_one_X11_word
set_option maxRecDepth 20000 in
theorem ggX11_one_X11_suffix : GoodIn wsX11_one wsX11_suffix := goodIn_r _ [29, 30, 15, 20, 2, 31, 32, 8, 33, 34, 35, 36, 5, 6, 7, 9, 10, 3, 11, 12, 13, 14, 16, 17, 18, 19, 21, 22, 23, 24, 25, 37, 38, 39, 40, 41, 42, 43, 44, 45, 46, 47, 48, 49, 50, 51, 52, 53, 54, 55, 56, 57, 58, 59, 60, 61, 62, 63, 64, 65, 66, 67, 68, 69, 70, 71, 72, 73, 74, 75, 76, 77, 78, 79, 80, 81, 82, 83, 84, 85, 86, 87, 88, 89, 90, 91, 92, 93, 94, 95, 96, 97] (by decide +kernel) (by decide +kernel)
set_option maxRecDepth 20000 in
theorem gX11_one_X11_suffix : GoodIn wsX11_one (wsV RX11 184 RX11 yX11_suffix wsX11_suffix) := goodIn_app (goodIn_of _ (by decide +kernel)) ggX11_one_X11_suffix
set_option maxRecDepth 20000 in
theorem ggX11_one_X11_byteOf : GoodIn wsX11_one wsX11_byteOf := goodIn_r _ [24, 25, 55, 56, 57, 58, 59, 60, 61, 62, 63, 64, 65, 66, 67, 68, 69, 70, 71, 72, 73, 74, 75, 76, 77, 78, 79, 80, 81, 82, 83, 84, 85, 86, 87, 88, 89, 90, 91, 92, 93, 94, 95, 96, 97] (by decide +kernel) (by decide +kernel)
set_option maxRecDepth 20000 in
theorem gX11_one_X11_byteOf : GoodIn wsX11_one (wsV RX11 142 RX11 yX11_byteOf wsX11_byteOf) := goodIn_app (goodIn_of _ (by decide +kernel)) ggX11_one_X11_byteOf
set_option maxRecDepth 20000 in
theorem ggX11_one_X11_puts : GoodIn wsX11_one wsX11_puts := goodIn_r _ [19, 20, 15, 55, 56, 57, 58, 59, 60, 61, 62, 63, 64, 65, 66, 67, 68, 69, 70, 71, 72, 73, 74, 75, 76, 77, 78, 79, 80, 81, 82, 83, 84, 85, 86, 87, 88, 89, 90, 91, 92, 93, 94, 95, 96, 97] (by decide +kernel) (by decide +kernel)
set_option maxRecDepth 20000 in
theorem gX11_one_X11_puts : GoodIn wsX11_one (wsV RX11 136 RX11 yX11_puts wsX11_puts) := goodIn_app (goodIn_of _ (by decide +kernel)) ggX11_one_X11_puts
theorem dX11_one_0 : decode cX11_one 0 = .ok (.aload_n 0, 1) := by decide +kernel
theorem dX11_one_1 : decode cX11_one 1 = .ok (.getfield 20, 3) := by decide +kernel
theorem dX11_one_4 : decode cX11_one 4 = .ok (.iload_n 2, 1) := by decide +kernel
theorem dX11_one_5 : decode cX11_one 5 = .ok (.iaload, 1) := by decide +kernel
theorem dX11_one_6 : decode cX11_one 6 = .ok (.tableswitch 180 0 7 #[46, 55, 69, 77, 100, 118, 164, 172], 46) := by decide +kernel
theorem dX11_one_52 : decode cX11_one 52 = .ok (.aload_n 0, 1) := by decide +kernel
theorem dX11_one_53 : decode cX11_one 53 = .ok (.iload_n 2, 1) := by decide +kernel
theorem dX11_one_54 : decode cX11_one 54 = .ok (.iconst 1, 1) := by decide +kernel
theorem dX11_one_55 : decode cX11_one 55 = .ok (.invokevirtual 171, 3) := by decide +kernel
theorem dX11_one_58 : decode cX11_one 58 = .ok (.goto 133, 3) := by decide +kernel
theorem dX11_one_61 : decode cX11_one 61 = .ok (.aload_n 0, 1) := by decide +kernel
theorem dX11_one_62 : decode cX11_one 62 = .ok (.iload_n 2, 1) := by decide +kernel
theorem dX11_one_63 : decode cX11_one 63 = .ok (.iconst 1, 1) := by decide +kernel
theorem dX11_one_64 : decode cX11_one 64 = .ok (.invokevirtual 171, 3) := by decide +kernel
theorem dX11_one_67 : decode cX11_one 67 = .ok (.aload_n 0, 1) := by decide +kernel
theorem dX11_one_68 : decode cX11_one 68 = .ok (.iconst 1, 1) := by decide +kernel
theorem dX11_one_69 : decode cX11_one 69 = .ok (.putfield 133, 3) := by decide +kernel
theorem dX11_one_72 : decode cX11_one 72 = .ok (.goto 119, 3) := by decide +kernel
theorem dX11_one_75 : decode cX11_one 75 = .ok (.aload_n 0, 1) := by decide +kernel
theorem dX11_one_76 : decode cX11_one 76 = .ok (.iload_n 2, 1) := by decide +kernel
theorem dX11_one_77 : decode cX11_one 77 = .ok (.invokevirtual 184, 3) := by decide +kernel
theorem dX11_one_80 : decode cX11_one 80 = .ok (.goto 111, 3) := by decide +kernel
theorem dX11_one_83 : decode cX11_one 83 = .ok (.aload_n 0, 1) := by decide +kernel
theorem dX11_one_84 : decode cX11_one 84 = .ok (.aload_n 0, 1) := by decide +kernel
theorem dX11_one_85 : decode cX11_one 85 = .ok (.iload_n 2, 1) := by decide +kernel
theorem dX11_one_86 : decode cX11_one 86 = .ok (.iconst 0, 1) := by decide +kernel
theorem dX11_one_87 : decode cX11_one 87 = .ok (.invokevirtual 142, 3) := by decide +kernel
theorem dX11_one_90 : decode cX11_one 90 = .ok (.invokevirtual 136, 3) := by decide +kernel
theorem dX11_one_93 : decode cX11_one 93 = .ok (.aload_n 0, 1) := by decide +kernel
theorem dX11_one_94 : decode cX11_one 94 = .ok (.iconst 1, 1) := by decide +kernel
theorem dX11_one_95 : decode cX11_one 95 = .ok (.putfield 146, 3) := by decide +kernel
theorem dX11_one_98 : decode cX11_one 98 = .ok (.aload_n 0, 1) := by decide +kernel
theorem dX11_one_99 : decode cX11_one 99 = .ok (.iconst 0, 1) := by decide +kernel
theorem dX11_one_100 : decode cX11_one 100 = .ok (.putfield 133, 3) := by decide +kernel
theorem dX11_one_103 : decode cX11_one 103 = .ok (.goto 88, 3) := by decide +kernel
theorem dX11_one_106 : decode cX11_one 106 = .ok (.aload_n 0, 1) := by decide +kernel
theorem dX11_one_107 : decode cX11_one 107 = .ok (.aload_n 0, 1) := by decide +kernel
theorem dX11_one_108 : decode cX11_one 108 = .ok (.iload_n 2, 1) := by decide +kernel
theorem dX11_one_109 : decode cX11_one 109 = .ok (.iconst 0, 1) := by decide +kernel
theorem dX11_one_110 : decode cX11_one 110 = .ok (.invokevirtual 142, 3) := by decide +kernel
theorem dX11_one_113 : decode cX11_one 113 = .ok (.invokevirtual 136, 3) := by decide +kernel
theorem dX11_one_116 : decode cX11_one 116 = .ok (.aload_n 0, 1) := by decide +kernel
theorem dX11_one_117 : decode cX11_one 117 = .ok (.iconst 0, 1) := by decide +kernel
theorem dX11_one_118 : decode cX11_one 118 = .ok (.putfield 133, 3) := by decide +kernel
theorem dX11_one_121 : decode cX11_one 121 = .ok (.goto 70, 3) := by decide +kernel
theorem dX11_one_124 : decode cX11_one 124 = .ok (.aload_n 0, 1) := by decide +kernel
theorem dX11_one_125 : decode cX11_one 125 = .ok (.iload_n 2, 1) := by decide +kernel
theorem dX11_one_126 : decode cX11_one 126 = .ok (.iload_n 1, 1) := by decide +kernel
theorem dX11_one_127 : decode cX11_one 127 = .ok (.ifCond .eq 32, 3) := by decide +kernel
theorem dX11_one_130 : decode cX11_one 130 = .ok (.aload_n 0, 1) := by decide +kernel
theorem dX11_one_131 : decode cX11_one 131 = .ok (.getfield 35, 3) := by decide +kernel
theorem dX11_one_134 : decode cX11_one 134 = .ok (.iload_n 1, 1) := by decide +kernel
theorem dX11_one_135 : decode cX11_one 135 = .ok (.iconst 1, 1) := by decide +kernel
theorem dX11_one_136 : decode cX11_one 136 = .ok (.isub, 1) := by decide +kernel
theorem dX11_one_137 : decode cX11_one 137 = .ok (.iaload, 1) := by decide +kernel
theorem dX11_one_138 : decode cX11_one 138 = .ok (.iconst (-1), 1) := by decide +kernel
theorem dX11_one_139 : decode cX11_one 139 = .ok (.if_icmp .eq 20, 3) := by decide +kernel
theorem dX11_one_142 : decode cX11_one 142 = .ok (.aload_n 0, 1) := by decide +kernel
theorem dX11_one_143 : decode cX11_one 143 = .ok (.getfield 20, 3) := by decide +kernel
theorem dX11_one_146 : decode cX11_one 146 = .ok (.aload_n 0, 1) := by decide +kernel
theorem dX11_one_147 : decode cX11_one 147 = .ok (.getfield 35, 3) := by decide +kernel
theorem dX11_one_150 : decode cX11_one 150 = .ok (.iload_n 1, 1) := by decide +kernel
theorem dX11_one_151 : decode cX11_one 151 = .ok (.iconst 1, 1) := by decide +kernel
theorem dX11_one_152 : decode cX11_one 152 = .ok (.isub, 1) := by decide +kernel
theorem dX11_one_153 : decode cX11_one 153 = .ok (.iaload, 1) := by decide +kernel
theorem dX11_one_154 : decode cX11_one 154 = .ok (.iaload, 1) := by decide +kernel
theorem dX11_one_155 : decode cX11_one 155 = .ok (.iconst 5, 1) := by decide +kernel
theorem dX11_one_156 : decode cX11_one 156 = .ok (.if_icmp .eq 7, 3) := by decide +kernel
theorem dX11_one_159 : decode cX11_one 159 = .ok (.iconst 1, 1) := by decide +kernel
theorem dX11_one_160 : decode cX11_one 160 = .ok (.goto 4, 3) := by decide +kernel
theorem dX11_one_163 : decode cX11_one 163 = .ok (.iconst 0, 1) := by decide +kernel
theorem dX11_one_164 : decode cX11_one 164 = .ok (.invokevirtual 171, 3) := by decide +kernel
theorem dX11_one_167 : decode cX11_one 167 = .ok (.goto 24, 3) := by decide +kernel
theorem dX11_one_170 : decode cX11_one 170 = .ok (.aload_n 0, 1) := by decide +kernel
theorem dX11_one_171 : decode cX11_one 171 = .ok (.iconst 1, 1) := by decide +kernel
theorem dX11_one_172 : decode cX11_one 172 = .ok (.putfield 146, 3) := by decide +kernel
theorem dX11_one_175 : decode cX11_one 175 = .ok (.goto 16, 3) := by decide +kernel
theorem dX11_one_178 : decode cX11_one 178 = .ok (.aload_n 0, 1) := by decide +kernel
theorem dX11_one_179 : decode cX11_one 179 = .ok (.iconst 1, 1) := by decide +kernel
theorem dX11_one_180 : decode cX11_one 180 = .ok (.putfield 133, 3) := by decide +kernel
theorem dX11_one_183 : decode cX11_one 183 = .ok (.goto 8, 3) := by decide +kernel
theorem dX11_one_186 : decode cX11_one 186 = .ok (.aload_n 0, 1) := by decide +kernel
theorem dX11_one_187 : decode cX11_one 187 = .ok (.iconst 2, 1) := by decide +kernel
theorem dX11_one_188 : decode cX11_one 188 = .ok (.putfield 146, 3) := by decide +kernel
theorem dX11_one_191 : decode cX11_one 191 = .ok (.return_, 1) := by decide +kernel
set_option maxRecDepth 20000 in
theorem ggX11_all_X11_reads : GoodIn wsX11_all wsX11_reads := goodIn_r _ [15, 6, 9, 8, 16, 17, 18, 14, 19, 20, 21, 22, 89, 90, 91, 92, 93, 94, 95, 96, 97, 98, 99, 100, 101, 102, 103, 104, 105, 106, 107, 108, 109, 110, 111, 112, 113, 114, 115, 116, 117, 118, 119, 120, 121, 122, 123, 124, 125, 126, 127, 128, 129, 130, 131] (by decide +kernel) (by decide +kernel)
set_option maxRecDepth 20000 in
theorem gX11_all_X11_reads : GoodIn wsX11_all (wsV RX11 187 RX11 yX11_reads wsX11_reads) := goodIn_app (goodIn_of _ (by decide +kernel)) ggX11_all_X11_reads
set_option maxRecDepth 20000 in
theorem ggX11_all_X11_raw : GoodIn wsX11_all wsX11_raw := goodIn_r _ [26, 27, 28, 29, 30, 31, 14, 32, 33, 34, 35, 36, 37, 38, 39, 3, 5, 40, 41, 42, 43, 44, 89, 90, 91, 92, 93, 94, 95, 96, 97, 98, 99, 100, 101, 102, 103, 104, 105, 106, 107, 108, 109, 110, 111, 112, 113, 114, 115, 116, 117, 118, 119, 120, 121, 122, 123, 124, 125, 126, 127, 128, 129, 130, 131] (by decide +kernel) (by decide +kernel)
set_option maxRecDepth 20000 in
theorem gX11_all_X11_raw : GoodIn wsX11_all (wsV RX11 191 RX11 yX11_raw wsX11_raw) := goodIn_app (goodIn_of _ (by decide +kernel)) ggX11_all_X11_raw
set_option maxRecDepth 20000 in
theorem ggX11_all_X11_one : GoodIn wsX11_all wsX11_one := goodIn_r _ [48, 49, 5, 4, 8, 50, 51, 52, 14, 53, 54, 36, 37, 38, 39, 3, 40, 41, 42, 43, 44, 55, 56, 57, 58, 59, 60, 61, 62, 63, 64, 65, 66, 67, 68, 69, 70, 71, 72, 73, 74, 75, 76, 77, 78, 79, 80, 81, 82, 83, 84, 85, 86, 87, 88, 89, 90, 91, 92, 93, 94, 95, 96, 97, 98, 99, 100, 101, 102, 103, 104, 105, 106, 107, 108, 109, 110, 111, 112, 113, 114, 115, 116, 117, 118, 119, 120, 121, 122, 123, 124, 125, 126, 127, 128, 129, 130, 131] (by decide +kernel) (by decide +kernel)
set_option maxRecDepth 20000 in
theorem gX11_all_X11_one : GoodIn wsX11_all (wsV RX11 194 RX11 yX11_one wsX11_one) := goodIn_app (goodIn_of _ (by decide +kernel)) ggX11_all_X11_one
theorem dX11_all_0 : decode cX11_all 0 = .ok (.aload_n 0, 1) := by decide +kernel
theorem dX11_all_1 : decode cX11_all 1 = .ok (.aload_n 0, 1) := by decide +kernel
theorem dX11_all_2 : decode cX11_all 2 = .ok (.getfield 32, 3) := by decide +kernel
theorem dX11_all_5 : decode cX11_all 5 = .ok (.aload_n 0, 1) := by decide +kernel
theorem dX11_all_6 : decode cX11_all 6 = .ok (.getfield 124, 3) := by decide +kernel
theorem dX11_all_9 : decode cX11_all 9 = .ok (.invokevirtual 187, 3) := by decide +kernel
theorem dX11_all_12 : decode cX11_all 12 = .ok (.aload_n 0, 1) := by decide +kernel
theorem dX11_all_13 : decode cX11_all 13 = .ok (.iconst 0, 1) := by decide +kernel
theorem dX11_all_14 : decode cX11_all 14 = .ok (.putfield 130, 3) := by decide +kernel
theorem dX11_all_17 : decode cX11_all 17 = .ok (.aload_n 0, 1) := by decide +kernel
theorem dX11_all_18 : decode cX11_all 18 = .ok (.iconst 0, 1) := by decide +kernel
theorem dX11_all_19 : decode cX11_all 19 = .ok (.putfield 146, 3) := by decide +kernel
theorem dX11_all_22 : decode cX11_all 22 = .ok (.aload_n 0, 1) := by decide +kernel
theorem dX11_all_23 : decode cX11_all 23 = .ok (.iconst 0, 1) := by decide +kernel
theorem dX11_all_24 : decode cX11_all 24 = .ok (.putfield 133, 3) := by decide +kernel
theorem dX11_all_27 : decode cX11_all 27 = .ok (.iconst 0, 1) := by decide +kernel
theorem dX11_all_28 : decode cX11_all 28 = .ok (.istore_n 1, 1) := by decide +kernel
theorem dX11_all_29 : decode cX11_all 29 = .ok (.iload_n 1, 1) := by decide +kernel
theorem dX11_all_30 : decode cX11_all 30 = .ok (.aload_n 0, 1) := by decide +kernel
theorem dX11_all_31 : decode cX11_all 31 = .ok (.getfield 127, 3) := by decide +kernel
theorem dX11_all_34 : decode cX11_all 34 = .ok (.if_icmp .ge 68, 3) := by decide +kernel
theorem dX11_all_37 : decode cX11_all 37 = .ok (.aload_n 0, 1) := by decide +kernel
theorem dX11_all_38 : decode cX11_all 38 = .ok (.getfield 44, 3) := by decide +kernel
theorem dX11_all_41 : decode cX11_all 41 = .ok (.iload_n 1, 1) := by decide +kernel
theorem dX11_all_42 : decode cX11_all 42 = .ok (.aload_n 0, 1) := by decide +kernel
theorem dX11_all_43 : decode cX11_all 43 = .ok (.getfield 130, 3) := by decide +kernel
theorem dX11_all_46 : decode cX11_all 46 = .ok (.iastore, 1) := by decide +kernel
theorem dX11_all_47 : decode cX11_all 47 = .ok (.aload_n 0, 1) := by decide +kernel
theorem dX11_all_48 : decode cX11_all 48 = .ok (.getfield 35, 3) := by decide +kernel
theorem dX11_all_51 : decode cX11_all 51 = .ok (.iload_n 1, 1) := by decide +kernel
theorem dX11_all_52 : decode cX11_all 52 = .ok (.iaload, 1) := by decide +kernel
theorem dX11_all_53 : decode cX11_all 53 = .ok (.iconst (-1), 1) := by decide +kernel
theorem dX11_all_54 : decode cX11_all 54 = .ok (.if_icmp .ne 21, 3) := by decide +kernel
theorem dX11_all_57 : decode cX11_all 57 = .ok (.aload_n 0, 1) := by decide +kernel
theorem dX11_all_58 : decode cX11_all 58 = .ok (.aload_n 0, 1) := by decide +kernel
theorem dX11_all_59 : decode cX11_all 59 = .ok (.getfield 32, 3) := by decide +kernel
theorem dX11_all_62 : decode cX11_all 62 = .ok (.aload_n 0, 1) := by decide +kernel
theorem dX11_all_63 : decode cX11_all 63 = .ok (.getfield 38, 3) := by decide +kernel
theorem dX11_all_66 : decode cX11_all 66 = .ok (.iload_n 1, 1) := by decide +kernel
theorem dX11_all_67 : decode cX11_all 67 = .ok (.iaload, 1) := by decide +kernel
theorem dX11_all_68 : decode cX11_all 68 = .ok (.iaload, 1) := by decide +kernel
theorem dX11_all_69 : decode cX11_all 69 = .ok (.invokevirtual 191, 3) := by decide +kernel
theorem dX11_all_72 : decode cX11_all 72 = .ok (.goto 14, 3) := by decide +kernel
theorem dX11_all_75 : decode cX11_all 75 = .ok (.aload_n 0, 1) := by decide +kernel
theorem dX11_all_76 : decode cX11_all 76 = .ok (.iload_n 1, 1) := by decide +kernel
theorem dX11_all_77 : decode cX11_all 77 = .ok (.aload_n 0, 1) := by decide +kernel
theorem dX11_all_78 : decode cX11_all 78 = .ok (.getfield 35, 3) := by decide +kernel
theorem dX11_all_81 : decode cX11_all 81 = .ok (.iload_n 1, 1) := by decide +kernel
theorem dX11_all_82 : decode cX11_all 82 = .ok (.iaload, 1) := by decide +kernel
theorem dX11_all_83 : decode cX11_all 83 = .ok (.invokevirtual 194, 3) := by decide +kernel
theorem dX11_all_86 : decode cX11_all 86 = .ok (.aload_n 0, 1) := by decide +kernel
theorem dX11_all_87 : decode cX11_all 87 = .ok (.getfield 47, 3) := by decide +kernel
theorem dX11_all_90 : decode cX11_all 90 = .ok (.iload_n 1, 1) := by decide +kernel
theorem dX11_all_91 : decode cX11_all 91 = .ok (.aload_n 0, 1) := by decide +kernel
theorem dX11_all_92 : decode cX11_all 92 = .ok (.getfield 130, 3) := by decide +kernel
theorem dX11_all_95 : decode cX11_all 95 = .ok (.iastore, 1) := by decide +kernel
theorem dX11_all_96 : decode cX11_all 96 = .ok (.iinc 1 1, 3) := by decide +kernel
theorem dX11_all_99 : decode cX11_all 99 = .ok (.goto (-70), 3) := by decide +kernel
theorem dX11_all_102 : decode cX11_all 102 = .ok (.return_, 1) := by decide +kernel
set_option maxRecDepth 20000 in
theorem ggX11_isHere_X11_byteOf : GoodIn wsX11_isHere wsX11_byteOf := goodIn_r _ [7, 8, 9, 10, 11, 12, 13, 14, 15, 16, 17, 18, 19, 20, 21, 22, 23, 24, 25, 26, 27, 28, 29, 30, 31, 32, 33, 34, 35, 36, 37, 38, 39, 40, 41, 42, 43, 44, 45, 46, 47, 48, 49, 50, 51] (by decide +kernel) (by decide +kernel)
set_option maxRecDepth 20000 in
theorem gX11_isHere_X11_byteOf : GoodIn wsX11_isHere (wsV RX11 142 RX11 yX11_byteOf wsX11_byteOf) := goodIn_app (goodIn_of _ (by decide +kernel)) ggX11_isHere_X11_byteOf
theorem dX11_isHere_0 : decode cX11_isHere 0 = .ok (.iload_n 2, 1) := by decide +kernel
theorem dX11_isHere_1 : decode cX11_isHere 1 = .ok (.aload_n 0, 1) := by decide +kernel
theorem dX11_isHere_2 : decode cX11_isHere 2 = .ok (.getfield 23, 3) := by decide +kernel
theorem dX11_isHere_5 : decode cX11_isHere 5 = .ok (.iload_n 1, 1) := by decide +kernel
theorem dX11_isHere_6 : decode cX11_isHere 6 = .ok (.iaload, 1) := by decide +kernel
theorem dX11_isHere_7 : decode cX11_isHere 7 = .ok (.iadd, 1) := by decide +kernel
theorem dX11_isHere_8 : decode cX11_isHere 8 = .ok (.iload_n 3, 1) := by decide +kernel
theorem dX11_isHere_9 : decode cX11_isHere 9 = .ok (.if_icmp .gt 7, 3) := by decide +kernel
theorem dX11_isHere_12 : decode cX11_isHere 12 = .ok (.iconst 1, 1) := by decide +kernel
theorem dX11_isHere_13 : decode cX11_isHere 13 = .ok (.goto 4, 3) := by decide +kernel
theorem dX11_isHere_16 : decode cX11_isHere 16 = .ok (.iconst 0, 1) := by decide +kernel
theorem dX11_isHere_17 : decode cX11_isHere 17 = .ok (.istore 4, 2) := by decide +kernel
theorem dX11_isHere_19 : decode cX11_isHere 19 = .ok (.iconst 0, 1) := by decide +kernel
theorem dX11_isHere_20 : decode cX11_isHere 20 = .ok (.istore 5, 2) := by decide +kernel
theorem dX11_isHere_22 : decode cX11_isHere 22 = .ok (.iload 5, 2) := by decide +kernel
theorem dX11_isHere_24 : decode cX11_isHere 24 = .ok (.aload_n 0, 1) := by decide +kernel
theorem dX11_isHere_25 : decode cX11_isHere 25 = .ok (.getfield 23, 3) := by decide +kernel
theorem dX11_isHere_28 : decode cX11_isHere 28 = .ok (.iload_n 1, 1) := by decide +kernel
theorem dX11_isHere_29 : decode cX11_isHere 29 = .ok (.iaload, 1) := by decide +kernel
theorem dX11_isHere_30 : decode cX11_isHere 30 = .ok (.if_icmp .ge 44, 3) := by decide +kernel
theorem dX11_isHere_33 : decode cX11_isHere 33 = .ok (.iload 4, 2) := by decide +kernel
theorem dX11_isHere_35 : decode cX11_isHere 35 = .ok (.ifCond .eq 39, 3) := by decide +kernel
theorem dX11_isHere_38 : decode cX11_isHere 38 = .ok (.aload_n 0, 1) := by decide +kernel
theorem dX11_isHere_39 : decode cX11_isHere 39 = .ok (.iload_n 1, 1) := by decide +kernel
theorem dX11_isHere_40 : decode cX11_isHere 40 = .ok (.iload 5, 2) := by decide +kernel
theorem dX11_isHere_42 : decode cX11_isHere 42 = .ok (.invokevirtual 142, 3) := by decide +kernel
theorem dX11_isHere_45 : decode cX11_isHere 45 = .ok (.aload_n 0, 1) := by decide +kernel
theorem dX11_isHere_46 : decode cX11_isHere 46 = .ok (.getfield 53, 3) := by decide +kernel
theorem dX11_isHere_49 : decode cX11_isHere 49 = .ok (.iload_n 2, 1) := by decide +kernel
theorem dX11_isHere_50 : decode cX11_isHere 50 = .ok (.iload 5, 2) := by decide +kernel
theorem dX11_isHere_52 : decode cX11_isHere 52 = .ok (.iadd, 1) := by decide +kernel
theorem dX11_isHere_53 : decode cX11_isHere 53 = .ok (.baload, 1) := by decide +kernel
theorem dX11_isHere_54 : decode cX11_isHere 54 = .ok (.sipush 255, 3) := by decide +kernel
theorem dX11_isHere_57 : decode cX11_isHere 57 = .ok (.iand, 1) := by decide +kernel
theorem dX11_isHere_58 : decode cX11_isHere 58 = .ok (.if_icmp .ne 7, 3) := by decide +kernel
theorem dX11_isHere_61 : decode cX11_isHere 61 = .ok (.iconst 1, 1) := by decide +kernel
theorem dX11_isHere_62 : decode cX11_isHere 62 = .ok (.goto 4, 3) := by decide +kernel
theorem dX11_isHere_65 : decode cX11_isHere 65 = .ok (.iconst 0, 1) := by decide +kernel
theorem dX11_isHere_66 : decode cX11_isHere 66 = .ok (.istore 4, 2) := by decide +kernel
theorem dX11_isHere_68 : decode cX11_isHere 68 = .ok (.iinc 5 1, 3) := by decide +kernel
theorem dX11_isHere_71 : decode cX11_isHere 71 = .ok (.goto (-49), 3) := by decide +kernel
theorem dX11_isHere_74 : decode cX11_isHere 74 = .ok (.iload 4, 2) := by decide +kernel
theorem dX11_isHere_76 : decode cX11_isHere 76 = .ok (.ireturn, 1) := by decide +kernel
theorem dX11_offers_0 : decode cX11_offers 0 = .ok (.aload_n 0, 1) := by decide +kernel
theorem dX11_offers_1 : decode cX11_offers 1 = .ok (.getfield 197, 3) := by decide +kernel
theorem dX11_offers_4 : decode cX11_offers 4 = .ok (.ifCond .eq 36, 3) := by decide +kernel
theorem dX11_offers_7 : decode cX11_offers 7 = .ok (.aload_n 0, 1) := by decide +kernel
theorem dX11_offers_8 : decode cX11_offers 8 = .ok (.getfield 200, 3) := by decide +kernel
theorem dX11_offers_11 : decode cX11_offers 11 = .ok (.aload_n 0, 1) := by decide +kernel
theorem dX11_offers_12 : decode cX11_offers 12 = .ok (.getfield 203, 3) := by decide +kernel
theorem dX11_offers_15 : decode cX11_offers 15 = .ok (.if_icmp .lt 25, 3) := by decide +kernel
theorem dX11_offers_18 : decode cX11_offers 18 = .ok (.aload_n 0, 1) := by decide +kernel
theorem dX11_offers_19 : decode cX11_offers 19 = .ok (.getfield 200, 3) := by decide +kernel
theorem dX11_offers_22 : decode cX11_offers 22 = .ok (.aload_n 0, 1) := by decide +kernel
theorem dX11_offers_23 : decode cX11_offers 23 = .ok (.getfield 203, 3) := by decide +kernel
theorem dX11_offers_26 : decode cX11_offers 26 = .ok (.if_icmp .ne 18, 3) := by decide +kernel
theorem dX11_offers_29 : decode cX11_offers 29 = .ok (.aload_n 0, 1) := by decide +kernel
theorem dX11_offers_30 : decode cX11_offers 30 = .ok (.getfield 206, 3) := by decide +kernel
theorem dX11_offers_33 : decode cX11_offers 33 = .ok (.aload_n 0, 1) := by decide +kernel
theorem dX11_offers_34 : decode cX11_offers 34 = .ok (.getfield 197, 3) := by decide +kernel
theorem dX11_offers_37 : decode cX11_offers 37 = .ok (.if_icmp .ge 7, 3) := by decide +kernel
theorem dX11_offers_40 : decode cX11_offers 40 = .ok (.iconst 1, 1) := by decide +kernel
theorem dX11_offers_41 : decode cX11_offers 41 = .ok (.goto 4, 3) := by decide +kernel
theorem dX11_offers_44 : decode cX11_offers 44 = .ok (.iconst 0, 1) := by decide +kernel
theorem dX11_offers_45 : decode cX11_offers 45 = .ok (.istore_n 1, 1) := by decide +kernel
theorem dX11_offers_46 : decode cX11_offers 46 = .ok (.iload_n 1, 1) := by decide +kernel
theorem dX11_offers_47 : decode cX11_offers 47 = .ok (.ifCond .ne 86, 3) := by decide +kernel
theorem dX11_offers_50 : decode cX11_offers 50 = .ok (.aload_n 0, 1) := by decide +kernel
theorem dX11_offers_51 : decode cX11_offers 51 = .ok (.getfield 200, 3) := by decide +kernel
theorem dX11_offers_54 : decode cX11_offers 54 = .ok (.aload_n 0, 1) := by decide +kernel
theorem dX11_offers_55 : decode cX11_offers 55 = .ok (.getfield 203, 3) := by decide +kernel
theorem dX11_offers_58 : decode cX11_offers 58 = .ok (.if_icmp .ne 75, 3) := by decide +kernel
theorem dX11_offers_61 : decode cX11_offers 61 = .ok (.aload_n 0, 1) := by decide +kernel
theorem dX11_offers_62 : decode cX11_offers 62 = .ok (.getfield 206, 3) := by decide +kernel
theorem dX11_offers_65 : decode cX11_offers 65 = .ok (.aload_n 0, 1) := by decide +kernel
theorem dX11_offers_66 : decode cX11_offers 66 = .ok (.getfield 197, 3) := by decide +kernel
theorem dX11_offers_69 : decode cX11_offers 69 = .ok (.if_icmp .ne 64, 3) := by decide +kernel
theorem dX11_offers_72 : decode cX11_offers 72 = .ok (.iconst 0, 1) := by decide +kernel
theorem dX11_offers_73 : decode cX11_offers 73 = .ok (.istore_n 2, 1) := by decide +kernel
theorem dX11_offers_74 : decode cX11_offers 74 = .ok (.iload_n 2, 1) := by decide +kernel
theorem dX11_offers_75 : decode cX11_offers 75 = .ok (.aload_n 0, 1) := by decide +kernel
theorem dX11_offers_76 : decode cX11_offers 76 = .ok (.getfield 206, 3) := by decide +kernel
theorem dX11_offers_79 : decode cX11_offers 79 = .ok (.if_icmp .ge 25, 3) := by decide +kernel
theorem dX11_offers_82 : decode cX11_offers 82 = .ok (.aload_n 0, 1) := by decide +kernel
theorem dX11_offers_83 : decode cX11_offers 83 = .ok (.getfield 68, 3) := by decide +kernel
theorem dX11_offers_86 : decode cX11_offers 86 = .ok (.iload_n 2, 1) := by decide +kernel
theorem dX11_offers_87 : decode cX11_offers 87 = .ok (.iaload, 1) := by decide +kernel
theorem dX11_offers_88 : decode cX11_offers 88 = .ok (.aload_n 0, 1) := by decide +kernel
theorem dX11_offers_89 : decode cX11_offers 89 = .ok (.getfield 65, 3) := by decide +kernel
theorem dX11_offers_92 : decode cX11_offers 92 = .ok (.iload_n 2, 1) := by decide +kernel
theorem dX11_offers_93 : decode cX11_offers 93 = .ok (.iaload, 1) := by decide +kernel
theorem dX11_offers_94 : decode cX11_offers 94 = .ok (.if_icmp .ne 10, 3) := by decide +kernel
theorem dX11_offers_97 : decode cX11_offers 97 = .ok (.iload_n 2, 1) := by decide +kernel
theorem dX11_offers_98 : decode cX11_offers 98 = .ok (.iconst 1, 1) := by decide +kernel
theorem dX11_offers_99 : decode cX11_offers 99 = .ok (.iadd, 1) := by decide +kernel
theorem dX11_offers_100 : decode cX11_offers 100 = .ok (.istore_n 2, 1) := by decide +kernel
theorem dX11_offers_101 : decode cX11_offers 101 = .ok (.goto (-27), 3) := by decide +kernel
theorem dX11_offers_104 : decode cX11_offers 104 = .ok (.iload_n 2, 1) := by decide +kernel
theorem dX11_offers_105 : decode cX11_offers 105 = .ok (.aload_n 0, 1) := by decide +kernel
theorem dX11_offers_106 : decode cX11_offers 106 = .ok (.getfield 206, 3) := by decide +kernel
theorem dX11_offers_109 : decode cX11_offers 109 = .ok (.if_icmp .ge 22, 3) := by decide +kernel
theorem dX11_offers_112 : decode cX11_offers 112 = .ok (.aload_n 0, 1) := by decide +kernel
theorem dX11_offers_113 : decode cX11_offers 113 = .ok (.getfield 68, 3) := by decide +kernel
theorem dX11_offers_116 : decode cX11_offers 116 = .ok (.iload_n 2, 1) := by decide +kernel
theorem dX11_offers_117 : decode cX11_offers 117 = .ok (.iaload, 1) := by decide +kernel
theorem dX11_offers_118 : decode cX11_offers 118 = .ok (.aload_n 0, 1) := by decide +kernel
theorem dX11_offers_119 : decode cX11_offers 119 = .ok (.getfield 65, 3) := by decide +kernel
theorem dX11_offers_122 : decode cX11_offers 122 = .ok (.iload_n 2, 1) := by decide +kernel
theorem dX11_offers_123 : decode cX11_offers 123 = .ok (.iaload, 1) := by decide +kernel
theorem dX11_offers_124 : decode cX11_offers 124 = .ok (.if_icmp .ge 7, 3) := by decide +kernel
theorem dX11_offers_127 : decode cX11_offers 127 = .ok (.iconst 1, 1) := by decide +kernel
theorem dX11_offers_128 : decode cX11_offers 128 = .ok (.goto 4, 3) := by decide +kernel
theorem dX11_offers_131 : decode cX11_offers 131 = .ok (.iconst 0, 1) := by decide +kernel
theorem dX11_offers_132 : decode cX11_offers 132 = .ok (.istore_n 1, 1) := by decide +kernel
theorem dX11_offers_133 : decode cX11_offers 133 = .ok (.iload_n 1, 1) := by decide +kernel
theorem dX11_offers_134 : decode cX11_offers 134 = .ok (.ifCond .ne 4, 3) := by decide +kernel
theorem dX11_offers_137 : decode cX11_offers 137 = .ok (.return_, 1) := by decide +kernel
theorem dX11_offers_138 : decode cX11_offers 138 = .ok (.aload_n 0, 1) := by decide +kernel
theorem dX11_offers_139 : decode cX11_offers 139 = .ok (.aload_n 0, 1) := by decide +kernel
theorem dX11_offers_140 : decode cX11_offers 140 = .ok (.getfield 206, 3) := by decide +kernel
theorem dX11_offers_143 : decode cX11_offers 143 = .ok (.putfield 197, 3) := by decide +kernel
theorem dX11_offers_146 : decode cX11_offers 146 = .ok (.aload_n 0, 1) := by decide +kernel
theorem dX11_offers_147 : decode cX11_offers 147 = .ok (.aload_n 0, 1) := by decide +kernel
theorem dX11_offers_148 : decode cX11_offers 148 = .ok (.getfield 200, 3) := by decide +kernel
theorem dX11_offers_151 : decode cX11_offers 151 = .ok (.putfield 203, 3) := by decide +kernel
theorem dX11_offers_154 : decode cX11_offers 154 = .ok (.iconst 0, 1) := by decide +kernel
theorem dX11_offers_155 : decode cX11_offers 155 = .ok (.istore_n 2, 1) := by decide +kernel
theorem dX11_offers_156 : decode cX11_offers 156 = .ok (.iload_n 2, 1) := by decide +kernel
theorem dX11_offers_157 : decode cX11_offers 157 = .ok (.aload_n 0, 1) := by decide +kernel
theorem dX11_offers_158 : decode cX11_offers 158 = .ok (.getfield 206, 3) := by decide +kernel
theorem dX11_offers_161 : decode cX11_offers 161 = .ok (.if_icmp .ge 21, 3) := by decide +kernel
theorem dX11_offers_164 : decode cX11_offers 164 = .ok (.aload_n 0, 1) := by decide +kernel
theorem dX11_offers_165 : decode cX11_offers 165 = .ok (.getfield 65, 3) := by decide +kernel
theorem dX11_offers_168 : decode cX11_offers 168 = .ok (.iload_n 2, 1) := by decide +kernel
theorem dX11_offers_169 : decode cX11_offers 169 = .ok (.aload_n 0, 1) := by decide +kernel
theorem dX11_offers_170 : decode cX11_offers 170 = .ok (.getfield 68, 3) := by decide +kernel
theorem dX11_offers_173 : decode cX11_offers 173 = .ok (.iload_n 2, 1) := by decide +kernel
theorem dX11_offers_174 : decode cX11_offers 174 = .ok (.iaload, 1) := by decide +kernel
theorem dX11_offers_175 : decode cX11_offers 175 = .ok (.iastore, 1) := by decide +kernel
theorem dX11_offers_176 : decode cX11_offers 176 = .ok (.iinc 2 1, 3) := by decide +kernel
theorem dX11_offers_179 : decode cX11_offers 179 = .ok (.goto (-23), 3) := by decide +kernel
theorem dX11_offers_182 : decode cX11_offers 182 = .ok (.return_, 1) := by decide +kernel
theorem dX11_begins_0 : decode cX11_begins 0 = .ok (.aload_n 0, 1) := by decide +kernel
theorem dX11_begins_1 : decode cX11_begins 1 = .ok (.iconst 0, 1) := by decide +kernel
theorem dX11_begins_2 : decode cX11_begins 2 = .ok (.putfield 206, 3) := by decide +kernel
theorem dX11_begins_5 : decode cX11_begins 5 = .ok (.aload_n 0, 1) := by decide +kernel
theorem dX11_begins_6 : decode cX11_begins 6 = .ok (.iconst 0, 1) := by decide +kernel
theorem dX11_begins_7 : decode cX11_begins 7 = .ok (.putfield 200, 3) := by decide +kernel
theorem dX11_begins_10 : decode cX11_begins 10 = .ok (.return_, 1) := by decide +kernel
theorem dX11_tries_0 : decode cX11_tries 0 = .ok (.aload_n 0, 1) := by decide +kernel
theorem dX11_tries_1 : decode cX11_tries 1 = .ok (.getfield 68, 3) := by decide +kernel
theorem dX11_tries_4 : decode cX11_tries 4 = .ok (.aload_n 0, 1) := by decide +kernel
theorem dX11_tries_5 : decode cX11_tries 5 = .ok (.getfield 206, 3) := by decide +kernel
theorem dX11_tries_8 : decode cX11_tries 8 = .ok (.iload_n 1, 1) := by decide +kernel
theorem dX11_tries_9 : decode cX11_tries 9 = .ok (.iastore, 1) := by decide +kernel
theorem dX11_tries_10 : decode cX11_tries 10 = .ok (.aload_n 0, 1) := by decide +kernel
theorem dX11_tries_11 : decode cX11_tries 11 = .ok (.aload_n 0, 1) := by decide +kernel
theorem dX11_tries_12 : decode cX11_tries 12 = .ok (.getfield 206, 3) := by decide +kernel
theorem dX11_tries_15 : decode cX11_tries 15 = .ok (.iconst 1, 1) := by decide +kernel
theorem dX11_tries_16 : decode cX11_tries 16 = .ok (.iadd, 1) := by decide +kernel
theorem dX11_tries_17 : decode cX11_tries 17 = .ok (.putfield 206, 3) := by decide +kernel
theorem dX11_tries_20 : decode cX11_tries 20 = .ok (.aload_n 0, 1) := by decide +kernel
theorem dX11_tries_21 : decode cX11_tries 21 = .ok (.aload_n 0, 1) := by decide +kernel
theorem dX11_tries_22 : decode cX11_tries 22 = .ok (.getfield 200, 3) := by decide +kernel
theorem dX11_tries_25 : decode cX11_tries 25 = .ok (.aload_n 0, 1) := by decide +kernel
theorem dX11_tries_26 : decode cX11_tries 26 = .ok (.getfield 16, 3) := by decide +kernel
theorem dX11_tries_29 : decode cX11_tries 29 = .ok (.iload_n 1, 1) := by decide +kernel
theorem dX11_tries_30 : decode cX11_tries 30 = .ok (.iaload, 1) := by decide +kernel
theorem dX11_tries_31 : decode cX11_tries 31 = .ok (.iadd, 1) := by decide +kernel
theorem dX11_tries_32 : decode cX11_tries 32 = .ok (.putfield 200, 3) := by decide +kernel
theorem dX11_tries_35 : decode cX11_tries 35 = .ok (.return_, 1) := by decide +kernel
set_option maxRecDepth 20000 in
theorem ggX11_rows_X11_isHere : GoodIn wsX11_rows wsX11_isHere := goodIn_r _ [12, 5, 13, 14, 15, 16, 11, 17, 18, 37, 38, 39, 40, 41, 42, 43, 44, 45, 46, 47, 48, 49, 50, 51, 52, 53, 54, 55, 56, 57, 58, 59, 60, 61, 62, 63, 64, 65, 66, 67, 68, 69, 70, 71, 72, 73, 74, 75, 76, 77, 78, 79] (by decide +kernel) (by decide +kernel)
set_option maxRecDepth 20000 in
theorem gX11_rows_X11_isHere : GoodIn wsX11_rows (wsV RX11 209 RX11 yX11_isHere wsX11_isHere) := goodIn_app (goodIn_of _ (by decide +kernel)) ggX11_rows_X11_isHere
set_option maxRecDepth 20000 in
theorem ggX11_rows_X11_begins : GoodIn wsX11_rows wsX11_begins := goodIn_r _ [22, 23, 24, 37, 38, 39, 40, 41, 42, 43, 44, 45, 46, 47, 48, 49, 50, 51, 52, 53, 54, 55, 56, 57, 58, 59, 60, 61, 62, 63, 64, 65, 66, 67, 68, 69, 70, 71, 72, 73, 74, 75, 76, 77, 78, 79] (by decide +kernel) (by decide +kernel)
set_option maxRecDepth 20000 in
theorem gX11_rows_X11_begins : GoodIn wsX11_rows (wsV RX11 213 RX11 yX11_begins wsX11_begins) := goodIn_app (goodIn_of _ (by decide +kernel)) ggX11_rows_X11_begins
set_option maxRecDepth 20000 in
theorem ggX11_rows_X11_tries : GoodIn wsX11_rows wsX11_tries := goodIn_r _ [28, 29, 23, 24, 7, 37, 38, 39, 40, 41, 42, 43, 44, 45, 46, 47, 48, 49, 50, 51, 52, 53, 54, 55, 56, 57, 58, 59, 60, 61, 62, 63, 64, 65, 66, 67, 68, 69, 70, 71, 72, 73, 74, 75, 76, 77, 78, 79] (by decide +kernel) (by decide +kernel)
set_option maxRecDepth 20000 in
theorem gX11_rows_X11_tries : GoodIn wsX11_rows (wsV RX11 216 RX11 yX11_tries wsX11_tries) := goodIn_app (goodIn_of _ (by decide +kernel)) ggX11_rows_X11_tries
set_option maxRecDepth 20000 in
theorem ggX11_rows_X11_offers : GoodIn wsX11_rows wsX11_offers := goodIn_r _ [33, 34, 24, 35, 23, 29, 36, 37, 38, 39, 40, 41, 42, 43, 44, 45, 46, 47, 48, 49, 50, 51, 52, 53, 54, 55, 56, 57, 58, 59, 60, 61, 62, 63, 64, 65, 66, 67, 68, 69, 70, 71, 72, 73, 74, 75, 76, 77, 78, 79] (by decide +kernel) (by decide +kernel)
set_option maxRecDepth 20000 in
theorem gX11_rows_X11_offers : GoodIn wsX11_rows (wsV RX11 219 RX11 yX11_offers wsX11_offers) := goodIn_app (goodIn_of _ (by decide +kernel)) ggX11_rows_X11_offers
theorem dX11_rows_0 : decode cX11_rows 0 = .ok (.aload_n 0, 1) := by decide +kernel
theorem dX11_rows_1 : decode cX11_rows 1 = .ok (.getfield 56, 3) := by decide +kernel
theorem dX11_rows_4 : decode cX11_rows 4 = .ok (.iload_n 2, 1) := by decide +kernel
theorem dX11_rows_5 : decode cX11_rows 5 = .ok (.iload_n 1, 1) := by decide +kernel
theorem dX11_rows_6 : decode cX11_rows 6 = .ok (.isub, 1) := by decide +kernel
theorem dX11_rows_7 : decode cX11_rows 7 = .ok (.iconst (-1), 1) := by decide +kernel
theorem dX11_rows_8 : decode cX11_rows 8 = .ok (.iastore, 1) := by decide +kernel
theorem dX11_rows_9 : decode cX11_rows 9 = .ok (.aload_n 0, 1) := by decide +kernel
theorem dX11_rows_10 : decode cX11_rows 10 = .ok (.getfield 59, 3) := by decide +kernel
theorem dX11_rows_13 : decode cX11_rows 13 = .ok (.iload_n 2, 1) := by decide +kernel
theorem dX11_rows_14 : decode cX11_rows 14 = .ok (.iload_n 1, 1) := by decide +kernel
theorem dX11_rows_15 : decode cX11_rows 15 = .ok (.isub, 1) := by decide +kernel
theorem dX11_rows_16 : decode cX11_rows 16 = .ok (.iload_n 3, 1) := by decide +kernel
theorem dX11_rows_17 : decode cX11_rows 17 = .ok (.ifCond .eq 7, 3) := by decide +kernel
theorem dX11_rows_20 : decode cX11_rows 20 = .ok (.iconst 0, 1) := by decide +kernel
theorem dX11_rows_21 : decode cX11_rows 21 = .ok (.goto 4, 3) := by decide +kernel
theorem dX11_rows_24 : decode cX11_rows 24 = .ok (.iconst (-1), 1) := by decide +kernel
theorem dX11_rows_25 : decode cX11_rows 25 = .ok (.iastore, 1) := by decide +kernel
theorem dX11_rows_26 : decode cX11_rows 26 = .ok (.aload_n 0, 1) := by decide +kernel
theorem dX11_rows_27 : decode cX11_rows 27 = .ok (.getfield 62, 3) := by decide +kernel
theorem dX11_rows_30 : decode cX11_rows 30 = .ok (.iload_n 2, 1) := by decide +kernel
theorem dX11_rows_31 : decode cX11_rows 31 = .ok (.iload_n 1, 1) := by decide +kernel
theorem dX11_rows_32 : decode cX11_rows 32 = .ok (.isub, 1) := by decide +kernel
theorem dX11_rows_33 : decode cX11_rows 33 = .ok (.iconst 0, 1) := by decide +kernel
theorem dX11_rows_34 : decode cX11_rows 34 = .ok (.iastore, 1) := by decide +kernel
theorem dX11_rows_35 : decode cX11_rows 35 = .ok (.iload_n 2, 1) := by decide +kernel
theorem dX11_rows_36 : decode cX11_rows 36 = .ok (.iconst 1, 1) := by decide +kernel
theorem dX11_rows_37 : decode cX11_rows 37 = .ok (.isub, 1) := by decide +kernel
theorem dX11_rows_38 : decode cX11_rows 38 = .ok (.istore 4, 2) := by decide +kernel
theorem dX11_rows_40 : decode cX11_rows 40 = .ok (.iload 4, 2) := by decide +kernel
theorem dX11_rows_42 : decode cX11_rows 42 = .ok (.iload_n 1, 1) := by decide +kernel
theorem dX11_rows_43 : decode cX11_rows 43 = .ok (.if_icmp .lt 266, 3) := by decide +kernel
theorem dX11_rows_46 : decode cX11_rows 46 = .ok (.iload 4, 2) := by decide +kernel
theorem dX11_rows_48 : decode cX11_rows 48 = .ok (.iload_n 1, 1) := by decide +kernel
theorem dX11_rows_49 : decode cX11_rows 49 = .ok (.isub, 1) := by decide +kernel
theorem dX11_rows_50 : decode cX11_rows 50 = .ok (.istore 5, 2) := by decide +kernel
theorem dX11_rows_52 : decode cX11_rows 52 = .ok (.aload_n 0, 1) := by decide +kernel
theorem dX11_rows_53 : decode cX11_rows 53 = .ok (.getfield 59, 3) := by decide +kernel
theorem dX11_rows_56 : decode cX11_rows 56 = .ok (.iload 5, 2) := by decide +kernel
theorem dX11_rows_58 : decode cX11_rows 58 = .ok (.iconst (-1), 1) := by decide +kernel
theorem dX11_rows_59 : decode cX11_rows 59 = .ok (.iastore, 1) := by decide +kernel
theorem dX11_rows_60 : decode cX11_rows 60 = .ok (.iconst 0, 1) := by decide +kernel
theorem dX11_rows_61 : decode cX11_rows 61 = .ok (.istore 6, 2) := by decide +kernel
theorem dX11_rows_63 : decode cX11_rows 63 = .ok (.iload 6, 2) := by decide +kernel
theorem dX11_rows_65 : decode cX11_rows 65 = .ok (.aload_n 0, 1) := by decide +kernel
theorem dX11_rows_66 : decode cX11_rows 66 = .ok (.getfield 92, 3) := by decide +kernel
theorem dX11_rows_69 : decode cX11_rows 69 = .ok (.if_icmp .ge 234, 3) := by decide +kernel
theorem dX11_rows_72 : decode cX11_rows 72 = .ok (.aload_n 0, 1) := by decide +kernel
theorem dX11_rows_73 : decode cX11_rows 73 = .ok (.getfield 23, 3) := by decide +kernel
theorem dX11_rows_76 : decode cX11_rows 76 = .ok (.iload 6, 2) := by decide +kernel
theorem dX11_rows_78 : decode cX11_rows 78 = .ok (.iaload, 1) := by decide +kernel
theorem dX11_rows_79 : decode cX11_rows 79 = .ok (.istore 7, 2) := by decide +kernel
theorem dX11_rows_81 : decode cX11_rows 81 = .ok (.iload_n 3, 1) := by decide +kernel
theorem dX11_rows_82 : decode cX11_rows 82 = .ok (.ifCond .ne 26, 3) := by decide +kernel
theorem dX11_rows_85 : decode cX11_rows 85 = .ok (.aload_n 0, 1) := by decide +kernel
theorem dX11_rows_86 : decode cX11_rows 86 = .ok (.getfield 20, 3) := by decide +kernel
theorem dX11_rows_89 : decode cX11_rows 89 = .ok (.iload 6, 2) := by decide +kernel
theorem dX11_rows_91 : decode cX11_rows 91 = .ok (.iaload, 1) := by decide +kernel
theorem dX11_rows_92 : decode cX11_rows 92 = .ok (.ifCond .ne 16, 3) := by decide +kernel
theorem dX11_rows_95 : decode cX11_rows 95 = .ok (.iload 4, 2) := by decide +kernel
theorem dX11_rows_97 : decode cX11_rows 97 = .ok (.iload 7, 2) := by decide +kernel
theorem dX11_rows_99 : decode cX11_rows 99 = .ok (.iadd, 1) := by decide +kernel
theorem dX11_rows_100 : decode cX11_rows 100 = .ok (.iload_n 2, 1) := by decide +kernel
theorem dX11_rows_101 : decode cX11_rows 101 = .ok (.if_icmp .ne 7, 3) := by decide +kernel
theorem dX11_rows_104 : decode cX11_rows 104 = .ok (.iconst 1, 1) := by decide +kernel
theorem dX11_rows_105 : decode cX11_rows 105 = .ok (.goto 4, 3) := by decide +kernel
theorem dX11_rows_108 : decode cX11_rows 108 = .ok (.iconst 0, 1) := by decide +kernel
theorem dX11_rows_109 : decode cX11_rows 109 = .ok (.istore 8, 2) := by decide +kernel
theorem dX11_rows_111 : decode cX11_rows 111 = .ok (.iload 8, 2) := by decide +kernel
theorem dX11_rows_113 : decode cX11_rows 113 = .ok (.ifCond .ne 22, 3) := by decide +kernel
theorem dX11_rows_116 : decode cX11_rows 116 = .ok (.aload_n 0, 1) := by decide +kernel
theorem dX11_rows_117 : decode cX11_rows 117 = .ok (.getfield 20, 3) := by decide +kernel
theorem dX11_rows_120 : decode cX11_rows 120 = .ok (.iload 6, 2) := by decide +kernel
theorem dX11_rows_122 : decode cX11_rows 122 = .ok (.iaload, 1) := by decide +kernel
theorem dX11_rows_123 : decode cX11_rows 123 = .ok (.iload_n 3, 1) := by decide +kernel
theorem dX11_rows_124 : decode cX11_rows 124 = .ok (.ifCond .eq 7, 3) := by decide +kernel
theorem dX11_rows_127 : decode cX11_rows 127 = .ok (.iconst 5, 1) := by decide +kernel
theorem dX11_rows_128 : decode cX11_rows 128 = .ok (.goto 4, 3) := by decide +kernel
theorem dX11_rows_131 : decode cX11_rows 131 = .ok (.iconst 1, 1) := by decide +kernel
theorem dX11_rows_132 : decode cX11_rows 132 = .ok (.if_icmp .ne 165, 3) := by decide +kernel
theorem dX11_rows_135 : decode cX11_rows 135 = .ok (.aload_n 0, 1) := by decide +kernel
theorem dX11_rows_136 : decode cX11_rows 136 = .ok (.iload 6, 2) := by decide +kernel
theorem dX11_rows_138 : decode cX11_rows 138 = .ok (.iload 4, 2) := by decide +kernel
theorem dX11_rows_140 : decode cX11_rows 140 = .ok (.iload_n 2, 1) := by decide +kernel
theorem dX11_rows_141 : decode cX11_rows 141 = .ok (.invokevirtual 209, 3) := by decide +kernel
theorem dX11_rows_144 : decode cX11_rows 144 = .ok (.ifCond .ne 6, 3) := by decide +kernel
theorem dX11_rows_147 : decode cX11_rows 147 = .ok (.goto 150, 3) := by decide +kernel
theorem dX11_rows_150 : decode cX11_rows 150 = .ok (.aload_n 0, 1) := by decide +kernel
theorem dX11_rows_151 : decode cX11_rows 151 = .ok (.getfield 59, 3) := by decide +kernel
theorem dX11_rows_154 : decode cX11_rows 154 = .ok (.iload 5, 2) := by decide +kernel
theorem dX11_rows_156 : decode cX11_rows 156 = .ok (.iload 7, 2) := by decide +kernel
theorem dX11_rows_158 : decode cX11_rows 158 = .ok (.iadd, 1) := by decide +kernel
theorem dX11_rows_159 : decode cX11_rows 159 = .ok (.iaload, 1) := by decide +kernel
theorem dX11_rows_160 : decode cX11_rows 160 = .ok (.istore 9, 2) := by decide +kernel
theorem dX11_rows_162 : decode cX11_rows 162 = .ok (.iload 8, 2) := by decide +kernel
theorem dX11_rows_164 : decode cX11_rows 164 = .ok (.ifCond .ne 12, 3) := by decide +kernel
theorem dX11_rows_167 : decode cX11_rows 167 = .ok (.iload 9, 2) := by decide +kernel
theorem dX11_rows_169 : decode cX11_rows 169 = .ok (.iconst (-1), 1) := by decide +kernel
theorem dX11_rows_170 : decode cX11_rows 170 = .ok (.if_icmp .ne 6, 3) := by decide +kernel
theorem dX11_rows_173 : decode cX11_rows 173 = .ok (.goto 124, 3) := by decide +kernel
theorem dX11_rows_176 : decode cX11_rows 176 = .ok (.aload_n 0, 1) := by decide +kernel
theorem dX11_rows_177 : decode cX11_rows 177 = .ok (.getfield 16, 3) := by decide +kernel
theorem dX11_rows_180 : decode cX11_rows 180 = .ok (.iload 6, 2) := by decide +kernel
theorem dX11_rows_182 : decode cX11_rows 182 = .ok (.iaload, 1) := by decide +kernel
theorem dX11_rows_183 : decode cX11_rows 183 = .ok (.iload 8, 2) := by decide +kernel
theorem dX11_rows_185 : decode cX11_rows 185 = .ok (.ifCond .eq 7, 3) := by decide +kernel
theorem dX11_rows_188 : decode cX11_rows 188 = .ok (.iconst 0, 1) := by decide +kernel
theorem dX11_rows_189 : decode cX11_rows 189 = .ok (.goto 5, 3) := by decide +kernel
theorem dX11_rows_192 : decode cX11_rows 192 = .ok (.iload 9, 2) := by decide +kernel
theorem dX11_rows_194 : decode cX11_rows 194 = .ok (.iadd, 1) := by decide +kernel
theorem dX11_rows_195 : decode cX11_rows 195 = .ok (.istore 10, 2) := by decide +kernel
theorem dX11_rows_197 : decode cX11_rows 197 = .ok (.iconst 1, 1) := by decide +kernel
theorem dX11_rows_198 : decode cX11_rows 198 = .ok (.iload 8, 2) := by decide +kernel
theorem dX11_rows_200 : decode cX11_rows 200 = .ok (.ifCond .eq 7, 3) := by decide +kernel
theorem dX11_rows_203 : decode cX11_rows 203 = .ok (.iconst 0, 1) := by decide +kernel
theorem dX11_rows_204 : decode cX11_rows 204 = .ok (.goto 13, 3) := by decide +kernel
theorem dX11_rows_207 : decode cX11_rows 207 = .ok (.aload_n 0, 1) := by decide +kernel
theorem dX11_rows_208 : decode cX11_rows 208 = .ok (.getfield 62, 3) := by decide +kernel
theorem dX11_rows_211 : decode cX11_rows 211 = .ok (.iload 5, 2) := by decide +kernel
theorem dX11_rows_213 : decode cX11_rows 213 = .ok (.iload 7, 2) := by decide +kernel
theorem dX11_rows_215 : decode cX11_rows 215 = .ok (.iadd, 1) := by decide +kernel
theorem dX11_rows_216 : decode cX11_rows 216 = .ok (.iaload, 1) := by decide +kernel
theorem dX11_rows_217 : decode cX11_rows 217 = .ok (.iadd, 1) := by decide +kernel
theorem dX11_rows_218 : decode cX11_rows 218 = .ok (.istore 11, 2) := by decide +kernel
theorem dX11_rows_220 : decode cX11_rows 220 = .ok (.aload_n 0, 1) := by decide +kernel
theorem dX11_rows_221 : decode cX11_rows 221 = .ok (.getfield 59, 3) := by decide +kernel
theorem dX11_rows_224 : decode cX11_rows 224 = .ok (.iload 5, 2) := by decide +kernel
theorem dX11_rows_226 : decode cX11_rows 226 = .ok (.iaload, 1) := by decide +kernel
theorem dX11_rows_227 : decode cX11_rows 227 = .ok (.iconst (-1), 1) := by decide +kernel
theorem dX11_rows_228 : decode cX11_rows 228 = .ok (.if_icmp .eq 42, 3) := by decide +kernel
theorem dX11_rows_231 : decode cX11_rows 231 = .ok (.iload 10, 2) := by decide +kernel
theorem dX11_rows_233 : decode cX11_rows 233 = .ok (.aload_n 0, 1) := by decide +kernel
theorem dX11_rows_234 : decode cX11_rows 234 = .ok (.getfield 59, 3) := by decide +kernel
theorem dX11_rows_237 : decode cX11_rows 237 = .ok (.iload 5, 2) := by decide +kernel
theorem dX11_rows_239 : decode cX11_rows 239 = .ok (.iaload, 1) := by decide +kernel
theorem dX11_rows_240 : decode cX11_rows 240 = .ok (.if_icmp .gt 57, 3) := by decide +kernel
theorem dX11_rows_243 : decode cX11_rows 243 = .ok (.iload 10, 2) := by decide +kernel
theorem dX11_rows_245 : decode cX11_rows 245 = .ok (.aload_n 0, 1) := by decide +kernel
theorem dX11_rows_246 : decode cX11_rows 246 = .ok (.getfield 59, 3) := by decide +kernel
theorem dX11_rows_249 : decode cX11_rows 249 = .ok (.iload 5, 2) := by decide +kernel
theorem dX11_rows_251 : decode cX11_rows 251 = .ok (.iaload, 1) := by decide +kernel
theorem dX11_rows_252 : decode cX11_rows 252 = .ok (.if_icmp .ne 18, 3) := by decide +kernel
theorem dX11_rows_255 : decode cX11_rows 255 = .ok (.iload 11, 2) := by decide +kernel
theorem dX11_rows_257 : decode cX11_rows 257 = .ok (.aload_n 0, 1) := by decide +kernel
theorem dX11_rows_258 : decode cX11_rows 258 = .ok (.getfield 62, 3) := by decide +kernel
theorem dX11_rows_261 : decode cX11_rows 261 = .ok (.iload 5, 2) := by decide +kernel
theorem dX11_rows_263 : decode cX11_rows 263 = .ok (.iaload, 1) := by decide +kernel
theorem dX11_rows_264 : decode cX11_rows 264 = .ok (.if_icmp .lt 6, 3) := by decide +kernel
theorem dX11_rows_267 : decode cX11_rows 267 = .ok (.goto 30, 3) := by decide +kernel
theorem dX11_rows_270 : decode cX11_rows 270 = .ok (.aload_n 0, 1) := by decide +kernel
theorem dX11_rows_271 : decode cX11_rows 271 = .ok (.getfield 56, 3) := by decide +kernel
theorem dX11_rows_274 : decode cX11_rows 274 = .ok (.iload 5, 2) := by decide +kernel
theorem dX11_rows_276 : decode cX11_rows 276 = .ok (.iload 6, 2) := by decide +kernel
theorem dX11_rows_278 : decode cX11_rows 278 = .ok (.iastore, 1) := by decide +kernel
theorem dX11_rows_279 : decode cX11_rows 279 = .ok (.aload_n 0, 1) := by decide +kernel
theorem dX11_rows_280 : decode cX11_rows 280 = .ok (.getfield 59, 3) := by decide +kernel
theorem dX11_rows_283 : decode cX11_rows 283 = .ok (.iload 5, 2) := by decide +kernel
theorem dX11_rows_285 : decode cX11_rows 285 = .ok (.iload 10, 2) := by decide +kernel
theorem dX11_rows_287 : decode cX11_rows 287 = .ok (.iastore, 1) := by decide +kernel
theorem dX11_rows_288 : decode cX11_rows 288 = .ok (.aload_n 0, 1) := by decide +kernel
theorem dX11_rows_289 : decode cX11_rows 289 = .ok (.getfield 62, 3) := by decide +kernel
theorem dX11_rows_292 : decode cX11_rows 292 = .ok (.iload 5, 2) := by decide +kernel
theorem dX11_rows_294 : decode cX11_rows 294 = .ok (.iload 11, 2) := by decide +kernel
theorem dX11_rows_296 : decode cX11_rows 296 = .ok (.iastore, 1) := by decide +kernel
theorem dX11_rows_297 : decode cX11_rows 297 = .ok (.iinc 6 1, 3) := by decide +kernel
theorem dX11_rows_300 : decode cX11_rows 300 = .ok (.goto (-237), 3) := by decide +kernel
theorem dX11_rows_303 : decode cX11_rows 303 = .ok (.iinc 4 (-1), 3) := by decide +kernel
theorem dX11_rows_306 : decode cX11_rows 306 = .ok (.goto (-266), 3) := by decide +kernel
theorem dX11_rows_309 : decode cX11_rows 309 = .ok (.aload_n 0, 1) := by decide +kernel
theorem dX11_rows_310 : decode cX11_rows 310 = .ok (.getfield 59, 3) := by decide +kernel
theorem dX11_rows_313 : decode cX11_rows 313 = .ok (.iconst 0, 1) := by decide +kernel
theorem dX11_rows_314 : decode cX11_rows 314 = .ok (.iaload, 1) := by decide +kernel
theorem dX11_rows_315 : decode cX11_rows 315 = .ok (.iconst (-1), 1) := by decide +kernel
theorem dX11_rows_316 : decode cX11_rows 316 = .ok (.if_icmp .ne 4, 3) := by decide +kernel
theorem dX11_rows_319 : decode cX11_rows 319 = .ok (.return_, 1) := by decide +kernel
theorem dX11_rows_320 : decode cX11_rows 320 = .ok (.aload_n 0, 1) := by decide +kernel
theorem dX11_rows_321 : decode cX11_rows 321 = .ok (.invokevirtual 213, 3) := by decide +kernel
theorem dX11_rows_324 : decode cX11_rows 324 = .ok (.iconst 0, 1) := by decide +kernel
theorem dX11_rows_325 : decode cX11_rows 325 = .ok (.istore 4, 2) := by decide +kernel
theorem dX11_rows_327 : decode cX11_rows 327 = .ok (.iload 4, 2) := by decide +kernel
theorem dX11_rows_329 : decode cX11_rows 329 = .ok (.iload_n 2, 1) := by decide +kernel
theorem dX11_rows_330 : decode cX11_rows 330 = .ok (.iload_n 1, 1) := by decide +kernel
theorem dX11_rows_331 : decode cX11_rows 331 = .ok (.isub, 1) := by decide +kernel
theorem dX11_rows_332 : decode cX11_rows 332 = .ok (.if_icmp .ge 33, 3) := by decide +kernel
theorem dX11_rows_335 : decode cX11_rows 335 = .ok (.aload_n 0, 1) := by decide +kernel
theorem dX11_rows_336 : decode cX11_rows 336 = .ok (.getfield 56, 3) := by decide +kernel
theorem dX11_rows_339 : decode cX11_rows 339 = .ok (.iload 4, 2) := by decide +kernel
theorem dX11_rows_341 : decode cX11_rows 341 = .ok (.iaload, 1) := by decide +kernel
theorem dX11_rows_342 : decode cX11_rows 342 = .ok (.istore 5, 2) := by decide +kernel
theorem dX11_rows_344 : decode cX11_rows 344 = .ok (.aload_n 0, 1) := by decide +kernel
theorem dX11_rows_345 : decode cX11_rows 345 = .ok (.iload 5, 2) := by decide +kernel
theorem dX11_rows_347 : decode cX11_rows 347 = .ok (.invokevirtual 216, 3) := by decide +kernel
theorem dX11_rows_350 : decode cX11_rows 350 = .ok (.iload 4, 2) := by decide +kernel
theorem dX11_rows_352 : decode cX11_rows 352 = .ok (.aload_n 0, 1) := by decide +kernel
theorem dX11_rows_353 : decode cX11_rows 353 = .ok (.getfield 23, 3) := by decide +kernel
theorem dX11_rows_356 : decode cX11_rows 356 = .ok (.iload 5, 2) := by decide +kernel
theorem dX11_rows_358 : decode cX11_rows 358 = .ok (.iaload, 1) := by decide +kernel
theorem dX11_rows_359 : decode cX11_rows 359 = .ok (.iadd, 1) := by decide +kernel
theorem dX11_rows_360 : decode cX11_rows 360 = .ok (.istore 4, 2) := by decide +kernel
theorem dX11_rows_362 : decode cX11_rows 362 = .ok (.goto (-35), 3) := by decide +kernel
theorem dX11_rows_365 : decode cX11_rows 365 = .ok (.aload_n 0, 1) := by decide +kernel
theorem dX11_rows_366 : decode cX11_rows 366 = .ok (.invokevirtual 219, 3) := by decide +kernel
theorem dX11_rows_369 : decode cX11_rows 369 = .ok (.return_, 1) := by decide +kernel
set_option maxRecDepth 20000 in
theorem ggX11_isJoined_X11_byteOf : GoodIn wsX11_isJoined wsX11_byteOf := goodIn_r _ [10, 11, 34, 35, 36, 37, 38, 39, 40, 41, 42, 43, 44, 45, 46, 47, 48, 49, 50, 51, 52, 53, 54, 55, 56, 57, 58, 59, 60, 61, 62, 63, 64, 65, 66, 67, 68, 69, 70, 71, 72, 73, 74, 75, 76] (by decide +kernel) (by decide +kernel)
set_option maxRecDepth 20000 in
theorem gX11_isJoined_X11_byteOf : GoodIn wsX11_isJoined (wsV RX11 142 RX11 yX11_byteOf wsX11_byteOf) := goodIn_app (goodIn_of _ (by decide +kernel)) ggX11_isJoined_X11_byteOf
set_option maxRecDepth 20000 in
theorem ggX11_isJoined_X11_puts : GoodIn wsX11_isJoined wsX11_puts := goodIn_r _ [15, 4, 1, 34, 35, 36, 37, 38, 39, 40, 41, 42, 43, 44, 45, 46, 47, 48, 49, 50, 51, 52, 53, 54, 55, 56, 57, 58, 59, 60, 61, 62, 63, 64, 65, 66, 67, 68, 69, 70, 71, 72, 73, 74, 75, 76] (by decide +kernel) (by decide +kernel)
set_option maxRecDepth 20000 in
theorem gX11_isJoined_X11_puts : GoodIn wsX11_isJoined (wsV RX11 136 RX11 yX11_puts wsX11_puts) := goodIn_app (goodIn_of _ (by decide +kernel)) ggX11_isJoined_X11_puts
set_option maxRecDepth 20000 in
theorem ggX11_isJoined_X11_joins : GoodIn wsX11_isJoined wsX11_joins := goodIn_r _ [19, 2, 4, 1, 20, 21, 22, 9, 23, 3, 6, 7, 8, 10, 11, 24, 25, 26, 27, 28, 29, 30, 31, 32, 33, 12, 13, 14, 15, 34, 35, 36, 37, 38, 39, 40, 41, 42, 43, 44, 45, 46, 47, 48, 49, 50, 51, 52, 53, 54, 55, 56, 57, 58, 59, 60, 61, 62, 63, 64, 65, 66, 67, 68, 69, 70, 71, 72, 73, 74, 75, 76] (by decide +kernel) (by decide +kernel)
set_option maxRecDepth 20000 in
theorem gX11_isJoined_X11_joins : GoodIn wsX11_isJoined (wsV RX11 175 RX11 yX11_joins wsX11_joins) := goodIn_app (goodIn_of _ (by decide +kernel)) ggX11_isJoined_X11_joins
theorem dX11_isJoined_0 : decode cX11_isJoined 0 = .ok (.aload_n 0, 1) := by decide +kernel
theorem dX11_isJoined_1 : decode cX11_isJoined 1 = .ok (.iconst 0, 1) := by decide +kernel
theorem dX11_isJoined_2 : decode cX11_isJoined 2 = .ok (.putfield 130, 3) := by decide +kernel
theorem dX11_isJoined_5 : decode cX11_isJoined 5 = .ok (.iconst 0, 1) := by decide +kernel
theorem dX11_isJoined_6 : decode cX11_isJoined 6 = .ok (.istore 5, 2) := by decide +kernel
theorem dX11_isJoined_8 : decode cX11_isJoined 8 = .ok (.iload 5, 2) := by decide +kernel
theorem dX11_isJoined_10 : decode cX11_isJoined 10 = .ok (.aload_n 0, 1) := by decide +kernel
theorem dX11_isJoined_11 : decode cX11_isJoined 11 = .ok (.getfield 23, 3) := by decide +kernel
theorem dX11_isJoined_14 : decode cX11_isJoined 14 = .ok (.iload_n 1, 1) := by decide +kernel
theorem dX11_isJoined_15 : decode cX11_isJoined 15 = .ok (.iaload, 1) := by decide +kernel
theorem dX11_isJoined_16 : decode cX11_isJoined 16 = .ok (.if_icmp .ge 20, 3) := by decide +kernel
theorem dX11_isJoined_19 : decode cX11_isJoined 19 = .ok (.aload_n 0, 1) := by decide +kernel
theorem dX11_isJoined_20 : decode cX11_isJoined 20 = .ok (.aload_n 0, 1) := by decide +kernel
theorem dX11_isJoined_21 : decode cX11_isJoined 21 = .ok (.iload_n 1, 1) := by decide +kernel
theorem dX11_isJoined_22 : decode cX11_isJoined 22 = .ok (.iload 5, 2) := by decide +kernel
theorem dX11_isJoined_24 : decode cX11_isJoined 24 = .ok (.invokevirtual 142, 3) := by decide +kernel
theorem dX11_isJoined_27 : decode cX11_isJoined 27 = .ok (.invokevirtual 136, 3) := by decide +kernel
theorem dX11_isJoined_30 : decode cX11_isJoined 30 = .ok (.iinc 5 1, 3) := by decide +kernel
theorem dX11_isJoined_33 : decode cX11_isJoined 33 = .ok (.goto (-25), 3) := by decide +kernel
theorem dX11_isJoined_36 : decode cX11_isJoined 36 = .ok (.aload_n 0, 1) := by decide +kernel
theorem dX11_isJoined_37 : decode cX11_isJoined 37 = .ok (.aload_n 0, 1) := by decide +kernel
theorem dX11_isJoined_38 : decode cX11_isJoined 38 = .ok (.getfield 130, 3) := by decide +kernel
theorem dX11_isJoined_41 : decode cX11_isJoined 41 = .ok (.putfield 156, 3) := by decide +kernel
theorem dX11_isJoined_44 : decode cX11_isJoined 44 = .ok (.aload_n 0, 1) := by decide +kernel
theorem dX11_isJoined_45 : decode cX11_isJoined 45 = .ok (.iload_n 2, 1) := by decide +kernel
theorem dX11_isJoined_46 : decode cX11_isJoined 46 = .ok (.invokevirtual 175, 3) := by decide +kernel
theorem dX11_isJoined_49 : decode cX11_isJoined 49 = .ok (.aload_n 0, 1) := by decide +kernel
theorem dX11_isJoined_50 : decode cX11_isJoined 50 = .ok (.getfield 130, 3) := by decide +kernel
theorem dX11_isJoined_53 : decode cX11_isJoined 53 = .ok (.iload 4, 2) := by decide +kernel
theorem dX11_isJoined_55 : decode cX11_isJoined 55 = .ok (.iload_n 3, 1) := by decide +kernel
theorem dX11_isJoined_56 : decode cX11_isJoined 56 = .ok (.isub, 1) := by decide +kernel
theorem dX11_isJoined_57 : decode cX11_isJoined 57 = .ok (.if_icmp .ne 7, 3) := by decide +kernel
theorem dX11_isJoined_60 : decode cX11_isJoined 60 = .ok (.iconst 1, 1) := by decide +kernel
theorem dX11_isJoined_61 : decode cX11_isJoined 61 = .ok (.goto 4, 3) := by decide +kernel
theorem dX11_isJoined_64 : decode cX11_isJoined 64 = .ok (.iconst 0, 1) := by decide +kernel
theorem dX11_isJoined_65 : decode cX11_isJoined 65 = .ok (.istore 5, 2) := by decide +kernel
theorem dX11_isJoined_67 : decode cX11_isJoined 67 = .ok (.iconst 0, 1) := by decide +kernel
theorem dX11_isJoined_68 : decode cX11_isJoined 68 = .ok (.istore 6, 2) := by decide +kernel
theorem dX11_isJoined_70 : decode cX11_isJoined 70 = .ok (.iload 6, 2) := by decide +kernel
theorem dX11_isJoined_72 : decode cX11_isJoined 72 = .ok (.aload_n 0, 1) := by decide +kernel
theorem dX11_isJoined_73 : decode cX11_isJoined 73 = .ok (.getfield 130, 3) := by decide +kernel
theorem dX11_isJoined_76 : decode cX11_isJoined 76 = .ok (.if_icmp .ge 40, 3) := by decide +kernel
theorem dX11_isJoined_79 : decode cX11_isJoined 79 = .ok (.iload 5, 2) := by decide +kernel
theorem dX11_isJoined_81 : decode cX11_isJoined 81 = .ok (.ifCond .eq 35, 3) := by decide +kernel
theorem dX11_isJoined_84 : decode cX11_isJoined 84 = .ok (.aload_n 0, 1) := by decide +kernel
theorem dX11_isJoined_85 : decode cX11_isJoined 85 = .ok (.getfield 41, 3) := by decide +kernel
theorem dX11_isJoined_88 : decode cX11_isJoined 88 = .ok (.iload 6, 2) := by decide +kernel
theorem dX11_isJoined_90 : decode cX11_isJoined 90 = .ok (.baload, 1) := by decide +kernel
theorem dX11_isJoined_91 : decode cX11_isJoined 91 = .ok (.aload_n 0, 1) := by decide +kernel
theorem dX11_isJoined_92 : decode cX11_isJoined 92 = .ok (.getfield 53, 3) := by decide +kernel
theorem dX11_isJoined_95 : decode cX11_isJoined 95 = .ok (.iload_n 3, 1) := by decide +kernel
theorem dX11_isJoined_96 : decode cX11_isJoined 96 = .ok (.iload 6, 2) := by decide +kernel
theorem dX11_isJoined_98 : decode cX11_isJoined 98 = .ok (.iadd, 1) := by decide +kernel
theorem dX11_isJoined_99 : decode cX11_isJoined 99 = .ok (.baload, 1) := by decide +kernel
theorem dX11_isJoined_100 : decode cX11_isJoined 100 = .ok (.if_icmp .ne 7, 3) := by decide +kernel
theorem dX11_isJoined_103 : decode cX11_isJoined 103 = .ok (.iconst 1, 1) := by decide +kernel
theorem dX11_isJoined_104 : decode cX11_isJoined 104 = .ok (.goto 4, 3) := by decide +kernel
theorem dX11_isJoined_107 : decode cX11_isJoined 107 = .ok (.iconst 0, 1) := by decide +kernel
theorem dX11_isJoined_108 : decode cX11_isJoined 108 = .ok (.istore 5, 2) := by decide +kernel
theorem dX11_isJoined_110 : decode cX11_isJoined 110 = .ok (.iinc 6 1, 3) := by decide +kernel
theorem dX11_isJoined_113 : decode cX11_isJoined 113 = .ok (.goto (-43), 3) := by decide +kernel
theorem dX11_isJoined_116 : decode cX11_isJoined 116 = .ok (.iload 5, 2) := by decide +kernel
theorem dX11_isJoined_118 : decode cX11_isJoined 118 = .ok (.ireturn, 1) := by decide +kernel
set_option maxRecDepth 20000 in
theorem ggX11_plans_X11_rows : GoodIn wsX11_plans wsX11_rows := goodIn_r _ [13, 14, 15, 16, 3, 17, 4, 18, 19, 20, 21, 12, 22, 23, 24, 25, 26, 27, 28, 29, 30, 31, 32, 33, 34, 35, 36, 37, 38, 39, 40, 41, 42, 43, 1, 2, 7, 73, 74, 75, 76, 77, 78, 79, 80, 81, 82, 83, 84, 85, 86, 87, 88, 89, 90, 91, 92, 93, 94, 95, 96, 97, 98, 99, 100, 101, 102, 103, 104, 105, 106, 107, 108, 109, 110, 111, 112, 113, 114, 115] (by decide +kernel) (by decide +kernel)
set_option maxRecDepth 20000 in
theorem gX11_plans_X11_rows : GoodIn wsX11_plans (wsV RX11 222 RX11 yX11_rows wsX11_rows) := goodIn_app (goodIn_of _ (by decide +kernel)) ggX11_plans_X11_rows
set_option maxRecDepth 20000 in
theorem ggX11_plans_X11_isJoined : GoodIn wsX11_plans wsX11_isJoined := goodIn_r _ [47, 48, 17, 49, 50, 23, 24, 25, 26, 12, 27, 28, 51, 52, 53, 54, 55, 56, 57, 58, 59, 60, 61, 62, 63, 64, 65, 66, 67, 68, 69, 70, 71, 72, 73, 74, 75, 76, 77, 78, 79, 80, 81, 82, 83, 84, 85, 86, 87, 88, 89, 90, 91, 92, 93, 94, 95, 96, 97, 98, 99, 100, 101, 102, 103, 104, 105, 106, 107, 108, 109, 110, 111, 112, 113, 114, 115] (by decide +kernel) (by decide +kernel)
set_option maxRecDepth 20000 in
theorem gX11_plans_X11_isJoined : GoodIn wsX11_plans (wsV RX11 226 RX11 yX11_isJoined wsX11_isJoined) := goodIn_app (goodIn_of _ (by decide +kernel)) ggX11_plans_X11_isJoined
set_option maxRecDepth 20000 in
theorem ggX11_plans_X11_begins : GoodIn wsX11_plans wsX11_begins := goodIn_r _ [32, 33, 34, 73, 74, 75, 76, 77, 78, 79, 80, 81, 82, 83, 84, 85, 86, 87, 88, 89, 90, 91, 92, 93, 94, 95, 96, 97, 98, 99, 100, 101, 102, 103, 104, 105, 106, 107, 108, 109, 110, 111, 112, 113, 114, 115] (by decide +kernel) (by decide +kernel)
set_option maxRecDepth 20000 in
theorem gX11_plans_X11_begins : GoodIn wsX11_plans (wsV RX11 213 RX11 yX11_begins wsX11_begins) := goodIn_app (goodIn_of _ (by decide +kernel)) ggX11_plans_X11_begins
set_option maxRecDepth 20000 in
theorem ggX11_plans_X11_tries : GoodIn wsX11_plans wsX11_tries := goodIn_r _ [38, 39, 33, 34, 18, 73, 74, 75, 76, 77, 78, 79, 80, 81, 82, 83, 84, 85, 86, 87, 88, 89, 90, 91, 92, 93, 94, 95, 96, 97, 98, 99, 100, 101, 102, 103, 104, 105, 106, 107, 108, 109, 110, 111, 112, 113, 114, 115] (by decide +kernel) (by decide +kernel)
set_option maxRecDepth 20000 in
theorem gX11_plans_X11_tries : GoodIn wsX11_plans (wsV RX11 216 RX11 yX11_tries wsX11_tries) := goodIn_app (goodIn_of _ (by decide +kernel)) ggX11_plans_X11_tries
set_option maxRecDepth 20000 in
theorem ggX11_plans_X11_offers : GoodIn wsX11_plans wsX11_offers := goodIn_r _ [43, 1, 34, 2, 33, 39, 7, 73, 74, 75, 76, 77, 78, 79, 80, 81, 82, 83, 84, 85, 86, 87, 88, 89, 90, 91, 92, 93, 94, 95, 96, 97, 98, 99, 100, 101, 102, 103, 104, 105, 106, 107, 108, 109, 110, 111, 112, 113, 114, 115] (by decide +kernel) (by decide +kernel)
set_option maxRecDepth 20000 in
theorem gX11_plans_X11_offers : GoodIn wsX11_plans (wsV RX11 219 RX11 yX11_offers wsX11_offers) := goodIn_app (goodIn_of _ (by decide +kernel)) ggX11_plans_X11_offers
theorem dX11_plans_0 : decode cX11_plans 0 = .ok (.aload_n 0, 1) := by decide +kernel
theorem dX11_plans_1 : decode cX11_plans 1 = .ok (.iconst 0, 1) := by decide +kernel
theorem dX11_plans_2 : decode cX11_plans 2 = .ok (.putfield 197, 3) := by decide +kernel
theorem dX11_plans_5 : decode cX11_plans 5 = .ok (.aload_n 0, 1) := by decide +kernel
theorem dX11_plans_6 : decode cX11_plans 6 = .ok (.iconst 0, 1) := by decide +kernel
theorem dX11_plans_7 : decode cX11_plans 7 = .ok (.putfield 203, 3) := by decide +kernel
theorem dX11_plans_10 : decode cX11_plans 10 = .ok (.aload_n 0, 1) := by decide +kernel
theorem dX11_plans_11 : decode cX11_plans 11 = .ok (.iload_n 1, 1) := by decide +kernel
theorem dX11_plans_12 : decode cX11_plans 12 = .ok (.iload_n 2, 1) := by decide +kernel
theorem dX11_plans_13 : decode cX11_plans 13 = .ok (.iconst 0, 1) := by decide +kernel
theorem dX11_plans_14 : decode cX11_plans 14 = .ok (.invokevirtual 222, 3) := by decide +kernel
theorem dX11_plans_17 : decode cX11_plans 17 = .ok (.aload_n 0, 1) := by decide +kernel
theorem dX11_plans_18 : decode cX11_plans 18 = .ok (.iload_n 1, 1) := by decide +kernel
theorem dX11_plans_19 : decode cX11_plans 19 = .ok (.iload_n 2, 1) := by decide +kernel
theorem dX11_plans_20 : decode cX11_plans 20 = .ok (.iconst 1, 1) := by decide +kernel
theorem dX11_plans_21 : decode cX11_plans 21 = .ok (.invokevirtual 222, 3) := by decide +kernel
theorem dX11_plans_24 : decode cX11_plans 24 = .ok (.iconst 0, 1) := by decide +kernel
theorem dX11_plans_25 : decode cX11_plans 25 = .ok (.istore_n 3, 1) := by decide +kernel
theorem dX11_plans_26 : decode cX11_plans 26 = .ok (.iload_n 3, 1) := by decide +kernel
theorem dX11_plans_27 : decode cX11_plans 27 = .ok (.aload_n 0, 1) := by decide +kernel
theorem dX11_plans_28 : decode cX11_plans 28 = .ok (.getfield 92, 3) := by decide +kernel
theorem dX11_plans_31 : decode cX11_plans 31 = .ok (.if_icmp .ge 81, 3) := by decide +kernel
theorem dX11_plans_34 : decode cX11_plans 34 = .ok (.iconst 0, 1) := by decide +kernel
theorem dX11_plans_35 : decode cX11_plans 35 = .ok (.istore 4, 2) := by decide +kernel
theorem dX11_plans_37 : decode cX11_plans 37 = .ok (.iload 4, 2) := by decide +kernel
theorem dX11_plans_39 : decode cX11_plans 39 = .ok (.aload_n 0, 1) := by decide +kernel
theorem dX11_plans_40 : decode cX11_plans 40 = .ok (.getfield 92, 3) := by decide +kernel
theorem dX11_plans_43 : decode cX11_plans 43 = .ok (.if_icmp .ge 63, 3) := by decide +kernel
theorem dX11_plans_46 : decode cX11_plans 46 = .ok (.aload_n 0, 1) := by decide +kernel
theorem dX11_plans_47 : decode cX11_plans 47 = .ok (.getfield 20, 3) := by decide +kernel
theorem dX11_plans_50 : decode cX11_plans 50 = .ok (.iload_n 3, 1) := by decide +kernel
theorem dX11_plans_51 : decode cX11_plans 51 = .ok (.iaload, 1) := by decide +kernel
theorem dX11_plans_52 : decode cX11_plans 52 = .ok (.ifCond .ne 54, 3) := by decide +kernel
theorem dX11_plans_55 : decode cX11_plans 55 = .ok (.aload_n 0, 1) := by decide +kernel
theorem dX11_plans_56 : decode cX11_plans 56 = .ok (.getfield 20, 3) := by decide +kernel
theorem dX11_plans_59 : decode cX11_plans 59 = .ok (.iload 4, 2) := by decide +kernel
theorem dX11_plans_61 : decode cX11_plans 61 = .ok (.iaload, 1) := by decide +kernel
theorem dX11_plans_62 : decode cX11_plans 62 = .ok (.iconst 2, 1) := by decide +kernel
theorem dX11_plans_63 : decode cX11_plans 63 = .ok (.if_icmp .ne 37, 3) := by decide +kernel
theorem dX11_plans_66 : decode cX11_plans 66 = .ok (.aload_n 0, 1) := by decide +kernel
theorem dX11_plans_67 : decode cX11_plans 67 = .ok (.iload_n 3, 1) := by decide +kernel
theorem dX11_plans_68 : decode cX11_plans 68 = .ok (.iload 4, 2) := by decide +kernel
theorem dX11_plans_70 : decode cX11_plans 70 = .ok (.iload_n 1, 1) := by decide +kernel
theorem dX11_plans_71 : decode cX11_plans 71 = .ok (.iload_n 2, 1) := by decide +kernel
theorem dX11_plans_72 : decode cX11_plans 72 = .ok (.invokevirtual 226, 3) := by decide +kernel
theorem dX11_plans_75 : decode cX11_plans 75 = .ok (.ifCond .ne 6, 3) := by decide +kernel
theorem dX11_plans_78 : decode cX11_plans 78 = .ok (.goto 22, 3) := by decide +kernel
theorem dX11_plans_81 : decode cX11_plans 81 = .ok (.aload_n 0, 1) := by decide +kernel
theorem dX11_plans_82 : decode cX11_plans 82 = .ok (.invokevirtual 213, 3) := by decide +kernel
theorem dX11_plans_85 : decode cX11_plans 85 = .ok (.aload_n 0, 1) := by decide +kernel
theorem dX11_plans_86 : decode cX11_plans 86 = .ok (.iload_n 3, 1) := by decide +kernel
theorem dX11_plans_87 : decode cX11_plans 87 = .ok (.invokevirtual 216, 3) := by decide +kernel
theorem dX11_plans_90 : decode cX11_plans 90 = .ok (.aload_n 0, 1) := by decide +kernel
theorem dX11_plans_91 : decode cX11_plans 91 = .ok (.iload 4, 2) := by decide +kernel
theorem dX11_plans_93 : decode cX11_plans 93 = .ok (.invokevirtual 216, 3) := by decide +kernel
theorem dX11_plans_96 : decode cX11_plans 96 = .ok (.aload_n 0, 1) := by decide +kernel
theorem dX11_plans_97 : decode cX11_plans 97 = .ok (.invokevirtual 219, 3) := by decide +kernel
theorem dX11_plans_100 : decode cX11_plans 100 = .ok (.iinc 4 1, 3) := by decide +kernel
theorem dX11_plans_103 : decode cX11_plans 103 = .ok (.goto (-66), 3) := by decide +kernel
theorem dX11_plans_106 : decode cX11_plans 106 = .ok (.iinc 3 1, 3) := by decide +kernel
theorem dX11_plans_109 : decode cX11_plans 109 = .ok (.goto (-83), 3) := by decide +kernel
theorem dX11_plans_112 : decode cX11_plans 112 = .ok (.aload_n 0, 1) := by decide +kernel
theorem dX11_plans_113 : decode cX11_plans 113 = .ok (.getfield 197, 3) := by decide +kernel
theorem dX11_plans_116 : decode cX11_plans 116 = .ok (.ifCond .ne 5, 3) := by decide +kernel
theorem dX11_plans_119 : decode cX11_plans 119 = .ok (.iconst 0, 1) := by decide +kernel
theorem dX11_plans_120 : decode cX11_plans 120 = .ok (.ireturn, 1) := by decide +kernel
theorem dX11_plans_121 : decode cX11_plans 121 = .ok (.iconst 0, 1) := by decide +kernel
theorem dX11_plans_122 : decode cX11_plans 122 = .ok (.istore_n 3, 1) := by decide +kernel
theorem dX11_plans_123 : decode cX11_plans 123 = .ok (.iload_n 3, 1) := by decide +kernel
theorem dX11_plans_124 : decode cX11_plans 124 = .ok (.aload_n 0, 1) := by decide +kernel
theorem dX11_plans_125 : decode cX11_plans 125 = .ok (.getfield 197, 3) := by decide +kernel
theorem dX11_plans_128 : decode cX11_plans 128 = .ok (.if_icmp .ge 34, 3) := by decide +kernel
theorem dX11_plans_131 : decode cX11_plans 131 = .ok (.aload_n 0, 1) := by decide +kernel
theorem dX11_plans_132 : decode cX11_plans 132 = .ok (.getfield 74, 3) := by decide +kernel
theorem dX11_plans_135 : decode cX11_plans 135 = .ok (.aload_n 0, 1) := by decide +kernel
theorem dX11_plans_136 : decode cX11_plans 136 = .ok (.getfield 230, 3) := by decide +kernel
theorem dX11_plans_139 : decode cX11_plans 139 = .ok (.aload_n 0, 1) := by decide +kernel
theorem dX11_plans_140 : decode cX11_plans 140 = .ok (.getfield 65, 3) := by decide +kernel
theorem dX11_plans_143 : decode cX11_plans 143 = .ok (.iload_n 3, 1) := by decide +kernel
theorem dX11_plans_144 : decode cX11_plans 144 = .ok (.iaload, 1) := by decide +kernel
theorem dX11_plans_145 : decode cX11_plans 145 = .ok (.iastore, 1) := by decide +kernel
theorem dX11_plans_146 : decode cX11_plans 146 = .ok (.aload_n 0, 1) := by decide +kernel
theorem dX11_plans_147 : decode cX11_plans 147 = .ok (.aload_n 0, 1) := by decide +kernel
theorem dX11_plans_148 : decode cX11_plans 148 = .ok (.getfield 230, 3) := by decide +kernel
theorem dX11_plans_151 : decode cX11_plans 151 = .ok (.iconst 1, 1) := by decide +kernel
theorem dX11_plans_152 : decode cX11_plans 152 = .ok (.iadd, 1) := by decide +kernel
theorem dX11_plans_153 : decode cX11_plans 153 = .ok (.putfield 230, 3) := by decide +kernel
theorem dX11_plans_156 : decode cX11_plans 156 = .ok (.iinc 3 1, 3) := by decide +kernel
theorem dX11_plans_159 : decode cX11_plans 159 = .ok (.goto (-36), 3) := by decide +kernel
theorem dX11_plans_162 : decode cX11_plans 162 = .ok (.aload_n 0, 1) := by decide +kernel
theorem dX11_plans_163 : decode cX11_plans 163 = .ok (.aload_n 0, 1) := by decide +kernel
theorem dX11_plans_164 : decode cX11_plans 164 = .ok (.getfield 233, 3) := by decide +kernel
theorem dX11_plans_167 : decode cX11_plans 167 = .ok (.aload_n 0, 1) := by decide +kernel
theorem dX11_plans_168 : decode cX11_plans 168 = .ok (.getfield 203, 3) := by decide +kernel
theorem dX11_plans_171 : decode cX11_plans 171 = .ok (.iadd, 1) := by decide +kernel
theorem dX11_plans_172 : decode cX11_plans 172 = .ok (.putfield 233, 3) := by decide +kernel
theorem dX11_plans_175 : decode cX11_plans 175 = .ok (.iconst 1, 1) := by decide +kernel
theorem dX11_plans_176 : decode cX11_plans 176 = .ok (.ireturn, 1) := by decide +kernel
set_option maxRecDepth 20000 in
theorem ggX11_isAsked_X11_isSmall : GoodIn wsX11_isAsked wsX11_isSmall := goodIn_r _ [4] (by decide +kernel) (by decide +kernel)
set_option maxRecDepth 20000 in
theorem gX11_isAsked_X11_isSmall : GoodIn wsX11_isAsked (va_wsS RX11 95 yX11_isSmall wsX11_isSmall) := goodIn_app (goodIn_of _ (by decide +kernel)) ggX11_isAsked_X11_isSmall
theorem dX11_isAsked_0 : decode cX11_isAsked 0 = .ok (.iconst 1, 1) := by decide +kernel
theorem dX11_isAsked_1 : decode cX11_isAsked 1 = .ok (.istore_n 2, 1) := by decide +kernel
theorem dX11_isAsked_2 : decode cX11_isAsked 2 = .ok (.iconst 0, 1) := by decide +kernel
theorem dX11_isAsked_3 : decode cX11_isAsked 3 = .ok (.istore_n 3, 1) := by decide +kernel
theorem dX11_isAsked_4 : decode cX11_isAsked 4 = .ok (.iload_n 3, 1) := by decide +kernel
theorem dX11_isAsked_5 : decode cX11_isAsked 5 = .ok (.iload_n 1, 1) := by decide +kernel
theorem dX11_isAsked_6 : decode cX11_isAsked 6 = .ok (.if_icmp .ge 61, 3) := by decide +kernel
theorem dX11_isAsked_9 : decode cX11_isAsked 9 = .ok (.iload_n 2, 1) := by decide +kernel
theorem dX11_isAsked_10 : decode cX11_isAsked 10 = .ok (.ifCond .eq 49, 3) := by decide +kernel
theorem dX11_isAsked_13 : decode cX11_isAsked 13 = .ok (.aload_n 0, 1) := by decide +kernel
theorem dX11_isAsked_14 : decode cX11_isAsked 14 = .ok (.iload_n 3, 1) := by decide +kernel
theorem dX11_isAsked_15 : decode cX11_isAsked 15 = .ok (.baload, 1) := by decide +kernel
theorem dX11_isAsked_16 : decode cX11_isAsked 16 = .ok (.sipush 255, 3) := by decide +kernel
theorem dX11_isAsked_19 : decode cX11_isAsked 19 = .ok (.iand, 1) := by decide +kernel
theorem dX11_isAsked_20 : decode cX11_isAsked 20 = .ok (.invokestatic 95, 3) := by decide +kernel
theorem dX11_isAsked_23 : decode cX11_isAsked 23 = .ok (.ifCond .ne 32, 3) := by decide +kernel
theorem dX11_isAsked_26 : decode cX11_isAsked 26 = .ok (.aload_n 0, 1) := by decide +kernel
theorem dX11_isAsked_27 : decode cX11_isAsked 27 = .ok (.iload_n 3, 1) := by decide +kernel
theorem dX11_isAsked_28 : decode cX11_isAsked 28 = .ok (.baload, 1) := by decide +kernel
theorem dX11_isAsked_29 : decode cX11_isAsked 29 = .ok (.bipush 32, 2) := by decide +kernel
theorem dX11_isAsked_31 : decode cX11_isAsked 31 = .ok (.if_icmp .ne 28, 3) := by decide +kernel
theorem dX11_isAsked_34 : decode cX11_isAsked 34 = .ok (.iload_n 3, 1) := by decide +kernel
theorem dX11_isAsked_35 : decode cX11_isAsked 35 = .ok (.ifCond .le 24, 3) := by decide +kernel
theorem dX11_isAsked_38 : decode cX11_isAsked 38 = .ok (.iload_n 3, 1) := by decide +kernel
theorem dX11_isAsked_39 : decode cX11_isAsked 39 = .ok (.iload_n 1, 1) := by decide +kernel
theorem dX11_isAsked_40 : decode cX11_isAsked 40 = .ok (.iconst 1, 1) := by decide +kernel
theorem dX11_isAsked_41 : decode cX11_isAsked 41 = .ok (.isub, 1) := by decide +kernel
theorem dX11_isAsked_42 : decode cX11_isAsked 42 = .ok (.if_icmp .ge 17, 3) := by decide +kernel
theorem dX11_isAsked_45 : decode cX11_isAsked 45 = .ok (.aload_n 0, 1) := by decide +kernel
theorem dX11_isAsked_46 : decode cX11_isAsked 46 = .ok (.iload_n 3, 1) := by decide +kernel
theorem dX11_isAsked_47 : decode cX11_isAsked 47 = .ok (.iconst 1, 1) := by decide +kernel
theorem dX11_isAsked_48 : decode cX11_isAsked 48 = .ok (.isub, 1) := by decide +kernel
theorem dX11_isAsked_49 : decode cX11_isAsked 49 = .ok (.baload, 1) := by decide +kernel
theorem dX11_isAsked_50 : decode cX11_isAsked 50 = .ok (.bipush 32, 2) := by decide +kernel
theorem dX11_isAsked_52 : decode cX11_isAsked 52 = .ok (.if_icmp .eq 7, 3) := by decide +kernel
theorem dX11_isAsked_55 : decode cX11_isAsked 55 = .ok (.iconst 1, 1) := by decide +kernel
theorem dX11_isAsked_56 : decode cX11_isAsked 56 = .ok (.goto 4, 3) := by decide +kernel
theorem dX11_isAsked_59 : decode cX11_isAsked 59 = .ok (.iconst 0, 1) := by decide +kernel
theorem dX11_isAsked_60 : decode cX11_isAsked 60 = .ok (.istore_n 2, 1) := by decide +kernel
theorem dX11_isAsked_61 : decode cX11_isAsked 61 = .ok (.iinc 3 1, 3) := by decide +kernel
theorem dX11_isAsked_64 : decode cX11_isAsked 64 = .ok (.goto (-60), 3) := by decide +kernel
theorem dX11_isAsked_67 : decode cX11_isAsked 67 = .ok (.iload_n 2, 1) := by decide +kernel
theorem dX11_isAsked_68 : decode cX11_isAsked 68 = .ok (.ireturn, 1) := by decide +kernel
set_option maxRecDepth 20000 in
theorem ggX11_isRead_X11_reads : GoodIn wsX11_isRead wsX11_reads := goodIn_r _ [10, 4, 11, 5, 12, 13, 14, 9, 15, 16, 1, 3, 17, 18, 19, 20, 21, 22, 23, 24, 25, 26, 27, 28, 29, 30, 31, 32, 33, 34, 35, 36, 37, 38, 39, 40, 41, 42, 43, 44, 45, 46, 47, 48, 49, 50, 51, 52, 53, 54, 55, 56, 57, 58, 59] (by decide +kernel) (by decide +kernel)
set_option maxRecDepth 20000 in
theorem gX11_isRead_X11_reads : GoodIn wsX11_isRead (wsV RX11 187 RX11 yX11_reads wsX11_reads) := goodIn_app (goodIn_of _ (by decide +kernel)) ggX11_isRead_X11_reads
theorem dX11_isRead_0 : decode cX11_isRead 0 = .ok (.iconst 0, 1) := by decide +kernel
theorem dX11_isRead_1 : decode cX11_isRead 1 = .ok (.istore_n 3, 1) := by decide +kernel
theorem dX11_isRead_2 : decode cX11_isRead 2 = .ok (.iconst 0, 1) := by decide +kernel
theorem dX11_isRead_3 : decode cX11_isRead 3 = .ok (.istore 4, 2) := by decide +kernel
theorem dX11_isRead_5 : decode cX11_isRead 5 = .ok (.iload 4, 2) := by decide +kernel
theorem dX11_isRead_7 : decode cX11_isRead 7 = .ok (.iload_n 2, 1) := by decide +kernel
theorem dX11_isRead_8 : decode cX11_isRead 8 = .ok (.if_icmp .ge 56, 3) := by decide +kernel
theorem dX11_isRead_11 : decode cX11_isRead 11 = .ok (.iconst 0, 1) := by decide +kernel
theorem dX11_isRead_12 : decode cX11_isRead 12 = .ok (.istore 5, 2) := by decide +kernel
theorem dX11_isRead_14 : decode cX11_isRead 14 = .ok (.iload 5, 2) := by decide +kernel
theorem dX11_isRead_16 : decode cX11_isRead 16 = .ok (.aload_n 0, 1) := by decide +kernel
theorem dX11_isRead_17 : decode cX11_isRead 17 = .ok (.getfield 16, 3) := by decide +kernel
theorem dX11_isRead_20 : decode cX11_isRead 20 = .ok (.aload_n 1, 1) := by decide +kernel
theorem dX11_isRead_21 : decode cX11_isRead 21 = .ok (.iload 4, 2) := by decide +kernel
theorem dX11_isRead_23 : decode cX11_isRead 23 = .ok (.iaload, 1) := by decide +kernel
theorem dX11_isRead_24 : decode cX11_isRead 24 = .ok (.iaload, 1) := by decide +kernel
theorem dX11_isRead_25 : decode cX11_isRead 25 = .ok (.if_icmp .ge 33, 3) := by decide +kernel
theorem dX11_isRead_28 : decode cX11_isRead 28 = .ok (.aload_n 0, 1) := by decide +kernel
theorem dX11_isRead_29 : decode cX11_isRead 29 = .ok (.getfield 77, 3) := by decide +kernel
theorem dX11_isRead_32 : decode cX11_isRead 32 = .ok (.iload_n 3, 1) := by decide +kernel
theorem dX11_isRead_33 : decode cX11_isRead 33 = .ok (.aload_n 0, 1) := by decide +kernel
theorem dX11_isRead_34 : decode cX11_isRead 34 = .ok (.getfield 26, 3) := by decide +kernel
theorem dX11_isRead_37 : decode cX11_isRead 37 = .ok (.iconst 5, 1) := by decide +kernel
theorem dX11_isRead_38 : decode cX11_isRead 38 = .ok (.aload_n 1, 1) := by decide +kernel
theorem dX11_isRead_39 : decode cX11_isRead 39 = .ok (.iload 4, 2) := by decide +kernel
theorem dX11_isRead_41 : decode cX11_isRead 41 = .ok (.iaload, 1) := by decide +kernel
theorem dX11_isRead_42 : decode cX11_isRead 42 = .ok (.imul, 1) := by decide +kernel
theorem dX11_isRead_43 : decode cX11_isRead 43 = .ok (.iload 5, 2) := by decide +kernel
theorem dX11_isRead_45 : decode cX11_isRead 45 = .ok (.iadd, 1) := by decide +kernel
theorem dX11_isRead_46 : decode cX11_isRead 46 = .ok (.iaload, 1) := by decide +kernel
theorem dX11_isRead_47 : decode cX11_isRead 47 = .ok (.iastore, 1) := by decide +kernel
theorem dX11_isRead_48 : decode cX11_isRead 48 = .ok (.iload_n 3, 1) := by decide +kernel
theorem dX11_isRead_49 : decode cX11_isRead 49 = .ok (.iconst 1, 1) := by decide +kernel
theorem dX11_isRead_50 : decode cX11_isRead 50 = .ok (.iadd, 1) := by decide +kernel
theorem dX11_isRead_51 : decode cX11_isRead 51 = .ok (.istore_n 3, 1) := by decide +kernel
theorem dX11_isRead_52 : decode cX11_isRead 52 = .ok (.iinc 5 1, 3) := by decide +kernel
theorem dX11_isRead_55 : decode cX11_isRead 55 = .ok (.goto (-41), 3) := by decide +kernel
theorem dX11_isRead_58 : decode cX11_isRead 58 = .ok (.iinc 4 1, 3) := by decide +kernel
theorem dX11_isRead_61 : decode cX11_isRead 61 = .ok (.goto (-56), 3) := by decide +kernel
theorem dX11_isRead_64 : decode cX11_isRead 64 = .ok (.aload_n 0, 1) := by decide +kernel
theorem dX11_isRead_65 : decode cX11_isRead 65 = .ok (.aload_n 0, 1) := by decide +kernel
theorem dX11_isRead_66 : decode cX11_isRead 66 = .ok (.getfield 77, 3) := by decide +kernel
theorem dX11_isRead_69 : decode cX11_isRead 69 = .ok (.iload_n 3, 1) := by decide +kernel
theorem dX11_isRead_70 : decode cX11_isRead 70 = .ok (.invokevirtual 187, 3) := by decide +kernel
theorem dX11_isRead_73 : decode cX11_isRead 73 = .ok (.aload_n 0, 1) := by decide +kernel
theorem dX11_isRead_74 : decode cX11_isRead 74 = .ok (.getfield 127, 3) := by decide +kernel
theorem dX11_isRead_77 : decode cX11_isRead 77 = .ok (.iload_n 2, 1) := by decide +kernel
theorem dX11_isRead_78 : decode cX11_isRead 78 = .ok (.if_icmp .ne 7, 3) := by decide +kernel
theorem dX11_isRead_81 : decode cX11_isRead 81 = .ok (.iconst 1, 1) := by decide +kernel
theorem dX11_isRead_82 : decode cX11_isRead 82 = .ok (.goto 4, 3) := by decide +kernel
theorem dX11_isRead_85 : decode cX11_isRead 85 = .ok (.iconst 0, 1) := by decide +kernel
theorem dX11_isRead_86 : decode cX11_isRead 86 = .ok (.istore 4, 2) := by decide +kernel
theorem dX11_isRead_88 : decode cX11_isRead 88 = .ok (.iconst 0, 1) := by decide +kernel
theorem dX11_isRead_89 : decode cX11_isRead 89 = .ok (.istore 5, 2) := by decide +kernel
theorem dX11_isRead_91 : decode cX11_isRead 91 = .ok (.iload 5, 2) := by decide +kernel
theorem dX11_isRead_93 : decode cX11_isRead 93 = .ok (.iload_n 2, 1) := by decide +kernel
theorem dX11_isRead_94 : decode cX11_isRead 94 = .ok (.if_icmp .ge 35, 3) := by decide +kernel
theorem dX11_isRead_97 : decode cX11_isRead 97 = .ok (.iload 4, 2) := by decide +kernel
theorem dX11_isRead_99 : decode cX11_isRead 99 = .ok (.ifCond .eq 30, 3) := by decide +kernel
theorem dX11_isRead_102 : decode cX11_isRead 102 = .ok (.aload_n 0, 1) := by decide +kernel
theorem dX11_isRead_103 : decode cX11_isRead 103 = .ok (.getfield 35, 3) := by decide +kernel
theorem dX11_isRead_106 : decode cX11_isRead 106 = .ok (.iload 5, 2) := by decide +kernel
theorem dX11_isRead_108 : decode cX11_isRead 108 = .ok (.iaload, 1) := by decide +kernel
theorem dX11_isRead_109 : decode cX11_isRead 109 = .ok (.aload_n 1, 1) := by decide +kernel
theorem dX11_isRead_110 : decode cX11_isRead 110 = .ok (.iload 5, 2) := by decide +kernel
theorem dX11_isRead_112 : decode cX11_isRead 112 = .ok (.iaload, 1) := by decide +kernel
theorem dX11_isRead_113 : decode cX11_isRead 113 = .ok (.if_icmp .ne 7, 3) := by decide +kernel
theorem dX11_isRead_116 : decode cX11_isRead 116 = .ok (.iconst 1, 1) := by decide +kernel
theorem dX11_isRead_117 : decode cX11_isRead 117 = .ok (.goto 4, 3) := by decide +kernel
theorem dX11_isRead_120 : decode cX11_isRead 120 = .ok (.iconst 0, 1) := by decide +kernel
theorem dX11_isRead_121 : decode cX11_isRead 121 = .ok (.istore 4, 2) := by decide +kernel
theorem dX11_isRead_123 : decode cX11_isRead 123 = .ok (.iinc 5 1, 3) := by decide +kernel
theorem dX11_isRead_126 : decode cX11_isRead 126 = .ok (.goto (-35), 3) := by decide +kernel
theorem dX11_isRead_129 : decode cX11_isRead 129 = .ok (.iload 4, 2) := by decide +kernel
theorem dX11_isRead_131 : decode cX11_isRead 131 = .ok (.ireturn, 1) := by decide +kernel
set_option maxRecDepth 20000 in
theorem ggX11_plan_X11_takes : GoodIn wsX11_plan wsX11_takes := goodIn_r _ [16, 2, 17, 1, 112, 113, 114, 115, 116, 117, 118, 119, 120, 121, 122, 123, 124, 125, 126, 127, 128, 129, 130, 131, 132, 133, 134, 135, 136, 137, 138, 139, 140, 141, 142, 143, 144, 145, 146, 147, 148, 149, 150, 151, 152, 153, 154] (by decide +kernel) (by decide +kernel)
set_option maxRecDepth 20000 in
theorem gX11_plan_X11_takes : GoodIn wsX11_plan (wsV RX11 110 RX11 yX11_takes wsX11_takes) := goodIn_app (goodIn_of _ (by decide +kernel)) ggX11_plan_X11_takes
set_option maxRecDepth 20000 in
theorem ggX11_plan_X11_isAsked : GoodIn wsX11_plan wsX11_isAsked := goodIn_r _ [20, 21, 22, 15, 23] (by decide +kernel) (by decide +kernel)
set_option maxRecDepth 20000 in
theorem gX11_plan_X11_isAsked : GoodIn wsX11_plan (va_wsS RX11 236 yX11_isAsked wsX11_isAsked) := goodIn_app (goodIn_of _ (by decide +kernel)) ggX11_plan_X11_isAsked
set_option maxRecDepth 20000 in
theorem ggX11_plan_X11_plans : GoodIn wsX11_plan wsX11_plans := goodIn_r _ [27, 28, 29, 30, 31, 10, 4, 32, 5, 33, 34, 35, 15, 36, 37, 38, 39, 40, 41, 42, 43, 44, 45, 3, 46, 47, 48, 49, 50, 51, 52, 53, 54, 55, 56, 57, 58, 59, 60, 61, 62, 63, 64, 65, 66, 67, 68, 69, 70, 71, 72, 73, 74, 75, 76, 77, 78, 79, 80, 81, 82, 83, 84, 85, 86, 87, 88, 89, 90, 91, 92, 93, 94, 112, 113, 114, 115, 116, 117, 118, 119, 120, 121, 122, 123, 124, 125, 126, 127, 128, 129, 130, 131, 132, 133, 134, 135, 136, 137, 138, 139, 140, 141, 142, 143, 144, 145, 146, 147, 148, 149, 150, 151, 152, 153, 154] (by decide +kernel) (by decide +kernel)
set_option maxRecDepth 20000 in
theorem gX11_plan_X11_plans : GoodIn wsX11_plan (wsV RX11 240 RX11 yX11_plans wsX11_plans) := goodIn_app (goodIn_of _ (by decide +kernel)) ggX11_plan_X11_plans
set_option maxRecDepth 20000 in
theorem ggX11_plan_X11_isRead : GoodIn wsX11_plan wsX11_isRead := goodIn_r _ [98, 41, 99, 100, 101, 102, 103, 104, 105, 15, 106, 107, 108, 109, 110, 111, 30, 112, 113, 114, 115, 116, 117, 118, 119, 120, 121, 122, 123, 124, 125, 126, 127, 128, 129, 130, 131, 132, 133, 134, 135, 136, 137, 138, 139, 140, 141, 142, 143, 144, 145, 146, 147, 148, 149, 150, 151, 152, 153, 154] (by decide +kernel) (by decide +kernel)
set_option maxRecDepth 20000 in
theorem gX11_plan_X11_isRead : GoodIn wsX11_plan (wsV RX11 253 RX11 yX11_isRead wsX11_isRead) := goodIn_app (goodIn_of _ (by decide +kernel)) ggX11_plan_X11_isRead
theorem dX11_plan_0 : decode cX11_plan 0 = .ok (.iload_n 1, 1) := by decide +kernel
theorem dX11_plan_1 : decode cX11_plan 1 = .ok (.iconst 1, 1) := by decide +kernel
theorem dX11_plan_2 : decode cX11_plan 2 = .ok (.if_icmp .lt 17, 3) := by decide +kernel
theorem dX11_plan_5 : decode cX11_plan 5 = .ok (.iload_n 1, 1) := by decide +kernel
theorem dX11_plan_6 : decode cX11_plan 6 = .ok (.bipush 60, 2) := by decide +kernel
theorem dX11_plan_8 : decode cX11_plan 8 = .ok (.if_icmp .gt 11, 3) := by decide +kernel
theorem dX11_plan_11 : decode cX11_plan 11 = .ok (.iload_n 1, 1) := by decide +kernel
theorem dX11_plan_12 : decode cX11_plan 12 = .ok (.aload_n 0, 1) := by decide +kernel
theorem dX11_plan_13 : decode cX11_plan 13 = .ok (.getfield 83, 3) := by decide +kernel
theorem dX11_plan_16 : decode cX11_plan 16 = .ok (.if_icmp .le 5, 3) := by decide +kernel
theorem dX11_plan_19 : decode cX11_plan 19 = .ok (.iconst (-1), 1) := by decide +kernel
theorem dX11_plan_20 : decode cX11_plan 20 = .ok (.ireturn, 1) := by decide +kernel
theorem dX11_plan_21 : decode cX11_plan 21 = .ok (.aload_n 0, 1) := by decide +kernel
theorem dX11_plan_22 : decode cX11_plan 22 = .ok (.iload_n 1, 1) := by decide +kernel
theorem dX11_plan_23 : decode cX11_plan 23 = .ok (.invokevirtual 110, 3) := by decide +kernel
theorem dX11_plan_26 : decode cX11_plan 26 = .ok (.aload_n 0, 1) := by decide +kernel
theorem dX11_plan_27 : decode cX11_plan 27 = .ok (.getfield 13, 3) := by decide +kernel
theorem dX11_plan_30 : decode cX11_plan 30 = .ok (.iload_n 1, 1) := by decide +kernel
theorem dX11_plan_31 : decode cX11_plan 31 = .ok (.invokestatic 236, 3) := by decide +kernel
