theorem dX11_entry_211 : decode cX11_entry 211 = .ok (.iload 8, 2) := by decide +kernel
theorem dX11_entry_213 : decode cX11_entry 213 = .ok (.baload, 1) := by decide +kernel
theorem dX11_entry_214 : decode cX11_entry 214 = .ok (.bastore, 1) := by decide +kernel
theorem dX11_entry_215 : decode cX11_entry 215 = .ok (.iinc 8 1, 3) := by decide +kernel
theorem dX11_entry_218 : decode cX11_entry 218 = .ok (.goto (-32), 3) := by decide +kernel
theorem dX11_entry_221 : decode cX11_entry 221 = .ok (.aload_n 0, 1) := by decide +kernel
theorem dX11_entry_222 : decode cX11_entry 222 = .ok (.aload_n 0, 1) := by decide +kernel
theorem dX11_entry_223 : decode cX11_entry 223 = .ok (.getfield 92, 3) := by decide +kernel
theorem dX11_entry_226 : decode cX11_entry 226 = .ok (.iconst 1, 1) := by decide +kernel
theorem dX11_entry_227 : decode cX11_entry 227 = .ok (.iadd, 1) := by decide +kernel
theorem dX11_entry_228 : decode cX11_entry 228 = .ok (.putfield 92, 3) := by decide +kernel
theorem dX11_entry_231 : decode cX11_entry 231 = .ok (.aload_n 0, 1) := by decide +kernel
theorem dX11_entry_232 : decode cX11_entry 232 = .ok (.getfield 92, 3) := by decide +kernel
theorem dX11_entry_235 : decode cX11_entry 235 = .ok (.iconst 1, 1) := by decide +kernel
theorem dX11_entry_236 : decode cX11_entry 236 = .ok (.isub, 1) := by decide +kernel
theorem dX11_entry_237 : decode cX11_entry 237 = .ok (.ireturn, 1) := by decide +kernel
theorem dX11_drop_0 : decode cX11_drop 0 = .ok (.iload_n 1, 1) := by decide +kernel
theorem dX11_drop_1 : decode cX11_drop 1 = .ok (.ifCond .lt 11, 3) := by decide +kernel
theorem dX11_drop_4 : decode cX11_drop 4 = .ok (.iload_n 1, 1) := by decide +kernel
theorem dX11_drop_5 : decode cX11_drop 5 = .ok (.aload_n 0, 1) := by decide +kernel
theorem dX11_drop_6 : decode cX11_drop 6 = .ok (.getfield 92, 3) := by decide +kernel
theorem dX11_drop_9 : decode cX11_drop 9 = .ok (.if_icmp .lt 5, 3) := by decide +kernel
theorem dX11_drop_12 : decode cX11_drop 12 = .ok (.iconst 0, 1) := by decide +kernel
theorem dX11_drop_13 : decode cX11_drop 13 = .ok (.ireturn, 1) := by decide +kernel
theorem dX11_drop_14 : decode cX11_drop 14 = .ok (.iload_n 1, 1) := by decide +kernel
theorem dX11_drop_15 : decode cX11_drop 15 = .ok (.istore_n 2, 1) := by decide +kernel
theorem dX11_drop_16 : decode cX11_drop 16 = .ok (.iload_n 2, 1) := by decide +kernel
theorem dX11_drop_17 : decode cX11_drop 17 = .ok (.aload_n 0, 1) := by decide +kernel
theorem dX11_drop_18 : decode cX11_drop 18 = .ok (.getfield 92, 3) := by decide +kernel
theorem dX11_drop_21 : decode cX11_drop 21 = .ok (.iconst 1, 1) := by decide +kernel
theorem dX11_drop_22 : decode cX11_drop 22 = .ok (.isub, 1) := by decide +kernel
theorem dX11_drop_23 : decode cX11_drop 23 = .ok (.if_icmp .ge 124, 3) := by decide +kernel
theorem dX11_drop_26 : decode cX11_drop 26 = .ok (.aload_n 0, 1) := by decide +kernel
theorem dX11_drop_27 : decode cX11_drop 27 = .ok (.getfield 16, 3) := by decide +kernel
theorem dX11_drop_30 : decode cX11_drop 30 = .ok (.iload_n 2, 1) := by decide +kernel
theorem dX11_drop_31 : decode cX11_drop 31 = .ok (.aload_n 0, 1) := by decide +kernel
theorem dX11_drop_32 : decode cX11_drop 32 = .ok (.getfield 16, 3) := by decide +kernel
theorem dX11_drop_35 : decode cX11_drop 35 = .ok (.iload_n 2, 1) := by decide +kernel
theorem dX11_drop_36 : decode cX11_drop 36 = .ok (.iconst 1, 1) := by decide +kernel
theorem dX11_drop_37 : decode cX11_drop 37 = .ok (.iadd, 1) := by decide +kernel
theorem dX11_drop_38 : decode cX11_drop 38 = .ok (.iaload, 1) := by decide +kernel
theorem dX11_drop_39 : decode cX11_drop 39 = .ok (.iastore, 1) := by decide +kernel
theorem dX11_drop_40 : decode cX11_drop 40 = .ok (.aload_n 0, 1) := by decide +kernel
theorem dX11_drop_41 : decode cX11_drop 41 = .ok (.getfield 20, 3) := by decide +kernel
theorem dX11_drop_44 : decode cX11_drop 44 = .ok (.iload_n 2, 1) := by decide +kernel
theorem dX11_drop_45 : decode cX11_drop 45 = .ok (.aload_n 0, 1) := by decide +kernel
theorem dX11_drop_46 : decode cX11_drop 46 = .ok (.getfield 20, 3) := by decide +kernel
theorem dX11_drop_49 : decode cX11_drop 49 = .ok (.iload_n 2, 1) := by decide +kernel
theorem dX11_drop_50 : decode cX11_drop 50 = .ok (.iconst 1, 1) := by decide +kernel
theorem dX11_drop_51 : decode cX11_drop 51 = .ok (.iadd, 1) := by decide +kernel
theorem dX11_drop_52 : decode cX11_drop 52 = .ok (.iaload, 1) := by decide +kernel
theorem dX11_drop_53 : decode cX11_drop 53 = .ok (.iastore, 1) := by decide +kernel
theorem dX11_drop_54 : decode cX11_drop 54 = .ok (.aload_n 0, 1) := by decide +kernel
theorem dX11_drop_55 : decode cX11_drop 55 = .ok (.getfield 23, 3) := by decide +kernel
theorem dX11_drop_58 : decode cX11_drop 58 = .ok (.iload_n 2, 1) := by decide +kernel
theorem dX11_drop_59 : decode cX11_drop 59 = .ok (.aload_n 0, 1) := by decide +kernel
theorem dX11_drop_60 : decode cX11_drop 60 = .ok (.getfield 23, 3) := by decide +kernel
theorem dX11_drop_63 : decode cX11_drop 63 = .ok (.iload_n 2, 1) := by decide +kernel
theorem dX11_drop_64 : decode cX11_drop 64 = .ok (.iconst 1, 1) := by decide +kernel
theorem dX11_drop_65 : decode cX11_drop 65 = .ok (.iadd, 1) := by decide +kernel
theorem dX11_drop_66 : decode cX11_drop 66 = .ok (.iaload, 1) := by decide +kernel
theorem dX11_drop_67 : decode cX11_drop 67 = .ok (.iastore, 1) := by decide +kernel
theorem dX11_drop_68 : decode cX11_drop 68 = .ok (.iconst 0, 1) := by decide +kernel
theorem dX11_drop_69 : decode cX11_drop 69 = .ok (.istore_n 3, 1) := by decide +kernel
theorem dX11_drop_70 : decode cX11_drop 70 = .ok (.iload_n 3, 1) := by decide +kernel
theorem dX11_drop_71 : decode cX11_drop 71 = .ok (.iconst 5, 1) := by decide +kernel
theorem dX11_drop_72 : decode cX11_drop 72 = .ok (.if_icmp .ge 31, 3) := by decide +kernel
theorem dX11_drop_75 : decode cX11_drop 75 = .ok (.aload_n 0, 1) := by decide +kernel
theorem dX11_drop_76 : decode cX11_drop 76 = .ok (.getfield 26, 3) := by decide +kernel
theorem dX11_drop_79 : decode cX11_drop 79 = .ok (.iconst 5, 1) := by decide +kernel
theorem dX11_drop_80 : decode cX11_drop 80 = .ok (.iload_n 2, 1) := by decide +kernel
theorem dX11_drop_81 : decode cX11_drop 81 = .ok (.imul, 1) := by decide +kernel
theorem dX11_drop_82 : decode cX11_drop 82 = .ok (.iload_n 3, 1) := by decide +kernel
theorem dX11_drop_83 : decode cX11_drop 83 = .ok (.iadd, 1) := by decide +kernel
theorem dX11_drop_84 : decode cX11_drop 84 = .ok (.aload_n 0, 1) := by decide +kernel
theorem dX11_drop_85 : decode cX11_drop 85 = .ok (.getfield 26, 3) := by decide +kernel
theorem dX11_drop_88 : decode cX11_drop 88 = .ok (.iconst 5, 1) := by decide +kernel
theorem dX11_drop_89 : decode cX11_drop 89 = .ok (.iload_n 2, 1) := by decide +kernel
theorem dX11_drop_90 : decode cX11_drop 90 = .ok (.iconst 1, 1) := by decide +kernel
theorem dX11_drop_91 : decode cX11_drop 91 = .ok (.iadd, 1) := by decide +kernel
theorem dX11_drop_92 : decode cX11_drop 92 = .ok (.imul, 1) := by decide +kernel
theorem dX11_drop_93 : decode cX11_drop 93 = .ok (.iload_n 3, 1) := by decide +kernel
theorem dX11_drop_94 : decode cX11_drop 94 = .ok (.iadd, 1) := by decide +kernel
theorem dX11_drop_95 : decode cX11_drop 95 = .ok (.iaload, 1) := by decide +kernel
theorem dX11_drop_96 : decode cX11_drop 96 = .ok (.iastore, 1) := by decide +kernel
theorem dX11_drop_97 : decode cX11_drop 97 = .ok (.iinc 3 1, 3) := by decide +kernel
theorem dX11_drop_100 : decode cX11_drop 100 = .ok (.goto (-30), 3) := by decide +kernel
theorem dX11_drop_103 : decode cX11_drop 103 = .ok (.iconst 0, 1) := by decide +kernel
theorem dX11_drop_104 : decode cX11_drop 104 = .ok (.istore_n 3, 1) := by decide +kernel
theorem dX11_drop_105 : decode cX11_drop 105 = .ok (.iload_n 3, 1) := by decide +kernel
theorem dX11_drop_106 : decode cX11_drop 106 = .ok (.bipush 16, 2) := by decide +kernel
theorem dX11_drop_108 : decode cX11_drop 108 = .ok (.if_icmp .ge 33, 3) := by decide +kernel
theorem dX11_drop_111 : decode cX11_drop 111 = .ok (.aload_n 0, 1) := by decide +kernel
theorem dX11_drop_112 : decode cX11_drop 112 = .ok (.getfield 29, 3) := by decide +kernel
theorem dX11_drop_115 : decode cX11_drop 115 = .ok (.bipush 16, 2) := by decide +kernel
theorem dX11_drop_117 : decode cX11_drop 117 = .ok (.iload_n 2, 1) := by decide +kernel
theorem dX11_drop_118 : decode cX11_drop 118 = .ok (.imul, 1) := by decide +kernel
theorem dX11_drop_119 : decode cX11_drop 119 = .ok (.iload_n 3, 1) := by decide +kernel
theorem dX11_drop_120 : decode cX11_drop 120 = .ok (.iadd, 1) := by decide +kernel
theorem dX11_drop_121 : decode cX11_drop 121 = .ok (.aload_n 0, 1) := by decide +kernel
theorem dX11_drop_122 : decode cX11_drop 122 = .ok (.getfield 29, 3) := by decide +kernel
theorem dX11_drop_125 : decode cX11_drop 125 = .ok (.bipush 16, 2) := by decide +kernel
theorem dX11_drop_127 : decode cX11_drop 127 = .ok (.iload_n 2, 1) := by decide +kernel
theorem dX11_drop_128 : decode cX11_drop 128 = .ok (.iconst 1, 1) := by decide +kernel
theorem dX11_drop_129 : decode cX11_drop 129 = .ok (.iadd, 1) := by decide +kernel
theorem dX11_drop_130 : decode cX11_drop 130 = .ok (.imul, 1) := by decide +kernel
theorem dX11_drop_131 : decode cX11_drop 131 = .ok (.iload_n 3, 1) := by decide +kernel
theorem dX11_drop_132 : decode cX11_drop 132 = .ok (.iadd, 1) := by decide +kernel
theorem dX11_drop_133 : decode cX11_drop 133 = .ok (.baload, 1) := by decide +kernel
theorem dX11_drop_134 : decode cX11_drop 134 = .ok (.bastore, 1) := by decide +kernel
theorem dX11_drop_135 : decode cX11_drop 135 = .ok (.iinc 3 1, 3) := by decide +kernel
theorem dX11_drop_138 : decode cX11_drop 138 = .ok (.goto (-33), 3) := by decide +kernel
theorem dX11_drop_141 : decode cX11_drop 141 = .ok (.iinc 2 1, 3) := by decide +kernel
theorem dX11_drop_144 : decode cX11_drop 144 = .ok (.goto (-128), 3) := by decide +kernel
theorem dX11_drop_147 : decode cX11_drop 147 = .ok (.aload_n 0, 1) := by decide +kernel
theorem dX11_drop_148 : decode cX11_drop 148 = .ok (.aload_n 0, 1) := by decide +kernel
theorem dX11_drop_149 : decode cX11_drop 149 = .ok (.getfield 92, 3) := by decide +kernel
theorem dX11_drop_152 : decode cX11_drop 152 = .ok (.iconst 1, 1) := by decide +kernel
theorem dX11_drop_153 : decode cX11_drop 153 = .ok (.isub, 1) := by decide +kernel
theorem dX11_drop_154 : decode cX11_drop 154 = .ok (.putfield 92, 3) := by decide +kernel
theorem dX11_drop_157 : decode cX11_drop 157 = .ok (.iconst 1, 1) := by decide +kernel
theorem dX11_drop_158 : decode cX11_drop 158 = .ok (.ireturn, 1) := by decide +kernel
theorem dX11_byteOf_0 : decode cX11_byteOf 0 = .ok (.aload_n 0, 1) := by decide +kernel
theorem dX11_byteOf_1 : decode cX11_byteOf 1 = .ok (.getfield 29, 3) := by decide +kernel
theorem dX11_byteOf_4 : decode cX11_byteOf 4 = .ok (.bipush 16, 2) := by decide +kernel
theorem dX11_byteOf_6 : decode cX11_byteOf 6 = .ok (.iload_n 1, 1) := by decide +kernel
theorem dX11_byteOf_7 : decode cX11_byteOf 7 = .ok (.imul, 1) := by decide +kernel
theorem dX11_byteOf_8 : decode cX11_byteOf 8 = .ok (.iload_n 2, 1) := by decide +kernel
theorem dX11_byteOf_9 : decode cX11_byteOf 9 = .ok (.iadd, 1) := by decide +kernel
theorem dX11_byteOf_10 : decode cX11_byteOf 10 = .ok (.baload, 1) := by decide +kernel
theorem dX11_byteOf_11 : decode cX11_byteOf 11 = .ok (.sipush 255, 3) := by decide +kernel
theorem dX11_byteOf_14 : decode cX11_byteOf 14 = .ok (.iand, 1) := by decide +kernel
theorem dX11_byteOf_15 : decode cX11_byteOf 15 = .ok (.ireturn, 1) := by decide +kernel
set_option maxRecDepth 20000 in
theorem ggX11_stroke_X11_isStroke : GoodIn wsX11_stroke wsX11_isStroke := goodIn_r _ [6, 7] (by decide +kernel) (by decide +kernel)
set_option maxRecDepth 20000 in
theorem gX11_stroke_X11_isStroke : GoodIn wsX11_stroke (va_wsS RX11 99 yX11_isStroke wsX11_isStroke) := goodIn_app (goodIn_of _ (by decide +kernel)) ggX11_stroke_X11_isStroke
theorem dX11_stroke_0 : decode cX11_stroke 0 = .ok (.iload_n 1, 1) := by decide +kernel
theorem dX11_stroke_1 : decode cX11_stroke 1 = .ok (.invokestatic 99, 3) := by decide +kernel
theorem dX11_stroke_4 : decode cX11_stroke 4 = .ok (.ifCond .eq 13, 3) := by decide +kernel
theorem dX11_stroke_7 : decode cX11_stroke 7 = .ok (.aload_n 0, 1) := by decide +kernel
theorem dX11_stroke_8 : decode cX11_stroke 8 = .ok (.getfield 124, 3) := by decide +kernel
theorem dX11_stroke_11 : decode cX11_stroke 11 = .ok (.sipush 300, 3) := by decide +kernel
theorem dX11_stroke_14 : decode cX11_stroke 14 = .ok (.if_icmp .ne 5, 3) := by decide +kernel
theorem dX11_stroke_17 : decode cX11_stroke 17 = .ok (.iconst (-1), 1) := by decide +kernel
theorem dX11_stroke_18 : decode cX11_stroke 18 = .ok (.ireturn, 1) := by decide +kernel
theorem dX11_stroke_19 : decode cX11_stroke 19 = .ok (.aload_n 0, 1) := by decide +kernel
theorem dX11_stroke_20 : decode cX11_stroke 20 = .ok (.getfield 32, 3) := by decide +kernel
theorem dX11_stroke_23 : decode cX11_stroke 23 = .ok (.aload_n 0, 1) := by decide +kernel
theorem dX11_stroke_24 : decode cX11_stroke 24 = .ok (.getfield 124, 3) := by decide +kernel
theorem dX11_stroke_27 : decode cX11_stroke 27 = .ok (.iload_n 1, 1) := by decide +kernel
theorem dX11_stroke_28 : decode cX11_stroke 28 = .ok (.iastore, 1) := by decide +kernel
theorem dX11_stroke_29 : decode cX11_stroke 29 = .ok (.aload_n 0, 1) := by decide +kernel
theorem dX11_stroke_30 : decode cX11_stroke 30 = .ok (.aload_n 0, 1) := by decide +kernel
theorem dX11_stroke_31 : decode cX11_stroke 31 = .ok (.getfield 124, 3) := by decide +kernel
theorem dX11_stroke_34 : decode cX11_stroke 34 = .ok (.iconst 1, 1) := by decide +kernel
theorem dX11_stroke_35 : decode cX11_stroke 35 = .ok (.iadd, 1) := by decide +kernel
theorem dX11_stroke_36 : decode cX11_stroke 36 = .ok (.putfield 124, 3) := by decide +kernel
theorem dX11_stroke_39 : decode cX11_stroke 39 = .ok (.aload_n 0, 1) := by decide +kernel
theorem dX11_stroke_40 : decode cX11_stroke 40 = .ok (.getfield 124, 3) := by decide +kernel
theorem dX11_stroke_43 : decode cX11_stroke 43 = .ok (.ireturn, 1) := by decide +kernel
theorem dX11_back_0 : decode cX11_back 0 = .ok (.aload_n 0, 1) := by decide +kernel
theorem dX11_back_1 : decode cX11_back 1 = .ok (.getfield 124, 3) := by decide +kernel
theorem dX11_back_4 : decode cX11_back 4 = .ok (.ifCond .ne 5, 3) := by decide +kernel
theorem dX11_back_7 : decode cX11_back 7 = .ok (.iconst (-1), 1) := by decide +kernel
theorem dX11_back_8 : decode cX11_back 8 = .ok (.ireturn, 1) := by decide +kernel
theorem dX11_back_9 : decode cX11_back 9 = .ok (.aload_n 0, 1) := by decide +kernel
theorem dX11_back_10 : decode cX11_back 10 = .ok (.aload_n 0, 1) := by decide +kernel
theorem dX11_back_11 : decode cX11_back 11 = .ok (.getfield 124, 3) := by decide +kernel
theorem dX11_back_14 : decode cX11_back 14 = .ok (.iconst 1, 1) := by decide +kernel
theorem dX11_back_15 : decode cX11_back 15 = .ok (.isub, 1) := by decide +kernel
theorem dX11_back_16 : decode cX11_back 16 = .ok (.putfield 124, 3) := by decide +kernel
theorem dX11_back_19 : decode cX11_back 19 = .ok (.aload_n 0, 1) := by decide +kernel
theorem dX11_back_20 : decode cX11_back 20 = .ok (.getfield 32, 3) := by decide +kernel
theorem dX11_back_23 : decode cX11_back 23 = .ok (.aload_n 0, 1) := by decide +kernel
theorem dX11_back_24 : decode cX11_back 24 = .ok (.getfield 124, 3) := by decide +kernel
theorem dX11_back_27 : decode cX11_back 27 = .ok (.iaload, 1) := by decide +kernel
theorem dX11_back_28 : decode cX11_back 28 = .ok (.ireturn, 1) := by decide +kernel
set_option maxRecDepth 20000 in
theorem ggX11_correct_X11_isStroke : GoodIn wsX11_correct wsX11_isStroke := goodIn_r _ [6, 7] (by decide +kernel) (by decide +kernel)
set_option maxRecDepth 20000 in
theorem gX11_correct_X11_isStroke : GoodIn wsX11_correct (va_wsS RX11 99 yX11_isStroke wsX11_isStroke) := goodIn_app (goodIn_of _ (by decide +kernel)) ggX11_correct_X11_isStroke
theorem dX11_correct_0 : decode cX11_correct 0 = .ok (.iload_n 1, 1) := by decide +kernel
theorem dX11_correct_1 : decode cX11_correct 1 = .ok (.ifCond .lt 18, 3) := by decide +kernel
theorem dX11_correct_4 : decode cX11_correct 4 = .ok (.iload_n 1, 1) := by decide +kernel
theorem dX11_correct_5 : decode cX11_correct 5 = .ok (.aload_n 0, 1) := by decide +kernel
theorem dX11_correct_6 : decode cX11_correct 6 = .ok (.getfield 124, 3) := by decide +kernel
theorem dX11_correct_9 : decode cX11_correct 9 = .ok (.if_icmp .ge 10, 3) := by decide +kernel
theorem dX11_correct_12 : decode cX11_correct 12 = .ok (.iload_n 2, 1) := by decide +kernel
theorem dX11_correct_13 : decode cX11_correct 13 = .ok (.invokestatic 99, 3) := by decide +kernel
theorem dX11_correct_16 : decode cX11_correct 16 = .ok (.ifCond .ne 5, 3) := by decide +kernel
theorem dX11_correct_19 : decode cX11_correct 19 = .ok (.iconst 0, 1) := by decide +kernel
theorem dX11_correct_20 : decode cX11_correct 20 = .ok (.ireturn, 1) := by decide +kernel
theorem dX11_correct_21 : decode cX11_correct 21 = .ok (.aload_n 0, 1) := by decide +kernel
theorem dX11_correct_22 : decode cX11_correct 22 = .ok (.getfield 32, 3) := by decide +kernel
theorem dX11_correct_25 : decode cX11_correct 25 = .ok (.iload_n 1, 1) := by decide +kernel
theorem dX11_correct_26 : decode cX11_correct 26 = .ok (.iload_n 2, 1) := by decide +kernel
theorem dX11_correct_27 : decode cX11_correct 27 = .ok (.iastore, 1) := by decide +kernel
theorem dX11_correct_28 : decode cX11_correct 28 = .ok (.iconst 1, 1) := by decide +kernel
theorem dX11_correct_29 : decode cX11_correct 29 = .ok (.ireturn, 1) := by decide +kernel
set_option maxRecDepth 20000 in
theorem ggX11_insert_X11_isStroke : GoodIn wsX11_insert wsX11_isStroke := goodIn_r _ [6, 7] (by decide +kernel) (by decide +kernel)
set_option maxRecDepth 20000 in
theorem gX11_insert_X11_isStroke : GoodIn wsX11_insert (va_wsS RX11 99 yX11_isStroke wsX11_isStroke) := goodIn_app (goodIn_of _ (by decide +kernel)) ggX11_insert_X11_isStroke
theorem dX11_insert_0 : decode cX11_insert 0 = .ok (.iload_n 1, 1) := by decide +kernel
theorem dX11_insert_1 : decode cX11_insert 1 = .ok (.ifCond .lt 28, 3) := by decide +kernel
theorem dX11_insert_4 : decode cX11_insert 4 = .ok (.iload_n 1, 1) := by decide +kernel
theorem dX11_insert_5 : decode cX11_insert 5 = .ok (.aload_n 0, 1) := by decide +kernel
theorem dX11_insert_6 : decode cX11_insert 6 = .ok (.getfield 124, 3) := by decide +kernel
theorem dX11_insert_9 : decode cX11_insert 9 = .ok (.if_icmp .gt 20, 3) := by decide +kernel
theorem dX11_insert_12 : decode cX11_insert 12 = .ok (.iload_n 2, 1) := by decide +kernel
theorem dX11_insert_13 : decode cX11_insert 13 = .ok (.invokestatic 99, 3) := by decide +kernel
theorem dX11_insert_16 : decode cX11_insert 16 = .ok (.ifCond .eq 13, 3) := by decide +kernel
theorem dX11_insert_19 : decode cX11_insert 19 = .ok (.aload_n 0, 1) := by decide +kernel
theorem dX11_insert_20 : decode cX11_insert 20 = .ok (.getfield 124, 3) := by decide +kernel
theorem dX11_insert_23 : decode cX11_insert 23 = .ok (.sipush 300, 3) := by decide +kernel
theorem dX11_insert_26 : decode cX11_insert 26 = .ok (.if_icmp .ne 5, 3) := by decide +kernel
theorem dX11_insert_29 : decode cX11_insert 29 = .ok (.iconst 0, 1) := by decide +kernel
theorem dX11_insert_30 : decode cX11_insert 30 = .ok (.ireturn, 1) := by decide +kernel
theorem dX11_insert_31 : decode cX11_insert 31 = .ok (.aload_n 0, 1) := by decide +kernel
theorem dX11_insert_32 : decode cX11_insert 32 = .ok (.getfield 124, 3) := by decide +kernel
theorem dX11_insert_35 : decode cX11_insert 35 = .ok (.istore_n 3, 1) := by decide +kernel
theorem dX11_insert_36 : decode cX11_insert 36 = .ok (.iload_n 3, 1) := by decide +kernel
theorem dX11_insert_37 : decode cX11_insert 37 = .ok (.iload_n 1, 1) := by decide +kernel
theorem dX11_insert_38 : decode cX11_insert 38 = .ok (.if_icmp .le 23, 3) := by decide +kernel
theorem dX11_insert_41 : decode cX11_insert 41 = .ok (.aload_n 0, 1) := by decide +kernel
theorem dX11_insert_42 : decode cX11_insert 42 = .ok (.getfield 32, 3) := by decide +kernel
theorem dX11_insert_45 : decode cX11_insert 45 = .ok (.iload_n 3, 1) := by decide +kernel
theorem dX11_insert_46 : decode cX11_insert 46 = .ok (.aload_n 0, 1) := by decide +kernel
theorem dX11_insert_47 : decode cX11_insert 47 = .ok (.getfield 32, 3) := by decide +kernel
theorem dX11_insert_50 : decode cX11_insert 50 = .ok (.iload_n 3, 1) := by decide +kernel
theorem dX11_insert_51 : decode cX11_insert 51 = .ok (.iconst 1, 1) := by decide +kernel
theorem dX11_insert_52 : decode cX11_insert 52 = .ok (.isub, 1) := by decide +kernel
theorem dX11_insert_53 : decode cX11_insert 53 = .ok (.iaload, 1) := by decide +kernel
theorem dX11_insert_54 : decode cX11_insert 54 = .ok (.iastore, 1) := by decide +kernel
theorem dX11_insert_55 : decode cX11_insert 55 = .ok (.iinc 3 (-1), 3) := by decide +kernel
theorem dX11_insert_58 : decode cX11_insert 58 = .ok (.goto (-22), 3) := by decide +kernel
theorem dX11_insert_61 : decode cX11_insert 61 = .ok (.aload_n 0, 1) := by decide +kernel
theorem dX11_insert_62 : decode cX11_insert 62 = .ok (.getfield 32, 3) := by decide +kernel
theorem dX11_insert_65 : decode cX11_insert 65 = .ok (.iload_n 1, 1) := by decide +kernel
theorem dX11_insert_66 : decode cX11_insert 66 = .ok (.iload_n 2, 1) := by decide +kernel
theorem dX11_insert_67 : decode cX11_insert 67 = .ok (.iastore, 1) := by decide +kernel
theorem dX11_insert_68 : decode cX11_insert 68 = .ok (.aload_n 0, 1) := by decide +kernel
theorem dX11_insert_69 : decode cX11_insert 69 = .ok (.aload_n 0, 1) := by decide +kernel
theorem dX11_insert_70 : decode cX11_insert 70 = .ok (.getfield 124, 3) := by decide +kernel
theorem dX11_insert_73 : decode cX11_insert 73 = .ok (.iconst 1, 1) := by decide +kernel
theorem dX11_insert_74 : decode cX11_insert 74 = .ok (.iadd, 1) := by decide +kernel
theorem dX11_insert_75 : decode cX11_insert 75 = .ok (.putfield 124, 3) := by decide +kernel
theorem dX11_insert_78 : decode cX11_insert 78 = .ok (.iconst 1, 1) := by decide +kernel
theorem dX11_insert_79 : decode cX11_insert 79 = .ok (.ireturn, 1) := by decide +kernel
theorem dX11_cut_0 : decode cX11_cut 0 = .ok (.iload_n 1, 1) := by decide +kernel
theorem dX11_cut_1 : decode cX11_cut 1 = .ok (.ifCond .lt 11, 3) := by decide +kernel
theorem dX11_cut_4 : decode cX11_cut 4 = .ok (.iload_n 1, 1) := by decide +kernel
theorem dX11_cut_5 : decode cX11_cut 5 = .ok (.aload_n 0, 1) := by decide +kernel
theorem dX11_cut_6 : decode cX11_cut 6 = .ok (.getfield 124, 3) := by decide +kernel
theorem dX11_cut_9 : decode cX11_cut 9 = .ok (.if_icmp .lt 5, 3) := by decide +kernel
theorem dX11_cut_12 : decode cX11_cut 12 = .ok (.iconst (-1), 1) := by decide +kernel
theorem dX11_cut_13 : decode cX11_cut 13 = .ok (.ireturn, 1) := by decide +kernel
theorem dX11_cut_14 : decode cX11_cut 14 = .ok (.aload_n 0, 1) := by decide +kernel
theorem dX11_cut_15 : decode cX11_cut 15 = .ok (.getfield 32, 3) := by decide +kernel
theorem dX11_cut_18 : decode cX11_cut 18 = .ok (.iload_n 1, 1) := by decide +kernel
theorem dX11_cut_19 : decode cX11_cut 19 = .ok (.iaload, 1) := by decide +kernel
theorem dX11_cut_20 : decode cX11_cut 20 = .ok (.istore_n 2, 1) := by decide +kernel
theorem dX11_cut_21 : decode cX11_cut 21 = .ok (.aload_n 0, 1) := by decide +kernel
theorem dX11_cut_22 : decode cX11_cut 22 = .ok (.aload_n 0, 1) := by decide +kernel
theorem dX11_cut_23 : decode cX11_cut 23 = .ok (.getfield 124, 3) := by decide +kernel
theorem dX11_cut_26 : decode cX11_cut 26 = .ok (.iconst 1, 1) := by decide +kernel
theorem dX11_cut_27 : decode cX11_cut 27 = .ok (.isub, 1) := by decide +kernel
theorem dX11_cut_28 : decode cX11_cut 28 = .ok (.putfield 124, 3) := by decide +kernel
theorem dX11_cut_31 : decode cX11_cut 31 = .ok (.iload_n 1, 1) := by decide +kernel
theorem dX11_cut_32 : decode cX11_cut 32 = .ok (.istore_n 3, 1) := by decide +kernel
theorem dX11_cut_33 : decode cX11_cut 33 = .ok (.iload_n 3, 1) := by decide +kernel
theorem dX11_cut_34 : decode cX11_cut 34 = .ok (.aload_n 0, 1) := by decide +kernel
theorem dX11_cut_35 : decode cX11_cut 35 = .ok (.getfield 124, 3) := by decide +kernel
theorem dX11_cut_38 : decode cX11_cut 38 = .ok (.if_icmp .ge 23, 3) := by decide +kernel
theorem dX11_cut_41 : decode cX11_cut 41 = .ok (.aload_n 0, 1) := by decide +kernel
theorem dX11_cut_42 : decode cX11_cut 42 = .ok (.getfield 32, 3) := by decide +kernel
theorem dX11_cut_45 : decode cX11_cut 45 = .ok (.iload_n 3, 1) := by decide +kernel
theorem dX11_cut_46 : decode cX11_cut 46 = .ok (.aload_n 0, 1) := by decide +kernel
theorem dX11_cut_47 : decode cX11_cut 47 = .ok (.getfield 32, 3) := by decide +kernel
theorem dX11_cut_50 : decode cX11_cut 50 = .ok (.iload_n 3, 1) := by decide +kernel
theorem dX11_cut_51 : decode cX11_cut 51 = .ok (.iconst 1, 1) := by decide +kernel
theorem dX11_cut_52 : decode cX11_cut 52 = .ok (.iadd, 1) := by decide +kernel
theorem dX11_cut_53 : decode cX11_cut 53 = .ok (.iaload, 1) := by decide +kernel
theorem dX11_cut_54 : decode cX11_cut 54 = .ok (.iastore, 1) := by decide +kernel
theorem dX11_cut_55 : decode cX11_cut 55 = .ok (.iinc 3 1, 3) := by decide +kernel
theorem dX11_cut_58 : decode cX11_cut 58 = .ok (.goto (-25), 3) := by decide +kernel
theorem dX11_cut_61 : decode cX11_cut 61 = .ok (.iload_n 2, 1) := by decide +kernel
theorem dX11_cut_62 : decode cX11_cut 62 = .ok (.ireturn, 1) := by decide +kernel
set_option maxRecDepth 20000 in
theorem ggX11_reads_X11_entryOf : GoodIn wsX11_reads wsX11_entryOf := goodIn_r _ [8, 9, 10, 11, 12, 13, 14, 15, 16, 17, 18, 19, 20, 21, 22, 23, 24, 25, 26, 27, 28, 29, 30, 31, 32, 33, 34, 35, 36, 37, 38, 39, 40, 41, 42, 43, 44, 45, 46, 47, 48, 49, 50, 51, 52, 53, 54] (by decide +kernel) (by decide +kernel)
set_option maxRecDepth 20000 in
theorem gX11_reads_X11_entryOf : GoodIn wsX11_reads (wsV RX11 120 RX11 yX11_entryOf wsX11_entryOf) := goodIn_app (goodIn_of _ (by decide +kernel)) ggX11_reads_X11_entryOf
theorem dX11_reads_0 : decode cX11_reads 0 = .ok (.aload_n 0, 1) := by decide +kernel
theorem dX11_reads_1 : decode cX11_reads 1 = .ok (.iconst 0, 1) := by decide +kernel
theorem dX11_reads_2 : decode cX11_reads 2 = .ok (.putfield 127, 3) := by decide +kernel
theorem dX11_reads_5 : decode cX11_reads 5 = .ok (.aload_n 0, 1) := by decide +kernel
theorem dX11_reads_6 : decode cX11_reads 6 = .ok (.getfield 38, 3) := by decide +kernel
theorem dX11_reads_9 : decode cX11_reads 9 = .ok (.iconst 0, 1) := by decide +kernel
theorem dX11_reads_10 : decode cX11_reads 10 = .ok (.iconst 0, 1) := by decide +kernel
theorem dX11_reads_11 : decode cX11_reads 11 = .ok (.iastore, 1) := by decide +kernel
theorem dX11_reads_12 : decode cX11_reads 12 = .ok (.iconst 0, 1) := by decide +kernel
theorem dX11_reads_13 : decode cX11_reads 13 = .ok (.istore_n 3, 1) := by decide +kernel
theorem dX11_reads_14 : decode cX11_reads 14 = .ok (.iload_n 3, 1) := by decide +kernel
theorem dX11_reads_15 : decode cX11_reads 15 = .ok (.iload_n 2, 1) := by decide +kernel
theorem dX11_reads_16 : decode cX11_reads 16 = .ok (.if_icmp .ge 148, 3) := by decide +kernel
theorem dX11_reads_19 : decode cX11_reads 19 = .ok (.iconst (-1), 1) := by decide +kernel
theorem dX11_reads_20 : decode cX11_reads 20 = .ok (.istore 4, 2) := by decide +kernel
theorem dX11_reads_22 : decode cX11_reads 22 = .ok (.aload_n 0, 1) := by decide +kernel
theorem dX11_reads_23 : decode cX11_reads 23 = .ok (.getfield 127, 3) := by decide +kernel
theorem dX11_reads_26 : decode cX11_reads 26 = .ok (.istore 5, 2) := by decide +kernel
theorem dX11_reads_28 : decode cX11_reads 28 = .ok (.aload_n 0, 1) := by decide +kernel
theorem dX11_reads_29 : decode cX11_reads 29 = .ok (.getfield 127, 3) := by decide +kernel
theorem dX11_reads_32 : decode cX11_reads 32 = .ok (.istore 6, 2) := by decide +kernel
theorem dX11_reads_34 : decode cX11_reads 34 = .ok (.iload 6, 2) := by decide +kernel
theorem dX11_reads_36 : decode cX11_reads 36 = .ok (.ifCond .lt 76, 3) := by decide +kernel
theorem dX11_reads_39 : decode cX11_reads 39 = .ok (.iload 6, 2) := by decide +kernel
theorem dX11_reads_41 : decode cX11_reads 41 = .ok (.aload_n 0, 1) := by decide +kernel
theorem dX11_reads_42 : decode cX11_reads 42 = .ok (.getfield 127, 3) := by decide +kernel
theorem dX11_reads_45 : decode cX11_reads 45 = .ok (.if_icmp .ne 7, 3) := by decide +kernel
theorem dX11_reads_48 : decode cX11_reads 48 = .ok (.iload_n 3, 1) := by decide +kernel
theorem dX11_reads_49 : decode cX11_reads 49 = .ok (.goto 10, 3) := by decide +kernel
theorem dX11_reads_52 : decode cX11_reads 52 = .ok (.aload_n 0, 1) := by decide +kernel
theorem dX11_reads_53 : decode cX11_reads 53 = .ok (.getfield 38, 3) := by decide +kernel
theorem dX11_reads_56 : decode cX11_reads 56 = .ok (.iload 6, 2) := by decide +kernel
theorem dX11_reads_58 : decode cX11_reads 58 = .ok (.iaload, 1) := by decide +kernel
theorem dX11_reads_59 : decode cX11_reads 59 = .ok (.istore 7, 2) := by decide +kernel
theorem dX11_reads_61 : decode cX11_reads 61 = .ok (.iload_n 3, 1) := by decide +kernel
theorem dX11_reads_62 : decode cX11_reads 62 = .ok (.iconst 1, 1) := by decide +kernel
theorem dX11_reads_63 : decode cX11_reads 63 = .ok (.iadd, 1) := by decide +kernel
theorem dX11_reads_64 : decode cX11_reads 64 = .ok (.iload 7, 2) := by decide +kernel
theorem dX11_reads_66 : decode cX11_reads 66 = .ok (.isub, 1) := by decide +kernel
theorem dX11_reads_67 : decode cX11_reads 67 = .ok (.iconst 5, 1) := by decide +kernel
theorem dX11_reads_68 : decode cX11_reads 68 = .ok (.if_icmp .le 6, 3) := by decide +kernel
theorem dX11_reads_71 : decode cX11_reads 71 = .ok (.goto 41, 3) := by decide +kernel
theorem dX11_reads_74 : decode cX11_reads 74 = .ok (.aload_n 0, 1) := by decide +kernel
theorem dX11_reads_75 : decode cX11_reads 75 = .ok (.aload_n 1, 1) := by decide +kernel
theorem dX11_reads_76 : decode cX11_reads 76 = .ok (.iload 7, 2) := by decide +kernel
theorem dX11_reads_78 : decode cX11_reads 78 = .ok (.iload_n 3, 1) := by decide +kernel
theorem dX11_reads_79 : decode cX11_reads 79 = .ok (.iconst 1, 1) := by decide +kernel
theorem dX11_reads_80 : decode cX11_reads 80 = .ok (.iadd, 1) := by decide +kernel
theorem dX11_reads_81 : decode cX11_reads 81 = .ok (.iload 7, 2) := by decide +kernel
theorem dX11_reads_83 : decode cX11_reads 83 = .ok (.isub, 1) := by decide +kernel
theorem dX11_reads_84 : decode cX11_reads 84 = .ok (.invokevirtual 120, 3) := by decide +kernel
theorem dX11_reads_87 : decode cX11_reads 87 = .ok (.istore 8, 2) := by decide +kernel
theorem dX11_reads_89 : decode cX11_reads 89 = .ok (.iload 8, 2) := by decide +kernel
theorem dX11_reads_91 : decode cX11_reads 91 = .ok (.iconst (-1), 1) := by decide +kernel
theorem dX11_reads_92 : decode cX11_reads 92 = .ok (.if_icmp .ne 6, 3) := by decide +kernel
theorem dX11_reads_95 : decode cX11_reads 95 = .ok (.goto 11, 3) := by decide +kernel
theorem dX11_reads_98 : decode cX11_reads 98 = .ok (.iload 8, 2) := by decide +kernel
theorem dX11_reads_100 : decode cX11_reads 100 = .ok (.istore 4, 2) := by decide +kernel
theorem dX11_reads_102 : decode cX11_reads 102 = .ok (.iload 6, 2) := by decide +kernel
theorem dX11_reads_104 : decode cX11_reads 104 = .ok (.istore 5, 2) := by decide +kernel
theorem dX11_reads_106 : decode cX11_reads 106 = .ok (.iinc 6 (-1), 3) := by decide +kernel
theorem dX11_reads_109 : decode cX11_reads 109 = .ok (.goto (-75), 3) := by decide +kernel
theorem dX11_reads_112 : decode cX11_reads 112 = .ok (.iload 5, 2) := by decide +kernel
theorem dX11_reads_114 : decode cX11_reads 114 = .ok (.aload_n 0, 1) := by decide +kernel
theorem dX11_reads_115 : decode cX11_reads 115 = .ok (.getfield 127, 3) := by decide +kernel
theorem dX11_reads_118 : decode cX11_reads 118 = .ok (.if_icmp .ne 11, 3) := by decide +kernel
theorem dX11_reads_121 : decode cX11_reads 121 = .ok (.aload_n 0, 1) := by decide +kernel
theorem dX11_reads_122 : decode cX11_reads 122 = .ok (.getfield 38, 3) := by decide +kernel
theorem dX11_reads_125 : decode cX11_reads 125 = .ok (.iload 5, 2) := by decide +kernel
theorem dX11_reads_127 : decode cX11_reads 127 = .ok (.iload_n 3, 1) := by decide +kernel
theorem dX11_reads_128 : decode cX11_reads 128 = .ok (.iastore, 1) := by decide +kernel
theorem dX11_reads_129 : decode cX11_reads 129 = .ok (.aload_n 0, 1) := by decide +kernel
theorem dX11_reads_130 : decode cX11_reads 130 = .ok (.getfield 35, 3) := by decide +kernel
theorem dX11_reads_133 : decode cX11_reads 133 = .ok (.iload 5, 2) := by decide +kernel
theorem dX11_reads_135 : decode cX11_reads 135 = .ok (.iload 4, 2) := by decide +kernel
theorem dX11_reads_137 : decode cX11_reads 137 = .ok (.iastore, 1) := by decide +kernel
theorem dX11_reads_138 : decode cX11_reads 138 = .ok (.aload_n 0, 1) := by decide +kernel
theorem dX11_reads_139 : decode cX11_reads 139 = .ok (.iload 5, 2) := by decide +kernel
theorem dX11_reads_141 : decode cX11_reads 141 = .ok (.iconst 1, 1) := by decide +kernel
theorem dX11_reads_142 : decode cX11_reads 142 = .ok (.iadd, 1) := by decide +kernel
theorem dX11_reads_143 : decode cX11_reads 143 = .ok (.putfield 127, 3) := by decide +kernel
theorem dX11_reads_146 : decode cX11_reads 146 = .ok (.aload_n 0, 1) := by decide +kernel
theorem dX11_reads_147 : decode cX11_reads 147 = .ok (.getfield 38, 3) := by decide +kernel
theorem dX11_reads_150 : decode cX11_reads 150 = .ok (.aload_n 0, 1) := by decide +kernel
theorem dX11_reads_151 : decode cX11_reads 151 = .ok (.getfield 127, 3) := by decide +kernel
theorem dX11_reads_154 : decode cX11_reads 154 = .ok (.iload_n 3, 1) := by decide +kernel
theorem dX11_reads_155 : decode cX11_reads 155 = .ok (.iconst 1, 1) := by decide +kernel
theorem dX11_reads_156 : decode cX11_reads 156 = .ok (.iadd, 1) := by decide +kernel
theorem dX11_reads_157 : decode cX11_reads 157 = .ok (.iastore, 1) := by decide +kernel
theorem dX11_reads_158 : decode cX11_reads 158 = .ok (.iinc 3 1, 3) := by decide +kernel
theorem dX11_reads_161 : decode cX11_reads 161 = .ok (.goto (-147), 3) := by decide +kernel
theorem dX11_reads_164 : decode cX11_reads 164 = .ok (.return_, 1) := by decide +kernel
theorem dX11_puts_0 : decode cX11_puts 0 = .ok (.aload_n 0, 1) := by decide +kernel
theorem dX11_puts_1 : decode cX11_puts 1 = .ok (.getfield 41, 3) := by decide +kernel
theorem dX11_puts_4 : decode cX11_puts 4 = .ok (.aload_n 0, 1) := by decide +kernel
theorem dX11_puts_5 : decode cX11_puts 5 = .ok (.getfield 130, 3) := by decide +kernel
theorem dX11_puts_8 : decode cX11_puts 8 = .ok (.iload_n 1, 1) := by decide +kernel
theorem dX11_puts_9 : decode cX11_puts 9 = .ok (.i2b, 1) := by decide +kernel
theorem dX11_puts_10 : decode cX11_puts 10 = .ok (.bastore, 1) := by decide +kernel
theorem dX11_puts_11 : decode cX11_puts 11 = .ok (.aload_n 0, 1) := by decide +kernel
theorem dX11_puts_12 : decode cX11_puts 12 = .ok (.aload_n 0, 1) := by decide +kernel
theorem dX11_puts_13 : decode cX11_puts 13 = .ok (.getfield 130, 3) := by decide +kernel
theorem dX11_puts_16 : decode cX11_puts 16 = .ok (.iconst 1, 1) := by decide +kernel
theorem dX11_puts_17 : decode cX11_puts 17 = .ok (.iadd, 1) := by decide +kernel
theorem dX11_puts_18 : decode cX11_puts 18 = .ok (.putfield 130, 3) := by decide +kernel
theorem dX11_puts_21 : decode cX11_puts 21 = .ok (.return_, 1) := by decide +kernel
set_option maxRecDepth 20000 in
theorem ggX11_blank_X11_puts : GoodIn wsX11_blank wsX11_puts := goodIn_r _ [7, 8, 1, 9, 10, 11, 12, 13, 14, 15, 16, 17, 18, 19, 20, 21, 22, 23, 24, 25, 26, 27, 28, 29, 30, 31, 32, 33, 34, 35, 36, 37, 38, 39, 40, 41, 42, 43, 44, 45, 46, 47, 48, 49, 50, 51] (by decide +kernel) (by decide +kernel)
set_option maxRecDepth 20000 in
theorem gX11_blank_X11_puts : GoodIn wsX11_blank (wsV RX11 136 RX11 yX11_puts wsX11_puts) := goodIn_app (goodIn_of _ (by decide +kernel)) ggX11_blank_X11_puts
theorem dX11_blank_0 : decode cX11_blank 0 = .ok (.aload_n 0, 1) := by decide +kernel
theorem dX11_blank_1 : decode cX11_blank 1 = .ok (.getfield 130, 3) := by decide +kernel
theorem dX11_blank_4 : decode cX11_blank 4 = .ok (.ifCond .le 16, 3) := by decide +kernel
theorem dX11_blank_7 : decode cX11_blank 7 = .ok (.aload_n 0, 1) := by decide +kernel
theorem dX11_blank_8 : decode cX11_blank 8 = .ok (.getfield 133, 3) := by decide +kernel
theorem dX11_blank_11 : decode cX11_blank 11 = .ok (.ifCond .ne 9, 3) := by decide +kernel
theorem dX11_blank_14 : decode cX11_blank 14 = .ok (.aload_n 0, 1) := by decide +kernel
theorem dX11_blank_15 : decode cX11_blank 15 = .ok (.bipush 32, 2) := by decide +kernel
theorem dX11_blank_17 : decode cX11_blank 17 = .ok (.invokevirtual 136, 3) := by decide +kernel
theorem dX11_blank_20 : decode cX11_blank 20 = .ok (.aload_n 0, 1) := by decide +kernel
theorem dX11_blank_21 : decode cX11_blank 21 = .ok (.iconst 0, 1) := by decide +kernel
theorem dX11_blank_22 : decode cX11_blank 22 = .ok (.putfield 133, 3) := by decide +kernel
theorem dX11_blank_25 : decode cX11_blank 25 = .ok (.return_, 1) := by decide +kernel
set_option maxRecDepth 20000 in
theorem ggX11_word_X11_blank : GoodIn wsX11_word wsX11_blank := goodIn_r _ [8, 9, 1, 10, 11, 12, 7, 13, 14, 20, 21, 22, 23, 24, 25, 26, 27, 28, 29, 30, 31, 32, 33, 34, 35, 36, 37, 38, 39, 40, 41, 42, 43, 44, 45, 46, 47, 48, 49, 50, 51, 52, 53, 54, 55, 56, 57, 58, 59, 60, 61, 62] (by decide +kernel) (by decide +kernel)
set_option maxRecDepth 20000 in
theorem gX11_word_X11_blank : GoodIn wsX11_word (wsV RX11 139 RX11 yX11_blank wsX11_blank) := goodIn_app (goodIn_of _ (by decide +kernel)) ggX11_word_X11_blank
set_option maxRecDepth 20000 in
theorem ggX11_word_X11_byteOf : GoodIn wsX11_word wsX11_byteOf := goodIn_r _ [18, 19, 20, 21, 22, 23, 24, 25, 26, 27, 28, 29, 30, 31, 32, 33, 34, 35, 36, 37, 38, 39, 40, 41, 42, 43, 44, 45, 46, 47, 48, 49, 50, 51, 52, 53, 54, 55, 56, 57, 58, 59, 60, 61, 62] (by decide +kernel) (by decide +kernel)
set_option maxRecDepth 20000 in
theorem gX11_word_X11_byteOf : GoodIn wsX11_word (wsV RX11 142 RX11 yX11_byteOf wsX11_byteOf) := goodIn_app (goodIn_of _ (by decide +kernel)) ggX11_word_X11_byteOf
set_option maxRecDepth 20000 in
theorem ggX11_word_X11_puts : GoodIn wsX11_word wsX11_puts := goodIn_r _ [13, 14, 9, 20, 21, 22, 23, 24, 25, 26, 27, 28, 29, 30, 31, 32, 33, 34, 35, 36, 37, 38, 39, 40, 41, 42, 43, 44, 45, 46, 47, 48, 49, 50, 51, 52, 53, 54, 55, 56, 57, 58, 59, 60, 61, 62] (by decide +kernel) (by decide +kernel)
set_option maxRecDepth 20000 in
theorem gX11_word_X11_puts : GoodIn wsX11_word (wsV RX11 136 RX11 yX11_puts wsX11_puts) := goodIn_app (goodIn_of _ (by decide +kernel)) ggX11_word_X11_puts
theorem dX11_word_0 : decode cX11_word 0 = .ok (.iload_n 2, 1) := by decide +kernel
theorem dX11_word_1 : decode cX11_word 1 = .ok (.ifCond .eq 7, 3) := by decide +kernel
theorem dX11_word_4 : decode cX11_word 4 = .ok (.aload_n 0, 1) := by decide +kernel
theorem dX11_word_5 : decode cX11_word 5 = .ok (.invokevirtual 139, 3) := by decide +kernel
theorem dX11_word_8 : decode cX11_word 8 = .ok (.aload_n 0, 1) := by decide +kernel
theorem dX11_word_9 : decode cX11_word 9 = .ok (.iconst 0, 1) := by decide +kernel
theorem dX11_word_10 : decode cX11_word 10 = .ok (.putfield 133, 3) := by decide +kernel
theorem dX11_word_13 : decode cX11_word 13 = .ok (.iconst 0, 1) := by decide +kernel
theorem dX11_word_14 : decode cX11_word 14 = .ok (.istore_n 3, 1) := by decide +kernel
theorem dX11_word_15 : decode cX11_word 15 = .ok (.iload_n 3, 1) := by decide +kernel
theorem dX11_word_16 : decode cX11_word 16 = .ok (.aload_n 0, 1) := by decide +kernel
theorem dX11_word_17 : decode cX11_word 17 = .ok (.getfield 23, 3) := by decide +kernel
theorem dX11_word_20 : decode cX11_word 20 = .ok (.iload_n 1, 1) := by decide +kernel
theorem dX11_word_21 : decode cX11_word 21 = .ok (.iaload, 1) := by decide +kernel
theorem dX11_word_22 : decode cX11_word 22 = .ok (.if_icmp .ge 51, 3) := by decide +kernel
theorem dX11_word_25 : decode cX11_word 25 = .ok (.aload_n 0, 1) := by decide +kernel
theorem dX11_word_26 : decode cX11_word 26 = .ok (.iload_n 1, 1) := by decide +kernel
theorem dX11_word_27 : decode cX11_word 27 = .ok (.iload_n 3, 1) := by decide +kernel
theorem dX11_word_28 : decode cX11_word 28 = .ok (.invokevirtual 142, 3) := by decide +kernel
theorem dX11_word_31 : decode cX11_word 31 = .ok (.istore 4, 2) := by decide +kernel
theorem dX11_word_33 : decode cX11_word 33 = .ok (.aload_n 0, 1) := by decide +kernel
theorem dX11_word_34 : decode cX11_word 34 = .ok (.aload_n 0, 1) := by decide +kernel
theorem dX11_word_35 : decode cX11_word 35 = .ok (.getfield 146, 3) := by decide +kernel
theorem dX11_word_38 : decode cX11_word 38 = .ok (.iconst 2, 1) := by decide +kernel
theorem dX11_word_39 : decode cX11_word 39 = .ok (.if_icmp .eq 15, 3) := by decide +kernel
theorem dX11_word_42 : decode cX11_word 42 = .ok (.aload_n 0, 1) := by decide +kernel
theorem dX11_word_43 : decode cX11_word 43 = .ok (.getfield 146, 3) := by decide +kernel
theorem dX11_word_46 : decode cX11_word 46 = .ok (.iconst 1, 1) := by decide +kernel
theorem dX11_word_47 : decode cX11_word 47 = .ok (.if_icmp .ne 15, 3) := by decide +kernel
theorem dX11_word_50 : decode cX11_word 50 = .ok (.iload_n 3, 1) := by decide +kernel
theorem dX11_word_51 : decode cX11_word 51 = .ok (.ifCond .ne 11, 3) := by decide +kernel
theorem dX11_word_54 : decode cX11_word 54 = .ok (.iload 4, 2) := by decide +kernel
theorem dX11_word_56 : decode cX11_word 56 = .ok (.bipush 32, 2) := by decide +kernel
theorem dX11_word_58 : decode cX11_word 58 = .ok (.isub, 1) := by decide +kernel
theorem dX11_word_59 : decode cX11_word 59 = .ok (.goto 5, 3) := by decide +kernel
theorem dX11_word_62 : decode cX11_word 62 = .ok (.iload 4, 2) := by decide +kernel
theorem dX11_word_64 : decode cX11_word 64 = .ok (.invokevirtual 136, 3) := by decide +kernel
theorem dX11_word_67 : decode cX11_word 67 = .ok (.iinc 3 1, 3) := by decide +kernel
theorem dX11_word_70 : decode cX11_word 70 = .ok (.goto (-55), 3) := by decide +kernel
theorem dX11_word_73 : decode cX11_word 73 = .ok (.aload_n 0, 1) := by decide +kernel
theorem dX11_word_74 : decode cX11_word 74 = .ok (.iconst 0, 1) := by decide +kernel
theorem dX11_word_75 : decode cX11_word 75 = .ok (.putfield 146, 3) := by decide +kernel
theorem dX11_word_78 : decode cX11_word 78 = .ok (.return_, 1) := by decide +kernel
theorem dX11_letterOf_0 : decode cX11_letterOf 0 = .ok (.iload_n 0, 1) := by decide +kernel
theorem dX11_letterOf_1 : decode cX11_letterOf 1 = .ok (.tableswitch 150 0 20 #[99, 102, 105, 108, 111, 114, 117, 120, 123, 126, 129, 132, 135, 117, 108, 138, 141, 144, 102, 99, 147], 99) := by decide +kernel
theorem dX11_letterOf_100 : decode cX11_letterOf 100 = .ok (.bipush 83, 2) := by decide +kernel
theorem dX11_letterOf_102 : decode cX11_letterOf 102 = .ok (.ireturn, 1) := by decide +kernel
theorem dX11_letterOf_103 : decode cX11_letterOf 103 = .ok (.bipush 84, 2) := by decide +kernel
theorem dX11_letterOf_105 : decode cX11_letterOf 105 = .ok (.ireturn, 1) := by decide +kernel
theorem dX11_letterOf_106 : decode cX11_letterOf 106 = .ok (.bipush 75, 2) := by decide +kernel
theorem dX11_letterOf_108 : decode cX11_letterOf 108 = .ok (.ireturn, 1) := by decide +kernel
theorem dX11_letterOf_109 : decode cX11_letterOf 109 = .ok (.bipush 80, 2) := by decide +kernel
theorem dX11_letterOf_111 : decode cX11_letterOf 111 = .ok (.ireturn, 1) := by decide +kernel
theorem dX11_letterOf_112 : decode cX11_letterOf 112 = .ok (.bipush 87, 2) := by decide +kernel
theorem dX11_letterOf_114 : decode cX11_letterOf 114 = .ok (.ireturn, 1) := by decide +kernel
theorem dX11_letterOf_115 : decode cX11_letterOf 115 = .ok (.bipush 72, 2) := by decide +kernel
theorem dX11_letterOf_117 : decode cX11_letterOf 117 = .ok (.ireturn, 1) := by decide +kernel
theorem dX11_letterOf_118 : decode cX11_letterOf 118 = .ok (.bipush 82, 2) := by decide +kernel
theorem dX11_letterOf_120 : decode cX11_letterOf 120 = .ok (.ireturn, 1) := by decide +kernel
theorem dX11_letterOf_121 : decode cX11_letterOf 121 = .ok (.bipush 65, 2) := by decide +kernel
theorem dX11_letterOf_123 : decode cX11_letterOf 123 = .ok (.ireturn, 1) := by decide +kernel
theorem dX11_letterOf_124 : decode cX11_letterOf 124 = .ok (.bipush 79, 2) := by decide +kernel
theorem dX11_letterOf_126 : decode cX11_letterOf 126 = .ok (.ireturn, 1) := by decide +kernel
theorem dX11_letterOf_127 : decode cX11_letterOf 127 = .ok (.bipush 42, 2) := by decide +kernel
theorem dX11_letterOf_129 : decode cX11_letterOf 129 = .ok (.ireturn, 1) := by decide +kernel
theorem dX11_letterOf_130 : decode cX11_letterOf 130 = .ok (.bipush 69, 2) := by decide +kernel
theorem dX11_letterOf_132 : decode cX11_letterOf 132 = .ok (.ireturn, 1) := by decide +kernel
theorem dX11_letterOf_133 : decode cX11_letterOf 133 = .ok (.bipush 85, 2) := by decide +kernel
theorem dX11_letterOf_135 : decode cX11_letterOf 135 = .ok (.ireturn, 1) := by decide +kernel
theorem dX11_letterOf_136 : decode cX11_letterOf 136 = .ok (.bipush 70, 2) := by decide +kernel
theorem dX11_letterOf_138 : decode cX11_letterOf 138 = .ok (.ireturn, 1) := by decide +kernel
theorem dX11_letterOf_139 : decode cX11_letterOf 139 = .ok (.bipush 66, 2) := by decide +kernel
theorem dX11_letterOf_141 : decode cX11_letterOf 141 = .ok (.ireturn, 1) := by decide +kernel
theorem dX11_letterOf_142 : decode cX11_letterOf 142 = .ok (.bipush 76, 2) := by decide +kernel
theorem dX11_letterOf_144 : decode cX11_letterOf 144 = .ok (.ireturn, 1) := by decide +kernel
theorem dX11_letterOf_145 : decode cX11_letterOf 145 = .ok (.bipush 71, 2) := by decide +kernel
theorem dX11_letterOf_147 : decode cX11_letterOf 147 = .ok (.ireturn, 1) := by decide +kernel
theorem dX11_letterOf_148 : decode cX11_letterOf 148 = .ok (.bipush 68, 2) := by decide +kernel
theorem dX11_letterOf_150 : decode cX11_letterOf 150 = .ok (.ireturn, 1) := by decide +kernel
theorem dX11_letterOf_151 : decode cX11_letterOf 151 = .ok (.bipush 90, 2) := by decide +kernel
theorem dX11_letterOf_153 : decode cX11_letterOf 153 = .ok (.ireturn, 1) := by decide +kernel
set_option maxRecDepth 20000 in
theorem ggX11_writes_X11_letterOf : GoodIn wsX11_writes wsX11_letterOf := goodIn_r _ [6] (by decide +kernel) (by decide +kernel)
set_option maxRecDepth 20000 in
theorem gX11_writes_X11_letterOf : GoodIn wsX11_writes (va_wsS RX11 152 yX11_letterOf wsX11_letterOf) := goodIn_app (goodIn_of _ (by decide +kernel)) ggX11_writes_X11_letterOf
theorem dX11_writes_0 : decode cX11_writes 0 = .ok (.aload_n 0, 1) := by decide +kernel
theorem dX11_writes_1 : decode cX11_writes 1 = .ok (.iconst 0, 1) := by decide +kernel
theorem dX11_writes_2 : decode cX11_writes 2 = .ok (.putfield 149, 3) := by decide +kernel
theorem dX11_writes_5 : decode cX11_writes 5 = .ok (.iload_n 1, 1) := by decide +kernel
theorem dX11_writes_6 : decode cX11_writes 6 = .ok (.sipush 3968, 3) := by decide +kernel
theorem dX11_writes_9 : decode cX11_writes 9 = .ok (.iand, 1) := by decide +kernel
theorem dX11_writes_10 : decode cX11_writes 10 = .ok (.ifCond .eq 7, 3) := by decide +kernel
theorem dX11_writes_13 : decode cX11_writes 13 = .ok (.iconst 1, 1) := by decide +kernel
theorem dX11_writes_14 : decode cX11_writes 14 = .ok (.goto 4, 3) := by decide +kernel
theorem dX11_writes_17 : decode cX11_writes 17 = .ok (.iconst 0, 1) := by decide +kernel
theorem dX11_writes_18 : decode cX11_writes 18 = .ok (.istore_n 2, 1) := by decide +kernel
theorem dX11_writes_19 : decode cX11_writes 19 = .ok (.iload_n 1, 1) := by decide +kernel
theorem dX11_writes_20 : decode cX11_writes 20 = .ok (.bipush 12, 2) := by decide +kernel
theorem dX11_writes_22 : decode cX11_writes 22 = .ok (.ishr, 1) := by decide +kernel
theorem dX11_writes_23 : decode cX11_writes 23 = .ok (.ifCond .eq 7, 3) := by decide +kernel
theorem dX11_writes_26 : decode cX11_writes 26 = .ok (.iconst 1, 1) := by decide +kernel
theorem dX11_writes_27 : decode cX11_writes 27 = .ok (.goto 4, 3) := by decide +kernel
theorem dX11_writes_30 : decode cX11_writes 30 = .ok (.iconst 0, 1) := by decide +kernel
theorem dX11_writes_31 : decode cX11_writes 31 = .ok (.istore_n 3, 1) := by decide +kernel
theorem dX11_writes_32 : decode cX11_writes 32 = .ok (.iconst 0, 1) := by decide +kernel
theorem dX11_writes_33 : decode cX11_writes 33 = .ok (.istore 4, 2) := by decide +kernel
theorem dX11_writes_35 : decode cX11_writes 35 = .ok (.iload 4, 2) := by decide +kernel
theorem dX11_writes_37 : decode cX11_writes 37 = .ok (.bipush 22, 2) := by decide +kernel
theorem dX11_writes_39 : decode cX11_writes 39 = .ok (.if_icmp .ge 82, 3) := by decide +kernel
theorem dX11_writes_42 : decode cX11_writes 42 = .ok (.iload 4, 2) := by decide +kernel
theorem dX11_writes_44 : decode cX11_writes 44 = .ok (.bipush 12, 2) := by decide +kernel
theorem dX11_writes_46 : decode cX11_writes 46 = .ok (.if_icmp .ne 32, 3) := by decide +kernel
theorem dX11_writes_49 : decode cX11_writes 49 = .ok (.iload_n 3, 1) := by decide +kernel
theorem dX11_writes_50 : decode cX11_writes 50 = .ok (.ifCond .eq 28, 3) := by decide +kernel
theorem dX11_writes_53 : decode cX11_writes 53 = .ok (.iload_n 2, 1) := by decide +kernel
theorem dX11_writes_54 : decode cX11_writes 54 = .ok (.ifCond .ne 24, 3) := by decide +kernel
theorem dX11_writes_57 : decode cX11_writes 57 = .ok (.aload_n 0, 1) := by decide +kernel
theorem dX11_writes_58 : decode cX11_writes 58 = .ok (.getfield 50, 3) := by decide +kernel
theorem dX11_writes_61 : decode cX11_writes 61 = .ok (.aload_n 0, 1) := by decide +kernel
theorem dX11_writes_62 : decode cX11_writes 62 = .ok (.getfield 149, 3) := by decide +kernel
theorem dX11_writes_65 : decode cX11_writes 65 = .ok (.bipush 45, 2) := by decide +kernel
theorem dX11_writes_67 : decode cX11_writes 67 = .ok (.bastore, 1) := by decide +kernel
theorem dX11_writes_68 : decode cX11_writes 68 = .ok (.aload_n 0, 1) := by decide +kernel
theorem dX11_writes_69 : decode cX11_writes 69 = .ok (.aload_n 0, 1) := by decide +kernel
theorem dX11_writes_70 : decode cX11_writes 70 = .ok (.getfield 149, 3) := by decide +kernel
theorem dX11_writes_73 : decode cX11_writes 73 = .ok (.iconst 1, 1) := by decide +kernel
theorem dX11_writes_74 : decode cX11_writes 74 = .ok (.iadd, 1) := by decide +kernel
theorem dX11_writes_75 : decode cX11_writes 75 = .ok (.putfield 149, 3) := by decide +kernel
theorem dX11_writes_78 : decode cX11_writes 78 = .ok (.iload_n 1, 1) := by decide +kernel
theorem dX11_writes_79 : decode cX11_writes 79 = .ok (.iload 4, 2) := by decide +kernel
theorem dX11_writes_81 : decode cX11_writes 81 = .ok (.ishr, 1) := by decide +kernel
theorem dX11_writes_82 : decode cX11_writes 82 = .ok (.iconst 1, 1) := by decide +kernel
theorem dX11_writes_83 : decode cX11_writes 83 = .ok (.iand, 1) := by decide +kernel
theorem dX11_writes_84 : decode cX11_writes 84 = .ok (.ifCond .ne 6, 3) := by decide +kernel
theorem dX11_writes_87 : decode cX11_writes 87 = .ok (.goto 28, 3) := by decide +kernel
theorem dX11_writes_90 : decode cX11_writes 90 = .ok (.aload_n 0, 1) := by decide +kernel
theorem dX11_writes_91 : decode cX11_writes 91 = .ok (.getfield 50, 3) := by decide +kernel
theorem dX11_writes_94 : decode cX11_writes 94 = .ok (.aload_n 0, 1) := by decide +kernel
theorem dX11_writes_95 : decode cX11_writes 95 = .ok (.getfield 149, 3) := by decide +kernel
theorem dX11_writes_98 : decode cX11_writes 98 = .ok (.iload 4, 2) := by decide +kernel
theorem dX11_writes_100 : decode cX11_writes 100 = .ok (.invokestatic 152, 3) := by decide +kernel
theorem dX11_writes_103 : decode cX11_writes 103 = .ok (.i2b, 1) := by decide +kernel
theorem dX11_writes_104 : decode cX11_writes 104 = .ok (.bastore, 1) := by decide +kernel
theorem dX11_writes_105 : decode cX11_writes 105 = .ok (.aload_n 0, 1) := by decide +kernel
theorem dX11_writes_106 : decode cX11_writes 106 = .ok (.aload_n 0, 1) := by decide +kernel
theorem dX11_writes_107 : decode cX11_writes 107 = .ok (.getfield 149, 3) := by decide +kernel
theorem dX11_writes_110 : decode cX11_writes 110 = .ok (.iconst 1, 1) := by decide +kernel
theorem dX11_writes_111 : decode cX11_writes 111 = .ok (.iadd, 1) := by decide +kernel
theorem dX11_writes_112 : decode cX11_writes 112 = .ok (.putfield 149, 3) := by decide +kernel
theorem dX11_writes_115 : decode cX11_writes 115 = .ok (.iinc 4 1, 3) := by decide +kernel
theorem dX11_writes_118 : decode cX11_writes 118 = .ok (.goto (-83), 3) := by decide +kernel
theorem dX11_writes_121 : decode cX11_writes 121 = .ok (.return_, 1) := by decide +kernel
set_option maxRecDepth 20000 in
theorem ggX11_isLetter_X11_isSmall : GoodIn wsX11_isLetter wsX11_isSmall := goodIn_r _ [4] (by decide +kernel) (by decide +kernel)
set_option maxRecDepth 20000 in
theorem gX11_isLetter_X11_isSmall : GoodIn wsX11_isLetter (va_wsS RX11 95 yX11_isSmall wsX11_isSmall) := goodIn_app (goodIn_of _ (by decide +kernel)) ggX11_isLetter_X11_isSmall
theorem dX11_isLetter_0 : decode cX11_isLetter 0 = .ok (.iload_n 0, 1) := by decide +kernel
theorem dX11_isLetter_1 : decode cX11_isLetter 1 = .ok (.invokestatic 95, 3) := by decide +kernel
theorem dX11_isLetter_4 : decode cX11_isLetter 4 = .ok (.ifCond .ne 15, 3) := by decide +kernel
theorem dX11_isLetter_7 : decode cX11_isLetter 7 = .ok (.iload_n 0, 1) := by decide +kernel
theorem dX11_isLetter_8 : decode cX11_isLetter 8 = .ok (.bipush 65, 2) := by decide +kernel
theorem dX11_isLetter_10 : decode cX11_isLetter 10 = .ok (.if_icmp .lt 13, 3) := by decide +kernel
theorem dX11_isLetter_13 : decode cX11_isLetter 13 = .ok (.iload_n 0, 1) := by decide +kernel
theorem dX11_isLetter_14 : decode cX11_isLetter 14 = .ok (.bipush 90, 2) := by decide +kernel
theorem dX11_isLetter_16 : decode cX11_isLetter 16 = .ok (.if_icmp .gt 7, 3) := by decide +kernel
theorem dX11_isLetter_19 : decode cX11_isLetter 19 = .ok (.iconst 1, 1) := by decide +kernel
theorem dX11_isLetter_20 : decode cX11_isLetter 20 = .ok (.goto 4, 3) := by decide +kernel
theorem dX11_isLetter_23 : decode cX11_isLetter 23 = .ok (.iconst 0, 1) := by decide +kernel
theorem dX11_isLetter_24 : decode cX11_isLetter 24 = .ok (.ireturn, 1) := by decide +kernel
theorem dX11_small_0 : decode cX11_small 0 = .ok (.iload_n 0, 1) := by decide +kernel
theorem dX11_small_1 : decode cX11_small 1 = .ok (.bipush 65, 2) := by decide +kernel
theorem dX11_small_3 : decode cX11_small 3 = .ok (.if_icmp .lt 16, 3) := by decide +kernel
theorem dX11_small_6 : decode cX11_small 6 = .ok (.iload_n 0, 1) := by decide +kernel
theorem dX11_small_7 : decode cX11_small 7 = .ok (.bipush 90, 2) := by decide +kernel
theorem dX11_small_9 : decode cX11_small 9 = .ok (.if_icmp .gt 10, 3) := by decide +kernel
theorem dX11_small_12 : decode cX11_small 12 = .ok (.iload_n 0, 1) := by decide +kernel
theorem dX11_small_13 : decode cX11_small 13 = .ok (.bipush 32, 2) := by decide +kernel
theorem dX11_small_15 : decode cX11_small 15 = .ok (.iadd, 1) := by decide +kernel
theorem dX11_small_16 : decode cX11_small 16 = .ok (.goto 4, 3) := by decide +kernel
theorem dX11_small_19 : decode cX11_small 19 = .ok (.iload_n 0, 1) := by decide +kernel
theorem dX11_small_20 : decode cX11_small 20 = .ok (.ireturn, 1) := by decide +kernel
theorem dX11_isVowel_0 : decode cX11_isVowel 0 = .ok (.iload_n 0, 1) := by decide +kernel
theorem dX11_isVowel_1 : decode cX11_isVowel 1 = .ok (.bipush 97, 2) := by decide +kernel
theorem dX11_isVowel_3 : decode cX11_isVowel 3 = .ok (.if_icmp .eq 27, 3) := by decide +kernel
theorem dX11_isVowel_6 : decode cX11_isVowel 6 = .ok (.iload_n 0, 1) := by decide +kernel
theorem dX11_isVowel_7 : decode cX11_isVowel 7 = .ok (.bipush 101, 2) := by decide +kernel
theorem dX11_isVowel_9 : decode cX11_isVowel 9 = .ok (.if_icmp .eq 21, 3) := by decide +kernel
theorem dX11_isVowel_12 : decode cX11_isVowel 12 = .ok (.iload_n 0, 1) := by decide +kernel
theorem dX11_isVowel_13 : decode cX11_isVowel 13 = .ok (.bipush 105, 2) := by decide +kernel
theorem dX11_isVowel_15 : decode cX11_isVowel 15 = .ok (.if_icmp .eq 15, 3) := by decide +kernel
theorem dX11_isVowel_18 : decode cX11_isVowel 18 = .ok (.iload_n 0, 1) := by decide +kernel
theorem dX11_isVowel_19 : decode cX11_isVowel 19 = .ok (.bipush 111, 2) := by decide +kernel
theorem dX11_isVowel_21 : decode cX11_isVowel 21 = .ok (.if_icmp .eq 9, 3) := by decide +kernel
theorem dX11_isVowel_24 : decode cX11_isVowel 24 = .ok (.iload_n 0, 1) := by decide +kernel
theorem dX11_isVowel_25 : decode cX11_isVowel 25 = .ok (.bipush 117, 2) := by decide +kernel
theorem dX11_isVowel_27 : decode cX11_isVowel 27 = .ok (.if_icmp .ne 7, 3) := by decide +kernel
theorem dX11_isVowel_30 : decode cX11_isVowel 30 = .ok (.iconst 1, 1) := by decide +kernel
theorem dX11_isVowel_31 : decode cX11_isVowel 31 = .ok (.goto 4, 3) := by decide +kernel
theorem dX11_isVowel_34 : decode cX11_isVowel 34 = .ok (.iconst 0, 1) := by decide +kernel
theorem dX11_isVowel_35 : decode cX11_isVowel 35 = .ok (.ireturn, 1) := by decide +kernel
set_option maxRecDepth 20000 in
theorem ggX11_last_X11_small : GoodIn wsX11_last wsX11_small := goodIn_r _ [7] (by decide +kernel) (by decide +kernel)
set_option maxRecDepth 20000 in
theorem gX11_last_X11_small : GoodIn wsX11_last (va_wsS RX11 159 yX11_small wsX11_small) := goodIn_app (goodIn_of _ (by decide +kernel)) ggX11_last_X11_small
theorem dX11_last_0 : decode cX11_last 0 = .ok (.iload_n 1, 1) := by decide +kernel
theorem dX11_last_1 : decode cX11_last 1 = .ok (.aload_n 0, 1) := by decide +kernel
theorem dX11_last_2 : decode cX11_last 2 = .ok (.getfield 156, 3) := by decide +kernel
theorem dX11_last_5 : decode cX11_last 5 = .ok (.if_icmp .ge 26, 3) := by decide +kernel
theorem dX11_last_8 : decode cX11_last 8 = .ok (.aload_n 0, 1) := by decide +kernel
theorem dX11_last_9 : decode cX11_last 9 = .ok (.getfield 41, 3) := by decide +kernel
theorem dX11_last_12 : decode cX11_last 12 = .ok (.aload_n 0, 1) := by decide +kernel
theorem dX11_last_13 : decode cX11_last 13 = .ok (.getfield 130, 3) := by decide +kernel
theorem dX11_last_16 : decode cX11_last 16 = .ok (.iconst 1, 1) := by decide +kernel
theorem dX11_last_17 : decode cX11_last 17 = .ok (.isub, 1) := by decide +kernel
theorem dX11_last_18 : decode cX11_last 18 = .ok (.iload_n 1, 1) := by decide +kernel
theorem dX11_last_19 : decode cX11_last 19 = .ok (.isub, 1) := by decide +kernel
theorem dX11_last_20 : decode cX11_last 20 = .ok (.baload, 1) := by decide +kernel
theorem dX11_last_21 : decode cX11_last 21 = .ok (.sipush 255, 3) := by decide +kernel
theorem dX11_last_24 : decode cX11_last 24 = .ok (.iand, 1) := by decide +kernel
theorem dX11_last_25 : decode cX11_last 25 = .ok (.invokestatic 159, 3) := by decide +kernel
theorem dX11_last_28 : decode cX11_last 28 = .ok (.goto 4, 3) := by decide +kernel
theorem dX11_last_31 : decode cX11_last 31 = .ok (.iconst 0, 1) := by decide +kernel
theorem dX11_last_32 : decode cX11_last 32 = .ok (.ireturn, 1) := by decide +kernel
set_option maxRecDepth 20000 in
theorem ggX11_ruleOf_X11_byteOf : GoodIn wsX11_ruleOf wsX11_byteOf := goodIn_r _ [7, 8, 21, 22, 23, 24, 25, 26, 27, 28, 29, 30, 31, 32, 33, 34, 35, 36, 37, 38, 39, 40, 41, 42, 43, 44, 45, 46, 47, 48, 49, 50, 51, 52, 53, 54, 55, 56, 57, 58, 59, 60, 61, 62, 63] (by decide +kernel) (by decide +kernel)
set_option maxRecDepth 20000 in
theorem gX11_ruleOf_X11_byteOf : GoodIn wsX11_ruleOf (wsV RX11 142 RX11 yX11_byteOf wsX11_byteOf) := goodIn_app (goodIn_of _ (by decide +kernel)) ggX11_ruleOf_X11_byteOf
set_option maxRecDepth 20000 in
theorem ggX11_ruleOf_X11_isVowel : GoodIn wsX11_ruleOf wsX11_isVowel := goodIn_r _ [11] (by decide +kernel) (by decide +kernel)
set_option maxRecDepth 20000 in
theorem gX11_ruleOf_X11_isVowel : GoodIn wsX11_ruleOf (va_wsS RX11 162 yX11_isVowel wsX11_isVowel) := goodIn_app (goodIn_of _ (by decide +kernel)) ggX11_ruleOf_X11_isVowel
set_option maxRecDepth 20000 in
theorem ggX11_ruleOf_X11_last : GoodIn wsX11_ruleOf wsX11_last := goodIn_r _ [15, 2, 16, 17, 18, 19, 6, 20, 21, 22, 23, 24, 25, 26, 27, 28, 29, 30, 31, 32, 33, 34, 35, 36, 37, 38, 39, 40, 41, 42, 43, 44, 45, 46, 47, 48, 49, 50, 51, 52, 53, 54, 55, 56, 57, 58, 59, 60, 61, 62, 63] (by decide +kernel) (by decide +kernel)
set_option maxRecDepth 20000 in
theorem gX11_ruleOf_X11_last : GoodIn wsX11_ruleOf (wsV RX11 165 RX11 yX11_last wsX11_last) := goodIn_app (goodIn_of _ (by decide +kernel)) ggX11_ruleOf_X11_last
theorem dX11_ruleOf_0 : decode cX11_ruleOf 0 = .ok (.aload_n 0, 1) := by decide +kernel
theorem dX11_ruleOf_1 : decode cX11_ruleOf 1 = .ok (.getfield 23, 3) := by decide +kernel
theorem dX11_ruleOf_4 : decode cX11_ruleOf 4 = .ok (.iload_n 1, 1) := by decide +kernel
theorem dX11_ruleOf_5 : decode cX11_ruleOf 5 = .ok (.iaload, 1) := by decide +kernel
theorem dX11_ruleOf_6 : decode cX11_ruleOf 6 = .ok (.iconst 1, 1) := by decide +kernel
theorem dX11_ruleOf_7 : decode cX11_ruleOf 7 = .ok (.if_icmp .ne 18, 3) := by decide +kernel
theorem dX11_ruleOf_10 : decode cX11_ruleOf 10 = .ok (.aload_n 0, 1) := by decide +kernel
theorem dX11_ruleOf_11 : decode cX11_ruleOf 11 = .ok (.iload_n 1, 1) := by decide +kernel
theorem dX11_ruleOf_12 : decode cX11_ruleOf 12 = .ok (.iconst 0, 1) := by decide +kernel
theorem dX11_ruleOf_13 : decode cX11_ruleOf 13 = .ok (.invokevirtual 142, 3) := by decide +kernel
theorem dX11_ruleOf_16 : decode cX11_ruleOf 16 = .ok (.bipush 115, 2) := by decide +kernel
theorem dX11_ruleOf_18 : decode cX11_ruleOf 18 = .ok (.if_icmp .ne 7, 3) := by decide +kernel
theorem dX11_ruleOf_21 : decode cX11_ruleOf 21 = .ok (.iconst 1, 1) := by decide +kernel
theorem dX11_ruleOf_22 : decode cX11_ruleOf 22 = .ok (.goto 4, 3) := by decide +kernel
theorem dX11_ruleOf_25 : decode cX11_ruleOf 25 = .ok (.iconst 0, 1) := by decide +kernel
theorem dX11_ruleOf_26 : decode cX11_ruleOf 26 = .ok (.istore_n 2, 1) := by decide +kernel
theorem dX11_ruleOf_27 : decode cX11_ruleOf 27 = .ok (.aload_n 0, 1) := by decide +kernel
theorem dX11_ruleOf_28 : decode cX11_ruleOf 28 = .ok (.iload_n 1, 1) := by decide +kernel
theorem dX11_ruleOf_29 : decode cX11_ruleOf 29 = .ok (.iconst 0, 1) := by decide +kernel
theorem dX11_ruleOf_30 : decode cX11_ruleOf 30 = .ok (.invokevirtual 142, 3) := by decide +kernel
theorem dX11_ruleOf_33 : decode cX11_ruleOf 33 = .ok (.invokestatic 162, 3) := by decide +kernel
theorem dX11_ruleOf_36 : decode cX11_ruleOf 36 = .ok (.istore_n 3, 1) := by decide +kernel
theorem dX11_ruleOf_37 : decode cX11_ruleOf 37 = .ok (.aload_n 0, 1) := by decide +kernel
theorem dX11_ruleOf_38 : decode cX11_ruleOf 38 = .ok (.iconst 0, 1) := by decide +kernel
theorem dX11_ruleOf_39 : decode cX11_ruleOf 39 = .ok (.invokevirtual 165, 3) := by decide +kernel
theorem dX11_ruleOf_42 : decode cX11_ruleOf 42 = .ok (.istore 4, 2) := by decide +kernel
theorem dX11_ruleOf_44 : decode cX11_ruleOf 44 = .ok (.aload_n 0, 1) := by decide +kernel
theorem dX11_ruleOf_45 : decode cX11_ruleOf 45 = .ok (.iconst 1, 1) := by decide +kernel
theorem dX11_ruleOf_46 : decode cX11_ruleOf 46 = .ok (.invokevirtual 165, 3) := by decide +kernel
theorem dX11_ruleOf_49 : decode cX11_ruleOf 49 = .ok (.istore 5, 2) := by decide +kernel
theorem dX11_ruleOf_51 : decode cX11_ruleOf 51 = .ok (.aload_n 0, 1) := by decide +kernel
theorem dX11_ruleOf_52 : decode cX11_ruleOf 52 = .ok (.getfield 156, 3) := by decide +kernel
theorem dX11_ruleOf_55 : decode cX11_ruleOf 55 = .ok (.iconst 2, 1) := by decide +kernel
theorem dX11_ruleOf_56 : decode cX11_ruleOf 56 = .ok (.if_icmp .lt 31, 3) := by decide +kernel
theorem dX11_ruleOf_59 : decode cX11_ruleOf 59 = .ok (.iload 4, 2) := by decide +kernel
theorem dX11_ruleOf_61 : decode cX11_ruleOf 61 = .ok (.bipush 121, 2) := by decide +kernel
theorem dX11_ruleOf_63 : decode cX11_ruleOf 63 = .ok (.if_icmp .ne 24, 3) := by decide +kernel
theorem dX11_ruleOf_66 : decode cX11_ruleOf 66 = .ok (.iload 5, 2) := by decide +kernel
theorem dX11_ruleOf_68 : decode cX11_ruleOf 68 = .ok (.invokestatic 162, 3) := by decide +kernel
theorem dX11_ruleOf_71 : decode cX11_ruleOf 71 = .ok (.ifCond .ne 16, 3) := by decide +kernel
theorem dX11_ruleOf_74 : decode cX11_ruleOf 74 = .ok (.aload_n 0, 1) := by decide +kernel
theorem dX11_ruleOf_75 : decode cX11_ruleOf 75 = .ok (.iload_n 1, 1) := by decide +kernel
theorem dX11_ruleOf_76 : decode cX11_ruleOf 76 = .ok (.iconst 0, 1) := by decide +kernel
theorem dX11_ruleOf_77 : decode cX11_ruleOf 77 = .ok (.invokevirtual 142, 3) := by decide +kernel
theorem dX11_ruleOf_80 : decode cX11_ruleOf 80 = .ok (.bipush 105, 2) := by decide +kernel
theorem dX11_ruleOf_82 : decode cX11_ruleOf 82 = .ok (.if_icmp .eq 5, 3) := by decide +kernel
theorem dX11_ruleOf_85 : decode cX11_ruleOf 85 = .ok (.iconst 1, 1) := by decide +kernel
theorem dX11_ruleOf_86 : decode cX11_ruleOf 86 = .ok (.ireturn, 1) := by decide +kernel
theorem dX11_ruleOf_87 : decode cX11_ruleOf 87 = .ok (.iload 4, 2) := by decide +kernel
theorem dX11_ruleOf_89 : decode cX11_ruleOf 89 = .ok (.bipush 115, 2) := by decide +kernel
theorem dX11_ruleOf_91 : decode cX11_ruleOf 91 = .ok (.if_icmp .eq 38, 3) := by decide +kernel
theorem dX11_ruleOf_94 : decode cX11_ruleOf 94 = .ok (.iload 4, 2) := by decide +kernel
theorem dX11_ruleOf_96 : decode cX11_ruleOf 96 = .ok (.bipush 120, 2) := by decide +kernel
theorem dX11_ruleOf_98 : decode cX11_ruleOf 98 = .ok (.if_icmp .eq 31, 3) := by decide +kernel
theorem dX11_ruleOf_101 : decode cX11_ruleOf 101 = .ok (.iload 4, 2) := by decide +kernel
theorem dX11_ruleOf_103 : decode cX11_ruleOf 103 = .ok (.bipush 122, 2) := by decide +kernel
theorem dX11_ruleOf_105 : decode cX11_ruleOf 105 = .ok (.if_icmp .eq 24, 3) := by decide +kernel
theorem dX11_ruleOf_108 : decode cX11_ruleOf 108 = .ok (.iload 4, 2) := by decide +kernel
theorem dX11_ruleOf_110 : decode cX11_ruleOf 110 = .ok (.bipush 104, 2) := by decide +kernel
theorem dX11_ruleOf_112 : decode cX11_ruleOf 112 = .ok (.if_icmp .ne 21, 3) := by decide +kernel
theorem dX11_ruleOf_115 : decode cX11_ruleOf 115 = .ok (.iload 5, 2) := by decide +kernel
theorem dX11_ruleOf_117 : decode cX11_ruleOf 117 = .ok (.bipush 99, 2) := by decide +kernel
theorem dX11_ruleOf_119 : decode cX11_ruleOf 119 = .ok (.if_icmp .eq 10, 3) := by decide +kernel
theorem dX11_ruleOf_122 : decode cX11_ruleOf 122 = .ok (.iload 5, 2) := by decide +kernel
theorem dX11_ruleOf_124 : decode cX11_ruleOf 124 = .ok (.bipush 115, 2) := by decide +kernel
theorem dX11_ruleOf_126 : decode cX11_ruleOf 126 = .ok (.if_icmp .ne 7, 3) := by decide +kernel
theorem dX11_ruleOf_129 : decode cX11_ruleOf 129 = .ok (.iconst 1, 1) := by decide +kernel
theorem dX11_ruleOf_130 : decode cX11_ruleOf 130 = .ok (.goto 4, 3) := by decide +kernel
theorem dX11_ruleOf_133 : decode cX11_ruleOf 133 = .ok (.iconst 0, 1) := by decide +kernel
theorem dX11_ruleOf_134 : decode cX11_ruleOf 134 = .ok (.istore 6, 2) := by decide +kernel
theorem dX11_ruleOf_136 : decode cX11_ruleOf 136 = .ok (.iload_n 2, 1) := by decide +kernel
theorem dX11_ruleOf_137 : decode cX11_ruleOf 137 = .ok (.ifCond .eq 10, 3) := by decide +kernel
theorem dX11_ruleOf_140 : decode cX11_ruleOf 140 = .ok (.iload 6, 2) := by decide +kernel
theorem dX11_ruleOf_142 : decode cX11_ruleOf 142 = .ok (.ifCond .eq 5, 3) := by decide +kernel
theorem dX11_ruleOf_145 : decode cX11_ruleOf 145 = .ok (.iconst 2, 1) := by decide +kernel
theorem dX11_ruleOf_146 : decode cX11_ruleOf 146 = .ok (.ireturn, 1) := by decide +kernel
theorem dX11_ruleOf_147 : decode cX11_ruleOf 147 = .ok (.iload 4, 2) := by decide +kernel
theorem dX11_ruleOf_149 : decode cX11_ruleOf 149 = .ok (.bipush 101, 2) := by decide +kernel
theorem dX11_ruleOf_151 : decode cX11_ruleOf 151 = .ok (.if_icmp .ne 38, 3) := by decide +kernel
theorem dX11_ruleOf_154 : decode cX11_ruleOf 154 = .ok (.aload_n 0, 1) := by decide +kernel
theorem dX11_ruleOf_155 : decode cX11_ruleOf 155 = .ok (.getfield 156, 3) := by decide +kernel
theorem dX11_ruleOf_158 : decode cX11_ruleOf 158 = .ok (.iconst 2, 1) := by decide +kernel
theorem dX11_ruleOf_159 : decode cX11_ruleOf 159 = .ok (.if_icmp .lt 30, 3) := by decide +kernel
theorem dX11_ruleOf_162 : decode cX11_ruleOf 162 = .ok (.iload 5, 2) := by decide +kernel
theorem dX11_ruleOf_164 : decode cX11_ruleOf 164 = .ok (.bipush 101, 2) := by decide +kernel
theorem dX11_ruleOf_166 : decode cX11_ruleOf 166 = .ok (.if_icmp .eq 23, 3) := by decide +kernel
theorem dX11_ruleOf_169 : decode cX11_ruleOf 169 = .ok (.iload 5, 2) := by decide +kernel
theorem dX11_ruleOf_171 : decode cX11_ruleOf 171 = .ok (.bipush 111, 2) := by decide +kernel
theorem dX11_ruleOf_173 : decode cX11_ruleOf 173 = .ok (.if_icmp .eq 16, 3) := by decide +kernel
theorem dX11_ruleOf_176 : decode cX11_ruleOf 176 = .ok (.iload 5, 2) := by decide +kernel
theorem dX11_ruleOf_178 : decode cX11_ruleOf 178 = .ok (.bipush 121, 2) := by decide +kernel
theorem dX11_ruleOf_180 : decode cX11_ruleOf 180 = .ok (.if_icmp .eq 9, 3) := by decide +kernel
theorem dX11_ruleOf_183 : decode cX11_ruleOf 183 = .ok (.iload_n 3, 1) := by decide +kernel
theorem dX11_ruleOf_184 : decode cX11_ruleOf 184 = .ok (.ifCond .eq 5, 3) := by decide +kernel
theorem dX11_ruleOf_187 : decode cX11_ruleOf 187 = .ok (.iconst 3, 1) := by decide +kernel
theorem dX11_ruleOf_188 : decode cX11_ruleOf 188 = .ok (.ireturn, 1) := by decide +kernel
theorem dX11_ruleOf_189 : decode cX11_ruleOf 189 = .ok (.aload_n 0, 1) := by decide +kernel
theorem dX11_ruleOf_190 : decode cX11_ruleOf 190 = .ok (.getfield 156, 3) := by decide +kernel
theorem dX11_ruleOf_193 : decode cX11_ruleOf 193 = .ok (.iconst 3, 1) := by decide +kernel
theorem dX11_ruleOf_194 : decode cX11_ruleOf 194 = .ok (.if_icmp .lt 55, 3) := by decide +kernel
theorem dX11_ruleOf_197 : decode cX11_ruleOf 197 = .ok (.iload 4, 2) := by decide +kernel
theorem dX11_ruleOf_199 : decode cX11_ruleOf 199 = .ok (.invokestatic 162, 3) := by decide +kernel
theorem dX11_ruleOf_202 : decode cX11_ruleOf 202 = .ok (.ifCond .ne 47, 3) := by decide +kernel
theorem dX11_ruleOf_205 : decode cX11_ruleOf 205 = .ok (.iload 4, 2) := by decide +kernel
theorem dX11_ruleOf_207 : decode cX11_ruleOf 207 = .ok (.bipush 119, 2) := by decide +kernel
theorem dX11_ruleOf_209 : decode cX11_ruleOf 209 = .ok (.if_icmp .eq 40, 3) := by decide +kernel
theorem dX11_ruleOf_212 : decode cX11_ruleOf 212 = .ok (.iload 4, 2) := by decide +kernel
theorem dX11_ruleOf_214 : decode cX11_ruleOf 214 = .ok (.bipush 120, 2) := by decide +kernel
theorem dX11_ruleOf_216 : decode cX11_ruleOf 216 = .ok (.if_icmp .eq 33, 3) := by decide +kernel
theorem dX11_ruleOf_219 : decode cX11_ruleOf 219 = .ok (.iload 4, 2) := by decide +kernel
theorem dX11_ruleOf_221 : decode cX11_ruleOf 221 = .ok (.bipush 121, 2) := by decide +kernel
theorem dX11_ruleOf_223 : decode cX11_ruleOf 223 = .ok (.if_icmp .eq 26, 3) := by decide +kernel
theorem dX11_ruleOf_226 : decode cX11_ruleOf 226 = .ok (.iload 5, 2) := by decide +kernel
theorem dX11_ruleOf_228 : decode cX11_ruleOf 228 = .ok (.invokestatic 162, 3) := by decide +kernel
theorem dX11_ruleOf_231 : decode cX11_ruleOf 231 = .ok (.ifCond .eq 18, 3) := by decide +kernel
theorem dX11_ruleOf_234 : decode cX11_ruleOf 234 = .ok (.aload_n 0, 1) := by decide +kernel
theorem dX11_ruleOf_235 : decode cX11_ruleOf 235 = .ok (.iconst 2, 1) := by decide +kernel
theorem dX11_ruleOf_236 : decode cX11_ruleOf 236 = .ok (.invokevirtual 165, 3) := by decide +kernel
theorem dX11_ruleOf_239 : decode cX11_ruleOf 239 = .ok (.invokestatic 162, 3) := by decide +kernel
theorem dX11_ruleOf_242 : decode cX11_ruleOf 242 = .ok (.ifCond .ne 7, 3) := by decide +kernel
theorem dX11_ruleOf_245 : decode cX11_ruleOf 245 = .ok (.iconst 1, 1) := by decide +kernel
theorem dX11_ruleOf_246 : decode cX11_ruleOf 246 = .ok (.goto 4, 3) := by decide +kernel
theorem dX11_ruleOf_249 : decode cX11_ruleOf 249 = .ok (.iconst 0, 1) := by decide +kernel
theorem dX11_ruleOf_250 : decode cX11_ruleOf 250 = .ok (.istore 7, 2) := by decide +kernel
theorem dX11_ruleOf_252 : decode cX11_ruleOf 252 = .ok (.iconst 3, 1) := by decide +kernel
theorem dX11_ruleOf_253 : decode cX11_ruleOf 253 = .ok (.istore 8, 2) := by decide +kernel
theorem dX11_ruleOf_255 : decode cX11_ruleOf 255 = .ok (.iload 8, 2) := by decide +kernel
theorem dX11_ruleOf_257 : decode cX11_ruleOf 257 = .ok (.aload_n 0, 1) := by decide +kernel
theorem dX11_ruleOf_258 : decode cX11_ruleOf 258 = .ok (.getfield 156, 3) := by decide +kernel
theorem dX11_ruleOf_261 : decode cX11_ruleOf 261 = .ok (.if_icmp .ge 33, 3) := by decide +kernel
theorem dX11_ruleOf_264 : decode cX11_ruleOf 264 = .ok (.iload 7, 2) := by decide +kernel
theorem dX11_ruleOf_266 : decode cX11_ruleOf 266 = .ok (.ifCond .eq 19, 3) := by decide +kernel
theorem dX11_ruleOf_269 : decode cX11_ruleOf 269 = .ok (.aload_n 0, 1) := by decide +kernel
theorem dX11_ruleOf_270 : decode cX11_ruleOf 270 = .ok (.iload 8, 2) := by decide +kernel
theorem dX11_ruleOf_272 : decode cX11_ruleOf 272 = .ok (.invokevirtual 165, 3) := by decide +kernel
theorem dX11_ruleOf_275 : decode cX11_ruleOf 275 = .ok (.invokestatic 162, 3) := by decide +kernel
theorem dX11_ruleOf_278 : decode cX11_ruleOf 278 = .ok (.ifCond .ne 7, 3) := by decide +kernel
theorem dX11_ruleOf_281 : decode cX11_ruleOf 281 = .ok (.iconst 1, 1) := by decide +kernel
theorem dX11_ruleOf_282 : decode cX11_ruleOf 282 = .ok (.goto 4, 3) := by decide +kernel
theorem dX11_ruleOf_285 : decode cX11_ruleOf 285 = .ok (.iconst 0, 1) := by decide +kernel
theorem dX11_ruleOf_286 : decode cX11_ruleOf 286 = .ok (.istore 7, 2) := by decide +kernel
theorem dX11_ruleOf_288 : decode cX11_ruleOf 288 = .ok (.iinc 8 1, 3) := by decide +kernel
theorem dX11_ruleOf_291 : decode cX11_ruleOf 291 = .ok (.goto (-36), 3) := by decide +kernel
theorem dX11_ruleOf_294 : decode cX11_ruleOf 294 = .ok (.iload_n 3, 1) := by decide +kernel
theorem dX11_ruleOf_295 : decode cX11_ruleOf 295 = .ok (.ifCond .eq 12, 3) := by decide +kernel
theorem dX11_ruleOf_298 : decode cX11_ruleOf 298 = .ok (.iload 7, 2) := by decide +kernel
theorem dX11_ruleOf_300 : decode cX11_ruleOf 300 = .ok (.ifCond .eq 7, 3) := by decide +kernel
theorem dX11_ruleOf_303 : decode cX11_ruleOf 303 = .ok (.iconst 4, 1) := by decide +kernel
theorem dX11_ruleOf_304 : decode cX11_ruleOf 304 = .ok (.goto 4, 3) := by decide +kernel
theorem dX11_ruleOf_307 : decode cX11_ruleOf 307 = .ok (.iconst 5, 1) := by decide +kernel
theorem dX11_ruleOf_308 : decode cX11_ruleOf 308 = .ok (.ireturn, 1) := by decide +kernel
set_option maxRecDepth 20000 in
theorem ggX11_suffix_X11_isLetter : GoodIn wsX11_suffix wsX11_isLetter := goodIn_r _ [8, 9, 10, 7, 11] (by decide +kernel) (by decide +kernel)
set_option maxRecDepth 20000 in
theorem gX11_suffix_X11_isLetter : GoodIn wsX11_suffix (va_wsS RX11 168 yX11_isLetter wsX11_isLetter) := goodIn_app (goodIn_of _ (by decide +kernel)) ggX11_suffix_X11_isLetter
set_option maxRecDepth 20000 in
theorem ggX11_suffix_X11_word : GoodIn wsX11_suffix wsX11_word := goodIn_r _ [15, 4, 16, 17, 18, 19, 20, 7, 21, 2, 22, 23, 24, 25, 3, 26, 27, 28, 29, 30, 49, 50, 51, 52, 53, 54, 55, 56, 57, 58, 59, 60, 61, 62, 63, 64, 65, 66, 67, 68, 69, 70, 71, 72, 73, 74, 75, 76, 77, 78, 79, 80, 81, 82, 83, 84, 85, 86, 87, 88, 89, 90, 91] (by decide +kernel) (by decide +kernel)
set_option maxRecDepth 20000 in
theorem gX11_suffix_X11_word : GoodIn wsX11_suffix (wsV RX11 171 RX11 yX11_word wsX11_word) := goodIn_app (goodIn_of _ (by decide +kernel)) ggX11_suffix_X11_word
set_option maxRecDepth 20000 in
theorem ggX11_suffix_X11_joins : GoodIn wsX11_suffix wsX11_joins := goodIn_r _ [34, 16, 3, 2, 35, 36, 37, 7, 38, 1, 26, 27, 28, 29, 30, 39, 40, 41, 42, 43, 44, 45, 46, 47, 48, 22, 23, 24, 25, 49, 50, 51, 52, 53, 54, 55, 56, 57, 58, 59, 60, 61, 62, 63, 64, 65, 66, 67, 68, 69, 70, 71, 72, 73, 74, 75, 76, 77, 78, 79, 80, 81, 82, 83, 84, 85, 86, 87, 88, 89, 90, 91] (by decide +kernel) (by decide +kernel)
set_option maxRecDepth 20000 in
theorem gX11_suffix_X11_joins : GoodIn wsX11_suffix (wsV RX11 175 RX11 yX11_joins wsX11_joins) := goodIn_app (goodIn_of _ (by decide +kernel)) ggX11_suffix_X11_joins
theorem dX11_suffix_0 : decode cX11_suffix 0 = .ok (.aload_n 0, 1) := by decide +kernel
theorem dX11_suffix_1 : decode cX11_suffix 1 = .ok (.iconst 0, 1) := by decide +kernel
theorem dX11_suffix_2 : decode cX11_suffix 2 = .ok (.putfield 156, 3) := by decide +kernel
theorem dX11_suffix_5 : decode cX11_suffix 5 = .ok (.aload_n 0, 1) := by decide +kernel
theorem dX11_suffix_6 : decode cX11_suffix 6 = .ok (.getfield 156, 3) := by decide +kernel
theorem dX11_suffix_9 : decode cX11_suffix 9 = .ok (.aload_n 0, 1) := by decide +kernel
theorem dX11_suffix_10 : decode cX11_suffix 10 = .ok (.getfield 130, 3) := by decide +kernel
theorem dX11_suffix_13 : decode cX11_suffix 13 = .ok (.if_icmp .ge 42, 3) := by decide +kernel
theorem dX11_suffix_16 : decode cX11_suffix 16 = .ok (.aload_n 0, 1) := by decide +kernel
theorem dX11_suffix_17 : decode cX11_suffix 17 = .ok (.getfield 41, 3) := by decide +kernel
theorem dX11_suffix_20 : decode cX11_suffix 20 = .ok (.aload_n 0, 1) := by decide +kernel
theorem dX11_suffix_21 : decode cX11_suffix 21 = .ok (.getfield 130, 3) := by decide +kernel
theorem dX11_suffix_24 : decode cX11_suffix 24 = .ok (.iconst 1, 1) := by decide +kernel
theorem dX11_suffix_25 : decode cX11_suffix 25 = .ok (.isub, 1) := by decide +kernel
theorem dX11_suffix_26 : decode cX11_suffix 26 = .ok (.aload_n 0, 1) := by decide +kernel
theorem dX11_suffix_27 : decode cX11_suffix 27 = .ok (.getfield 156, 3) := by decide +kernel
theorem dX11_suffix_30 : decode cX11_suffix 30 = .ok (.isub, 1) := by decide +kernel
theorem dX11_suffix_31 : decode cX11_suffix 31 = .ok (.baload, 1) := by decide +kernel
theorem dX11_suffix_32 : decode cX11_suffix 32 = .ok (.sipush 255, 3) := by decide +kernel
theorem dX11_suffix_35 : decode cX11_suffix 35 = .ok (.iand, 1) := by decide +kernel
theorem dX11_suffix_36 : decode cX11_suffix 36 = .ok (.invokestatic 168, 3) := by decide +kernel
theorem dX11_suffix_39 : decode cX11_suffix 39 = .ok (.ifCond .eq 16, 3) := by decide +kernel
theorem dX11_suffix_42 : decode cX11_suffix 42 = .ok (.aload_n 0, 1) := by decide +kernel
theorem dX11_suffix_43 : decode cX11_suffix 43 = .ok (.aload_n 0, 1) := by decide +kernel
theorem dX11_suffix_44 : decode cX11_suffix 44 = .ok (.getfield 156, 3) := by decide +kernel
theorem dX11_suffix_47 : decode cX11_suffix 47 = .ok (.iconst 1, 1) := by decide +kernel
theorem dX11_suffix_48 : decode cX11_suffix 48 = .ok (.iadd, 1) := by decide +kernel
theorem dX11_suffix_49 : decode cX11_suffix 49 = .ok (.putfield 156, 3) := by decide +kernel
theorem dX11_suffix_52 : decode cX11_suffix 52 = .ok (.goto (-47), 3) := by decide +kernel
theorem dX11_suffix_55 : decode cX11_suffix 55 = .ok (.aload_n 0, 1) := by decide +kernel
theorem dX11_suffix_56 : decode cX11_suffix 56 = .ok (.getfield 156, 3) := by decide +kernel
theorem dX11_suffix_59 : decode cX11_suffix 59 = .ok (.ifCond .ne 10, 3) := by decide +kernel
theorem dX11_suffix_62 : decode cX11_suffix 62 = .ok (.aload_n 0, 1) := by decide +kernel
theorem dX11_suffix_63 : decode cX11_suffix 63 = .ok (.iload_n 1, 1) := by decide +kernel
theorem dX11_suffix_64 : decode cX11_suffix 64 = .ok (.iconst 1, 1) := by decide +kernel
theorem dX11_suffix_65 : decode cX11_suffix 65 = .ok (.invokevirtual 171, 3) := by decide +kernel
theorem dX11_suffix_68 : decode cX11_suffix 68 = .ok (.return_, 1) := by decide +kernel
theorem dX11_suffix_69 : decode cX11_suffix 69 = .ok (.aload_n 0, 1) := by decide +kernel
theorem dX11_suffix_70 : decode cX11_suffix 70 = .ok (.iload_n 1, 1) := by decide +kernel
theorem dX11_suffix_71 : decode cX11_suffix 71 = .ok (.invokevirtual 175, 3) := by decide +kernel
theorem dX11_suffix_74 : decode cX11_suffix 74 = .ok (.aload_n 0, 1) := by decide +kernel
theorem dX11_suffix_75 : decode cX11_suffix 75 = .ok (.iconst 0, 1) := by decide +kernel
theorem dX11_suffix_76 : decode cX11_suffix 76 = .ok (.putfield 133, 3) := by decide +kernel
theorem dX11_suffix_79 : decode cX11_suffix 79 = .ok (.return_, 1) := by decide +kernel
set_option maxRecDepth 20000 in
theorem ggX11_joins_X11_ruleOf : GoodIn wsX11_joins wsX11_ruleOf := goodIn_r _ [8, 1, 9, 10, 11, 12, 7, 13, 14, 15, 16, 17, 18, 19, 20, 21, 2, 3, 22, 23, 24, 29, 30, 31, 32, 33, 34, 35, 36, 37, 38, 39, 40, 41, 42, 43, 44, 45, 46, 47, 48, 49, 50, 51, 52, 53, 54, 55, 56, 57, 58, 59, 60, 61, 62, 63, 64, 65, 66, 67, 68, 69, 70, 71] (by decide +kernel) (by decide +kernel)
set_option maxRecDepth 20000 in
theorem gX11_joins_X11_ruleOf : GoodIn wsX11_joins (wsV RX11 178 RX11 yX11_ruleOf wsX11_ruleOf) := goodIn_app (goodIn_of _ (by decide +kernel)) ggX11_joins_X11_ruleOf
set_option maxRecDepth 20000 in
theorem ggX11_joins_X11_byteOf : GoodIn wsX11_joins wsX11_byteOf := goodIn_r _ [13, 14, 29, 30, 31, 32, 33, 34, 35, 36, 37, 38, 39, 40, 41, 42, 43, 44, 45, 46, 47, 48, 49, 50, 51, 52, 53, 54, 55, 56, 57, 58, 59, 60, 61, 62, 63, 64, 65, 66, 67, 68, 69, 70, 71] (by decide +kernel) (by decide +kernel)
set_option maxRecDepth 20000 in
theorem gX11_joins_X11_byteOf : GoodIn wsX11_joins (wsV RX11 142 RX11 yX11_byteOf wsX11_byteOf) := goodIn_app (goodIn_of _ (by decide +kernel)) ggX11_joins_X11_byteOf
set_option maxRecDepth 20000 in
theorem ggX11_joins_X11_last : GoodIn wsX11_joins wsX11_last := goodIn_r _ [21, 9, 2, 3, 22, 23, 7, 24, 29, 30, 31, 32, 33, 34, 35, 36, 37, 38, 39, 40, 41, 42, 43, 44, 45, 46, 47, 48, 49, 50, 51, 52, 53, 54, 55, 56, 57, 58, 59, 60, 61, 62, 63, 64, 65, 66, 67, 68, 69, 70, 71] (by decide +kernel) (by decide +kernel)
set_option maxRecDepth 20000 in
theorem gX11_joins_X11_last : GoodIn wsX11_joins (wsV RX11 165 RX11 yX11_last wsX11_last) := goodIn_app (goodIn_of _ (by decide +kernel)) ggX11_joins_X11_last
set_option maxRecDepth 20000 in
theorem ggX11_joins_X11_puts : GoodIn wsX11_joins wsX11_puts := goodIn_r _ [28, 2, 3, 29, 30, 31, 32, 33, 34, 35, 36, 37, 38, 39, 40, 41, 42, 43, 44, 45, 46, 47, 48, 49, 50, 51, 52, 53, 54, 55, 56, 57, 58, 59, 60, 61, 62, 63, 64, 65, 66, 67, 68, 69, 70, 71] (by decide +kernel) (by decide +kernel)
set_option maxRecDepth 20000 in
theorem gX11_joins_X11_puts : GoodIn wsX11_joins (wsV RX11 136 RX11 yX11_puts wsX11_puts) := goodIn_app (goodIn_of _ (by decide +kernel)) ggX11_joins_X11_puts
theorem dX11_joins_0 : decode cX11_joins 0 = .ok (.aload_n 0, 1) := by decide +kernel
theorem dX11_joins_1 : decode cX11_joins 1 = .ok (.iload_n 1, 1) := by decide +kernel
theorem dX11_joins_2 : decode cX11_joins 2 = .ok (.invokevirtual 178, 3) := by decide +kernel
theorem dX11_joins_5 : decode cX11_joins 5 = .ok (.istore_n 2, 1) := by decide +kernel
theorem dX11_joins_6 : decode cX11_joins 6 = .ok (.aload_n 0, 1) := by decide +kernel
theorem dX11_joins_7 : decode cX11_joins 7 = .ok (.getfield 23, 3) := by decide +kernel
theorem dX11_joins_10 : decode cX11_joins 10 = .ok (.iload_n 1, 1) := by decide +kernel
theorem dX11_joins_11 : decode cX11_joins 11 = .ok (.iaload, 1) := by decide +kernel
theorem dX11_joins_12 : decode cX11_joins 12 = .ok (.iconst 1, 1) := by decide +kernel
theorem dX11_joins_13 : decode cX11_joins 13 = .ok (.if_icmp .ne 18, 3) := by decide +kernel
theorem dX11_joins_16 : decode cX11_joins 16 = .ok (.aload_n 0, 1) := by decide +kernel
theorem dX11_joins_17 : decode cX11_joins 17 = .ok (.iload_n 1, 1) := by decide +kernel
theorem dX11_joins_18 : decode cX11_joins 18 = .ok (.iconst 0, 1) := by decide +kernel
theorem dX11_joins_19 : decode cX11_joins 19 = .ok (.invokevirtual 142, 3) := by decide +kernel
theorem dX11_joins_22 : decode cX11_joins 22 = .ok (.bipush 115, 2) := by decide +kernel
theorem dX11_joins_24 : decode cX11_joins 24 = .ok (.if_icmp .ne 7, 3) := by decide +kernel
theorem dX11_joins_27 : decode cX11_joins 27 = .ok (.iconst 1, 1) := by decide +kernel
theorem dX11_joins_28 : decode cX11_joins 28 = .ok (.goto 4, 3) := by decide +kernel
theorem dX11_joins_31 : decode cX11_joins 31 = .ok (.iconst 0, 1) := by decide +kernel
theorem dX11_joins_32 : decode cX11_joins 32 = .ok (.istore_n 3, 1) := by decide +kernel
theorem dX11_joins_33 : decode cX11_joins 33 = .ok (.aload_n 0, 1) := by decide +kernel
theorem dX11_joins_34 : decode cX11_joins 34 = .ok (.iconst 0, 1) := by decide +kernel
theorem dX11_joins_35 : decode cX11_joins 35 = .ok (.invokevirtual 165, 3) := by decide +kernel
theorem dX11_joins_38 : decode cX11_joins 38 = .ok (.istore 4, 2) := by decide +kernel
theorem dX11_joins_40 : decode cX11_joins 40 = .ok (.iload_n 2, 1) := by decide +kernel
theorem dX11_joins_41 : decode cX11_joins 41 = .ok (.iconst 1, 1) := by decide +kernel
theorem dX11_joins_42 : decode cX11_joins 42 = .ok (.if_icmp .ne 29, 3) := by decide +kernel
theorem dX11_joins_45 : decode cX11_joins 45 = .ok (.aload_n 0, 1) := by decide +kernel
theorem dX11_joins_46 : decode cX11_joins 46 = .ok (.getfield 41, 3) := by decide +kernel
theorem dX11_joins_49 : decode cX11_joins 49 = .ok (.aload_n 0, 1) := by decide +kernel
theorem dX11_joins_50 : decode cX11_joins 50 = .ok (.getfield 130, 3) := by decide +kernel
theorem dX11_joins_53 : decode cX11_joins 53 = .ok (.iconst 1, 1) := by decide +kernel
theorem dX11_joins_54 : decode cX11_joins 54 = .ok (.isub, 1) := by decide +kernel
theorem dX11_joins_55 : decode cX11_joins 55 = .ok (.bipush 105, 2) := by decide +kernel
theorem dX11_joins_57 : decode cX11_joins 57 = .ok (.bastore, 1) := by decide +kernel
theorem dX11_joins_58 : decode cX11_joins 58 = .ok (.iload_n 3, 1) := by decide +kernel
theorem dX11_joins_59 : decode cX11_joins 59 = .ok (.ifCond .eq 55, 3) := by decide +kernel
theorem dX11_joins_62 : decode cX11_joins 62 = .ok (.aload_n 0, 1) := by decide +kernel
theorem dX11_joins_63 : decode cX11_joins 63 = .ok (.bipush 101, 2) := by decide +kernel
theorem dX11_joins_65 : decode cX11_joins 65 = .ok (.invokevirtual 136, 3) := by decide +kernel
theorem dX11_joins_68 : decode cX11_joins 68 = .ok (.goto 46, 3) := by decide +kernel
theorem dX11_joins_71 : decode cX11_joins 71 = .ok (.iload_n 2, 1) := by decide +kernel
theorem dX11_joins_72 : decode cX11_joins 72 = .ok (.iconst 2, 1) := by decide +kernel
theorem dX11_joins_73 : decode cX11_joins 73 = .ok (.if_icmp .ne 12, 3) := by decide +kernel
theorem dX11_joins_76 : decode cX11_joins 76 = .ok (.aload_n 0, 1) := by decide +kernel
theorem dX11_joins_77 : decode cX11_joins 77 = .ok (.bipush 101, 2) := by decide +kernel
theorem dX11_joins_79 : decode cX11_joins 79 = .ok (.invokevirtual 136, 3) := by decide +kernel
theorem dX11_joins_82 : decode cX11_joins 82 = .ok (.goto 32, 3) := by decide +kernel
theorem dX11_joins_85 : decode cX11_joins 85 = .ok (.iload_n 2, 1) := by decide +kernel
theorem dX11_joins_86 : decode cX11_joins 86 = .ok (.iconst 3, 1) := by decide +kernel
theorem dX11_joins_87 : decode cX11_joins 87 = .ok (.if_icmp .ne 16, 3) := by decide +kernel
theorem dX11_joins_90 : decode cX11_joins 90 = .ok (.aload_n 0, 1) := by decide +kernel
theorem dX11_joins_91 : decode cX11_joins 91 = .ok (.aload_n 0, 1) := by decide +kernel
theorem dX11_joins_92 : decode cX11_joins 92 = .ok (.getfield 130, 3) := by decide +kernel
theorem dX11_joins_95 : decode cX11_joins 95 = .ok (.iconst 1, 1) := by decide +kernel
theorem dX11_joins_96 : decode cX11_joins 96 = .ok (.isub, 1) := by decide +kernel
theorem dX11_joins_97 : decode cX11_joins 97 = .ok (.putfield 130, 3) := by decide +kernel
theorem dX11_joins_100 : decode cX11_joins 100 = .ok (.goto 14, 3) := by decide +kernel
theorem dX11_joins_103 : decode cX11_joins 103 = .ok (.iload_n 2, 1) := by decide +kernel
theorem dX11_joins_104 : decode cX11_joins 104 = .ok (.iconst 4, 1) := by decide +kernel
theorem dX11_joins_105 : decode cX11_joins 105 = .ok (.if_icmp .ne 9, 3) := by decide +kernel
theorem dX11_joins_108 : decode cX11_joins 108 = .ok (.aload_n 0, 1) := by decide +kernel
theorem dX11_joins_109 : decode cX11_joins 109 = .ok (.iload 4, 2) := by decide +kernel
theorem dX11_joins_111 : decode cX11_joins 111 = .ok (.invokevirtual 136, 3) := by decide +kernel
theorem dX11_joins_114 : decode cX11_joins 114 = .ok (.iconst 0, 1) := by decide +kernel
theorem dX11_joins_115 : decode cX11_joins 115 = .ok (.istore 5, 2) := by decide +kernel
theorem dX11_joins_117 : decode cX11_joins 117 = .ok (.iload 5, 2) := by decide +kernel
theorem dX11_joins_119 : decode cX11_joins 119 = .ok (.aload_n 0, 1) := by decide +kernel
theorem dX11_joins_120 : decode cX11_joins 120 = .ok (.getfield 23, 3) := by decide +kernel
theorem dX11_joins_123 : decode cX11_joins 123 = .ok (.iload_n 1, 1) := by decide +kernel
theorem dX11_joins_124 : decode cX11_joins 124 = .ok (.iaload, 1) := by decide +kernel
theorem dX11_joins_125 : decode cX11_joins 125 = .ok (.if_icmp .ge 20, 3) := by decide +kernel
theorem dX11_joins_128 : decode cX11_joins 128 = .ok (.aload_n 0, 1) := by decide +kernel
theorem dX11_joins_129 : decode cX11_joins 129 = .ok (.aload_n 0, 1) := by decide +kernel
theorem dX11_joins_130 : decode cX11_joins 130 = .ok (.iload_n 1, 1) := by decide +kernel
theorem dX11_joins_131 : decode cX11_joins 131 = .ok (.iload 5, 2) := by decide +kernel
theorem dX11_joins_133 : decode cX11_joins 133 = .ok (.invokevirtual 142, 3) := by decide +kernel
theorem dX11_joins_136 : decode cX11_joins 136 = .ok (.invokevirtual 136, 3) := by decide +kernel
theorem dX11_joins_139 : decode cX11_joins 139 = .ok (.iinc 5 1, 3) := by decide +kernel
theorem dX11_joins_142 : decode cX11_joins 142 = .ok (.goto (-25), 3) := by decide +kernel
theorem dX11_joins_145 : decode cX11_joins 145 = .ok (.return_, 1) := by decide +kernel
set_option maxRecDepth 20000 in
theorem ggX11_raw_X11_writes : GoodIn wsX11_raw wsX11_writes := goodIn_r _ [7, 1, 2, 8, 9, 6, 10, 22, 23, 24, 25, 26, 27, 28, 29, 30, 31, 32, 33, 34, 35, 36, 37, 38, 39, 40, 41, 42, 43, 44, 45, 46, 47, 48, 49, 50, 51, 52, 53, 54, 55, 56, 57, 58, 59, 60, 61, 62, 63, 64] (by decide +kernel) (by decide +kernel)
set_option maxRecDepth 20000 in
theorem gX11_raw_X11_writes : GoodIn wsX11_raw (wsV RX11 181 RX11 yX11_writes wsX11_writes) := goodIn_app (goodIn_of _ (by decide +kernel)) ggX11_raw_X11_writes
set_option maxRecDepth 20000 in
theorem ggX11_raw_X11_blank : GoodIn wsX11_raw wsX11_blank := goodIn_r _ [14, 15, 16, 17, 18, 19, 6, 20, 21, 22, 23, 24, 25, 26, 27, 28, 29, 30, 31, 32, 33, 34, 35, 36, 37, 38, 39, 40, 41, 42, 43, 44, 45, 46, 47, 48, 49, 50, 51, 52, 53, 54, 55, 56, 57, 58, 59, 60, 61, 62, 63, 64] (by decide +kernel) (by decide +kernel)
