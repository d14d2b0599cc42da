set_option maxRecDepth 20000 in
theorem gX11_areStrokes_X11_isStroke : GoodIn wsX11_areStrokes (va_wsS RX11 99 yX11_isStroke wsX11_isStroke) := goodIn_app (goodIn_of _ (by decide +kernel)) ggX11_areStrokes_X11_isStroke
theorem dX11_areStrokes_0 : decode cX11_areStrokes 0 = .ok (.iload_n 0, 1) := by decide +kernel
theorem dX11_areStrokes_1 : decode cX11_areStrokes 1 = .ok (.invokestatic 99, 3) := by decide +kernel
theorem dX11_areStrokes_4 : decode cX11_areStrokes 4 = .ok (.ifCond .ne 5, 3) := by decide +kernel
theorem dX11_areStrokes_7 : decode cX11_areStrokes 7 = .ok (.iconst 0, 1) := by decide +kernel
theorem dX11_areStrokes_8 : decode cX11_areStrokes 8 = .ok (.ireturn, 1) := by decide +kernel
theorem dX11_areStrokes_9 : decode cX11_areStrokes 9 = .ok (.iload_n 1, 1) := by decide +kernel
theorem dX11_areStrokes_10 : decode cX11_areStrokes 10 = .ok (.ifCond .eq 10, 3) := by decide +kernel
theorem dX11_areStrokes_13 : decode cX11_areStrokes 13 = .ok (.iload_n 1, 1) := by decide +kernel
theorem dX11_areStrokes_14 : decode cX11_areStrokes 14 = .ok (.invokestatic 99, 3) := by decide +kernel
theorem dX11_areStrokes_17 : decode cX11_areStrokes 17 = .ok (.ifCond .eq 38, 3) := by decide +kernel
theorem dX11_areStrokes_20 : decode cX11_areStrokes 20 = .ok (.iload_n 2, 1) := by decide +kernel
theorem dX11_areStrokes_21 : decode cX11_areStrokes 21 = .ok (.ifCond .eq 10, 3) := by decide +kernel
theorem dX11_areStrokes_24 : decode cX11_areStrokes 24 = .ok (.iload_n 2, 1) := by decide +kernel
theorem dX11_areStrokes_25 : decode cX11_areStrokes 25 = .ok (.invokestatic 99, 3) := by decide +kernel
theorem dX11_areStrokes_28 : decode cX11_areStrokes 28 = .ok (.ifCond .eq 27, 3) := by decide +kernel
theorem dX11_areStrokes_31 : decode cX11_areStrokes 31 = .ok (.iload_n 3, 1) := by decide +kernel
theorem dX11_areStrokes_32 : decode cX11_areStrokes 32 = .ok (.ifCond .eq 10, 3) := by decide +kernel
theorem dX11_areStrokes_35 : decode cX11_areStrokes 35 = .ok (.iload_n 3, 1) := by decide +kernel
theorem dX11_areStrokes_36 : decode cX11_areStrokes 36 = .ok (.invokestatic 99, 3) := by decide +kernel
theorem dX11_areStrokes_39 : decode cX11_areStrokes 39 = .ok (.ifCond .eq 16, 3) := by decide +kernel
theorem dX11_areStrokes_42 : decode cX11_areStrokes 42 = .ok (.iload 4, 2) := by decide +kernel
theorem dX11_areStrokes_44 : decode cX11_areStrokes 44 = .ok (.ifCond .eq 13, 3) := by decide +kernel
theorem dX11_areStrokes_47 : decode cX11_areStrokes 47 = .ok (.iload 4, 2) := by decide +kernel
theorem dX11_areStrokes_49 : decode cX11_areStrokes 49 = .ok (.invokestatic 99, 3) := by decide +kernel
theorem dX11_areStrokes_52 : decode cX11_areStrokes 52 = .ok (.ifCond .ne 5, 3) := by decide +kernel
theorem dX11_areStrokes_55 : decode cX11_areStrokes 55 = .ok (.iconst 0, 1) := by decide +kernel
theorem dX11_areStrokes_56 : decode cX11_areStrokes 56 = .ok (.ireturn, 1) := by decide +kernel
theorem dX11_areStrokes_57 : decode cX11_areStrokes 57 = .ok (.iload_n 1, 1) := by decide +kernel
theorem dX11_areStrokes_58 : decode cX11_areStrokes 58 = .ok (.ifCond .ne 7, 3) := by decide +kernel
theorem dX11_areStrokes_61 : decode cX11_areStrokes 61 = .ok (.iload_n 2, 1) := by decide +kernel
theorem dX11_areStrokes_62 : decode cX11_areStrokes 62 = .ok (.ifCond .ne 24, 3) := by decide +kernel
theorem dX11_areStrokes_65 : decode cX11_areStrokes 65 = .ok (.iload_n 2, 1) := by decide +kernel
theorem dX11_areStrokes_66 : decode cX11_areStrokes 66 = .ok (.ifCond .ne 7, 3) := by decide +kernel
theorem dX11_areStrokes_69 : decode cX11_areStrokes 69 = .ok (.iload_n 3, 1) := by decide +kernel
theorem dX11_areStrokes_70 : decode cX11_areStrokes 70 = .ok (.ifCond .ne 16, 3) := by decide +kernel
theorem dX11_areStrokes_73 : decode cX11_areStrokes 73 = .ok (.iload_n 3, 1) := by decide +kernel
theorem dX11_areStrokes_74 : decode cX11_areStrokes 74 = .ok (.ifCond .ne 8, 3) := by decide +kernel
theorem dX11_areStrokes_77 : decode cX11_areStrokes 77 = .ok (.iload 4, 2) := by decide +kernel
theorem dX11_areStrokes_79 : decode cX11_areStrokes 79 = .ok (.ifCond .ne 7, 3) := by decide +kernel
theorem dX11_areStrokes_82 : decode cX11_areStrokes 82 = .ok (.iconst 1, 1) := by decide +kernel
theorem dX11_areStrokes_83 : decode cX11_areStrokes 83 = .ok (.goto 4, 3) := by decide +kernel
theorem dX11_areStrokes_86 : decode cX11_areStrokes 86 = .ok (.iconst 0, 1) := by decide +kernel
theorem dX11_areStrokes_87 : decode cX11_areStrokes 87 = .ok (.ireturn, 1) := by decide +kernel
set_option maxRecDepth 20000 in
theorem ggX11_entry_X11_areStrokes : GoodIn wsX11_entry wsX11_areStrokes := goodIn_r _ [12, 13, 14, 11, 15, 16] (by decide +kernel) (by decide +kernel)
set_option maxRecDepth 20000 in
theorem gX11_entry_X11_areStrokes : GoodIn wsX11_entry (va_wsS RX11 102 yX11_areStrokes wsX11_areStrokes) := goodIn_app (goodIn_of _ (by decide +kernel)) ggX11_entry_X11_areStrokes
set_option maxRecDepth 20000 in
theorem ggX11_entry_X11_isSize : GoodIn wsX11_entry wsX11_isSize := goodIn_r _ [19] (by decide +kernel) (by decide +kernel)
set_option maxRecDepth 20000 in
theorem gX11_entry_X11_isSize : GoodIn wsX11_entry (va_wsS RX11 106 yX11_isSize wsX11_isSize) := goodIn_app (goodIn_of _ (by decide +kernel)) ggX11_entry_X11_isSize
set_option maxRecDepth 20000 in
theorem ggX11_entry_X11_takes : GoodIn wsX11_entry wsX11_takes := goodIn_r _ [23, 2, 24, 1, 39, 40, 41, 42, 43, 44, 45, 46, 47, 48, 49, 50, 51, 52, 53, 54, 55, 56, 57, 58, 59, 60, 61, 62, 63, 64, 65, 66, 67, 68, 69, 70, 71, 72, 73, 74, 75, 76, 77, 78, 79, 80, 81] (by decide +kernel) (by decide +kernel)
set_option maxRecDepth 20000 in
theorem gX11_entry_X11_takes : GoodIn wsX11_entry (wsV RX11 110 RX11 yX11_takes wsX11_takes) := goodIn_app (goodIn_of _ (by decide +kernel)) ggX11_entry_X11_takes
set_option maxRecDepth 20000 in
theorem ggX11_entry_X11_isByte : GoodIn wsX11_entry wsX11_isByte := goodIn_r _ [27, 28, 29, 11, 30] (by decide +kernel) (by decide +kernel)
set_option maxRecDepth 20000 in
theorem gX11_entry_X11_isByte : GoodIn wsX11_entry (va_wsS RX11 113 yX11_isByte wsX11_isByte) := goodIn_app (goodIn_of _ (by decide +kernel)) ggX11_entry_X11_isByte
set_option maxRecDepth 20000 in
theorem ggX11_entry_X11_lays : GoodIn wsX11_entry wsX11_lays := goodIn_r _ [34, 4, 3, 5, 39, 40, 41, 42, 43, 44, 45, 46, 47, 48, 49, 50, 51, 52, 53, 54, 55, 56, 57, 58, 59, 60, 61, 62, 63, 64, 65, 66, 67, 68, 69, 70, 71, 72, 73, 74, 75, 76, 77, 78, 79, 80, 81] (by decide +kernel) (by decide +kernel)
set_option maxRecDepth 20000 in
theorem gX11_entry_X11_lays : GoodIn wsX11_entry (wsV RX11 116 RX11 yX11_lays wsX11_lays) := goodIn_app (goodIn_of _ (by decide +kernel)) ggX11_entry_X11_lays
set_option maxRecDepth 20000 in
theorem ggX11_entry_X11_entryOf : GoodIn wsX11_entry wsX11_entryOf := goodIn_r _ [38, 3, 5, 4, 39, 40, 41, 42, 43, 44, 45, 46, 47, 48, 49, 50, 51, 52, 53, 54, 55, 56, 57, 58, 59, 60, 61, 62, 63, 64, 65, 66, 67, 68, 69, 70, 71, 72, 73, 74, 75, 76, 77, 78, 79, 80, 81] (by decide +kernel) (by decide +kernel)
set_option maxRecDepth 20000 in
theorem gX11_entry_X11_entryOf : GoodIn wsX11_entry (wsV RX11 120 RX11 yX11_entryOf wsX11_entryOf) := goodIn_app (goodIn_of _ (by decide +kernel)) ggX11_entry_X11_entryOf
theorem dX11_entry_0 : decode cX11_entry 0 = .ok (.iload_n 1, 1) := by decide +kernel
theorem dX11_entry_1 : decode cX11_entry 1 = .ok (.iload_n 2, 1) := by decide +kernel
theorem dX11_entry_2 : decode cX11_entry 2 = .ok (.iload_n 3, 1) := by decide +kernel
theorem dX11_entry_3 : decode cX11_entry 3 = .ok (.iload 4, 2) := by decide +kernel
theorem dX11_entry_5 : decode cX11_entry 5 = .ok (.iload 5, 2) := by decide +kernel
theorem dX11_entry_7 : decode cX11_entry 7 = .ok (.invokestatic 102, 3) := by decide +kernel
theorem dX11_entry_10 : decode cX11_entry 10 = .ok (.ifCond .eq 34, 3) := by decide +kernel
theorem dX11_entry_13 : decode cX11_entry 13 = .ok (.iload 6, 2) := by decide +kernel
theorem dX11_entry_15 : decode cX11_entry 15 = .ok (.ifCond .lt 29, 3) := by decide +kernel
theorem dX11_entry_18 : decode cX11_entry 18 = .ok (.iload 6, 2) := by decide +kernel
theorem dX11_entry_20 : decode cX11_entry 20 = .ok (.bipush 8, 2) := by decide +kernel
theorem dX11_entry_22 : decode cX11_entry 22 = .ok (.if_icmp .gt 22, 3) := by decide +kernel
theorem dX11_entry_25 : decode cX11_entry 25 = .ok (.iload 6, 2) := by decide +kernel
theorem dX11_entry_27 : decode cX11_entry 27 = .ok (.iload 7, 2) := by decide +kernel
theorem dX11_entry_29 : decode cX11_entry 29 = .ok (.invokestatic 106, 3) := by decide +kernel
theorem dX11_entry_32 : decode cX11_entry 32 = .ok (.ifCond .eq 12, 3) := by decide +kernel
theorem dX11_entry_35 : decode cX11_entry 35 = .ok (.iload 7, 2) := by decide +kernel
theorem dX11_entry_37 : decode cX11_entry 37 = .ok (.aload_n 0, 1) := by decide +kernel
theorem dX11_entry_38 : decode cX11_entry 38 = .ok (.getfield 83, 3) := by decide +kernel
theorem dX11_entry_41 : decode cX11_entry 41 = .ok (.if_icmp .le 5, 3) := by decide +kernel
theorem dX11_entry_44 : decode cX11_entry 44 = .ok (.iconst (-1), 1) := by decide +kernel
theorem dX11_entry_45 : decode cX11_entry 45 = .ok (.ireturn, 1) := by decide +kernel
theorem dX11_entry_46 : decode cX11_entry 46 = .ok (.aload_n 0, 1) := by decide +kernel
theorem dX11_entry_47 : decode cX11_entry 47 = .ok (.iload 7, 2) := by decide +kernel
theorem dX11_entry_49 : decode cX11_entry 49 = .ok (.invokevirtual 110, 3) := by decide +kernel
theorem dX11_entry_52 : decode cX11_entry 52 = .ok (.iconst 0, 1) := by decide +kernel
theorem dX11_entry_53 : decode cX11_entry 53 = .ok (.istore 8, 2) := by decide +kernel
theorem dX11_entry_55 : decode cX11_entry 55 = .ok (.iload 8, 2) := by decide +kernel
theorem dX11_entry_57 : decode cX11_entry 57 = .ok (.iload 7, 2) := by decide +kernel
theorem dX11_entry_59 : decode cX11_entry 59 = .ok (.if_icmp .ge 30, 3) := by decide +kernel
theorem dX11_entry_62 : decode cX11_entry 62 = .ok (.iload 6, 2) := by decide +kernel
theorem dX11_entry_64 : decode cX11_entry 64 = .ok (.aload_n 0, 1) := by decide +kernel
theorem dX11_entry_65 : decode cX11_entry 65 = .ok (.getfield 13, 3) := by decide +kernel
theorem dX11_entry_68 : decode cX11_entry 68 = .ok (.iload 8, 2) := by decide +kernel
theorem dX11_entry_70 : decode cX11_entry 70 = .ok (.baload, 1) := by decide +kernel
theorem dX11_entry_71 : decode cX11_entry 71 = .ok (.sipush 255, 3) := by decide +kernel
theorem dX11_entry_74 : decode cX11_entry 74 = .ok (.iand, 1) := by decide +kernel
theorem dX11_entry_75 : decode cX11_entry 75 = .ok (.invokestatic 113, 3) := by decide +kernel
theorem dX11_entry_78 : decode cX11_entry 78 = .ok (.ifCond .ne 5, 3) := by decide +kernel
theorem dX11_entry_81 : decode cX11_entry 81 = .ok (.iconst (-1), 1) := by decide +kernel
theorem dX11_entry_82 : decode cX11_entry 82 = .ok (.ireturn, 1) := by decide +kernel
theorem dX11_entry_83 : decode cX11_entry 83 = .ok (.iinc 8 1, 3) := by decide +kernel
theorem dX11_entry_86 : decode cX11_entry 86 = .ok (.goto (-31), 3) := by decide +kernel
theorem dX11_entry_89 : decode cX11_entry 89 = .ok (.aload_n 0, 1) := by decide +kernel
theorem dX11_entry_90 : decode cX11_entry 90 = .ok (.getfield 92, 3) := by decide +kernel
theorem dX11_entry_93 : decode cX11_entry 93 = .ok (.bipush 60, 2) := by decide +kernel
theorem dX11_entry_95 : decode cX11_entry 95 = .ok (.if_icmp .ne 5, 3) := by decide +kernel
theorem dX11_entry_98 : decode cX11_entry 98 = .ok (.iconst (-1), 1) := by decide +kernel
theorem dX11_entry_99 : decode cX11_entry 99 = .ok (.ireturn, 1) := by decide +kernel
theorem dX11_entry_100 : decode cX11_entry 100 = .ok (.aload_n 0, 1) := by decide +kernel
theorem dX11_entry_101 : decode cX11_entry 101 = .ok (.iconst 0, 1) := by decide +kernel
theorem dX11_entry_102 : decode cX11_entry 102 = .ok (.iload_n 1, 1) := by decide +kernel
theorem dX11_entry_103 : decode cX11_entry 103 = .ok (.invokevirtual 116, 3) := by decide +kernel
theorem dX11_entry_106 : decode cX11_entry 106 = .ok (.aload_n 0, 1) := by decide +kernel
theorem dX11_entry_107 : decode cX11_entry 107 = .ok (.iconst 1, 1) := by decide +kernel
theorem dX11_entry_108 : decode cX11_entry 108 = .ok (.iload_n 2, 1) := by decide +kernel
theorem dX11_entry_109 : decode cX11_entry 109 = .ok (.invokevirtual 116, 3) := by decide +kernel
theorem dX11_entry_112 : decode cX11_entry 112 = .ok (.aload_n 0, 1) := by decide +kernel
theorem dX11_entry_113 : decode cX11_entry 113 = .ok (.iconst 2, 1) := by decide +kernel
theorem dX11_entry_114 : decode cX11_entry 114 = .ok (.iload_n 3, 1) := by decide +kernel
theorem dX11_entry_115 : decode cX11_entry 115 = .ok (.invokevirtual 116, 3) := by decide +kernel
theorem dX11_entry_118 : decode cX11_entry 118 = .ok (.aload_n 0, 1) := by decide +kernel
theorem dX11_entry_119 : decode cX11_entry 119 = .ok (.iconst 3, 1) := by decide +kernel
theorem dX11_entry_120 : decode cX11_entry 120 = .ok (.iload 4, 2) := by decide +kernel
theorem dX11_entry_122 : decode cX11_entry 122 = .ok (.invokevirtual 116, 3) := by decide +kernel
theorem dX11_entry_125 : decode cX11_entry 125 = .ok (.aload_n 0, 1) := by decide +kernel
theorem dX11_entry_126 : decode cX11_entry 126 = .ok (.iconst 4, 1) := by decide +kernel
theorem dX11_entry_127 : decode cX11_entry 127 = .ok (.iload 5, 2) := by decide +kernel
theorem dX11_entry_129 : decode cX11_entry 129 = .ok (.invokevirtual 116, 3) := by decide +kernel
theorem dX11_entry_132 : decode cX11_entry 132 = .ok (.aload_n 0, 1) := by decide +kernel
theorem dX11_entry_133 : decode cX11_entry 133 = .ok (.aload_n 0, 1) := by decide +kernel
theorem dX11_entry_134 : decode cX11_entry 134 = .ok (.getfield 26, 3) := by decide +kernel
theorem dX11_entry_137 : decode cX11_entry 137 = .ok (.iconst 5, 1) := by decide +kernel
theorem dX11_entry_138 : decode cX11_entry 138 = .ok (.aload_n 0, 1) := by decide +kernel
theorem dX11_entry_139 : decode cX11_entry 139 = .ok (.getfield 92, 3) := by decide +kernel
theorem dX11_entry_142 : decode cX11_entry 142 = .ok (.imul, 1) := by decide +kernel
theorem dX11_entry_143 : decode cX11_entry 143 = .ok (.aload_n 0, 1) := by decide +kernel
theorem dX11_entry_144 : decode cX11_entry 144 = .ok (.getfield 16, 3) := by decide +kernel
theorem dX11_entry_147 : decode cX11_entry 147 = .ok (.aload_n 0, 1) := by decide +kernel
theorem dX11_entry_148 : decode cX11_entry 148 = .ok (.getfield 92, 3) := by decide +kernel
theorem dX11_entry_151 : decode cX11_entry 151 = .ok (.iaload, 1) := by decide +kernel
theorem dX11_entry_152 : decode cX11_entry 152 = .ok (.invokevirtual 120, 3) := by decide +kernel
theorem dX11_entry_155 : decode cX11_entry 155 = .ok (.iconst (-1), 1) := by decide +kernel
theorem dX11_entry_156 : decode cX11_entry 156 = .ok (.if_icmp .eq 5, 3) := by decide +kernel
theorem dX11_entry_159 : decode cX11_entry 159 = .ok (.iconst (-1), 1) := by decide +kernel
theorem dX11_entry_160 : decode cX11_entry 160 = .ok (.ireturn, 1) := by decide +kernel
theorem dX11_entry_161 : decode cX11_entry 161 = .ok (.aload_n 0, 1) := by decide +kernel
theorem dX11_entry_162 : decode cX11_entry 162 = .ok (.getfield 20, 3) := by decide +kernel
theorem dX11_entry_165 : decode cX11_entry 165 = .ok (.aload_n 0, 1) := by decide +kernel
theorem dX11_entry_166 : decode cX11_entry 166 = .ok (.getfield 92, 3) := by decide +kernel
theorem dX11_entry_169 : decode cX11_entry 169 = .ok (.iload 6, 2) := by decide +kernel
theorem dX11_entry_171 : decode cX11_entry 171 = .ok (.iastore, 1) := by decide +kernel
theorem dX11_entry_172 : decode cX11_entry 172 = .ok (.aload_n 0, 1) := by decide +kernel
theorem dX11_entry_173 : decode cX11_entry 173 = .ok (.getfield 23, 3) := by decide +kernel
theorem dX11_entry_176 : decode cX11_entry 176 = .ok (.aload_n 0, 1) := by decide +kernel
theorem dX11_entry_177 : decode cX11_entry 177 = .ok (.getfield 92, 3) := by decide +kernel
theorem dX11_entry_180 : decode cX11_entry 180 = .ok (.iload 7, 2) := by decide +kernel
theorem dX11_entry_182 : decode cX11_entry 182 = .ok (.iastore, 1) := by decide +kernel
theorem dX11_entry_183 : decode cX11_entry 183 = .ok (.iconst 0, 1) := by decide +kernel
theorem dX11_entry_184 : decode cX11_entry 184 = .ok (.istore 8, 2) := by decide +kernel
theorem dX11_entry_186 : decode cX11_entry 186 = .ok (.iload 8, 2) := by decide +kernel
theorem dX11_entry_188 : decode cX11_entry 188 = .ok (.iload 7, 2) := by decide +kernel
theorem dX11_entry_190 : decode cX11_entry 190 = .ok (.if_icmp .ge 31, 3) := by decide +kernel
theorem dX11_entry_193 : decode cX11_entry 193 = .ok (.aload_n 0, 1) := by decide +kernel
theorem dX11_entry_194 : decode cX11_entry 194 = .ok (.getfield 29, 3) := by decide +kernel
theorem dX11_entry_197 : decode cX11_entry 197 = .ok (.bipush 16, 2) := by decide +kernel
theorem dX11_entry_199 : decode cX11_entry 199 = .ok (.aload_n 0, 1) := by decide +kernel
theorem dX11_entry_200 : decode cX11_entry 200 = .ok (.getfield 92, 3) := by decide +kernel
theorem dX11_entry_203 : decode cX11_entry 203 = .ok (.imul, 1) := by decide +kernel
theorem dX11_entry_204 : decode cX11_entry 204 = .ok (.iload 8, 2) := by decide +kernel
theorem dX11_entry_206 : decode cX11_entry 206 = .ok (.iadd, 1) := by decide +kernel
theorem dX11_entry_207 : decode cX11_entry 207 = .ok (.aload_n 0, 1) := by decide +kernel
theorem dX11_entry_208 : decode cX11_entry 208 = .ok (.getfield 13, 3) := by decide +kernel
theorem dX11_entry_211 : decode cX11_entry 211 = .ok (.iload 8, 2) := by decide +kernel
theorem dX11_entry_213 : decode cX11_entry 213 = .ok (.baload, 1) := by decide +kernel
theorem dX11_entry_214 : decode cX11_entry 214 = .ok (.bastore, 1) := by decide +kernel
theorem dX11_entry_215 : decode cX11_entry 215 = .ok (.iinc 8 1, 3) := by decide +kernel
theorem dX11_entry_218 : decode cX11_entry 218 = .ok (.goto (-32), 3) := by decide +kernel
theorem dX11_entry_221 : decode cX11_entry 221 = .ok (.aload_n 0, 1) := by decide +kernel
theorem dX11_entry_222 : decode cX11_entry 222 = .ok (.aload_n 0, 1) := by decide +kernel
theorem dX11_entry_223 : decode cX11_entry 223 = .ok (.getfield 92, 3) := by decide +kernel
theorem dX11_entry_226 : decode cX11_entry 226 = .ok (.iconst 1, 1) := by decide +kernel
theorem dX11_entry_227 : decode cX11_entry 227 = .ok (.iadd, 1) := by decide +kernel
theorem dX11_entry_228 : decode cX11_entry 228 = .ok (.putfield 92, 3) := by decide +kernel
theorem dX11_entry_231 : decode cX11_entry 231 = .ok (.aload_n 0, 1) := by decide +kernel
theorem dX11_entry_232 : decode cX11_entry 232 = .ok (.getfield 92, 3) := by decide +kernel
theorem dX11_entry_235 : decode cX11_entry 235 = .ok (.iconst 1, 1) := by decide +kernel
theorem dX11_entry_236 : decode cX11_entry 236 = .ok (.isub, 1) := by decide +kernel
theorem dX11_entry_237 : decode cX11_entry 237 = .ok (.ireturn, 1) := by decide +kernel
theorem dX11_drop_0 : decode cX11_drop 0 = .ok (.iload_n 1, 1) := by decide +kernel
theorem dX11_drop_1 : decode cX11_drop 1 = .ok (.ifCond .lt 11, 3) := by decide +kernel
theorem dX11_drop_4 : decode cX11_drop 4 = .ok (.iload_n 1, 1) := by decide +kernel
theorem dX11_drop_5 : decode cX11_drop 5 = .ok (.aload_n 0, 1) := by decide +kernel
theorem dX11_drop_6 : decode cX11_drop 6 = .ok (.getfield 92, 3) := by decide +kernel
theorem dX11_drop_9 : decode cX11_drop 9 = .ok (.if_icmp .lt 5, 3) := by decide +kernel
theorem dX11_drop_12 : decode cX11_drop 12 = .ok (.iconst 0, 1) := by decide +kernel
theorem dX11_drop_13 : decode cX11_drop 13 = .ok (.ireturn, 1) := by decide +kernel
theorem dX11_drop_14 : decode cX11_drop 14 = .ok (.iload_n 1, 1) := by decide +kernel
theorem dX11_drop_15 : decode cX11_drop 15 = .ok (.istore_n 2, 1) := by decide +kernel
theorem dX11_drop_16 : decode cX11_drop 16 = .ok (.iload_n 2, 1) := by decide +kernel
theorem dX11_drop_17 : decode cX11_drop 17 = .ok (.aload_n 0, 1) := by decide +kernel
theorem dX11_drop_18 : decode cX11_drop 18 = .ok (.getfield 92, 3) := by decide +kernel
theorem dX11_drop_21 : decode cX11_drop 21 = .ok (.iconst 1, 1) := by decide +kernel
theorem dX11_drop_22 : decode cX11_drop 22 = .ok (.isub, 1) := by decide +kernel
theorem dX11_drop_23 : decode cX11_drop 23 = .ok (.if_icmp .ge 124, 3) := by decide +kernel
theorem dX11_drop_26 : decode cX11_drop 26 = .ok (.aload_n 0, 1) := by decide +kernel
theorem dX11_drop_27 : decode cX11_drop 27 = .ok (.getfield 16, 3) := by decide +kernel
theorem dX11_drop_30 : decode cX11_drop 30 = .ok (.iload_n 2, 1) := by decide +kernel
theorem dX11_drop_31 : decode cX11_drop 31 = .ok (.aload_n 0, 1) := by decide +kernel
theorem dX11_drop_32 : decode cX11_drop 32 = .ok (.getfield 16, 3) := by decide +kernel
theorem dX11_drop_35 : decode cX11_drop 35 = .ok (.iload_n 2, 1) := by decide +kernel
theorem dX11_drop_36 : decode cX11_drop 36 = .ok (.iconst 1, 1) := by decide +kernel
theorem dX11_drop_37 : decode cX11_drop 37 = .ok (.iadd, 1) := by decide +kernel
theorem dX11_drop_38 : decode cX11_drop 38 = .ok (.iaload, 1) := by decide +kernel
theorem dX11_drop_39 : decode cX11_drop 39 = .ok (.iastore, 1) := by decide +kernel
theorem dX11_drop_40 : decode cX11_drop 40 = .ok (.aload_n 0, 1) := by decide +kernel
theorem dX11_drop_41 : decode cX11_drop 41 = .ok (.getfield 20, 3) := by decide +kernel
theorem dX11_drop_44 : decode cX11_drop 44 = .ok (.iload_n 2, 1) := by decide +kernel
theorem dX11_drop_45 : decode cX11_drop 45 = .ok (.aload_n 0, 1) := by decide +kernel
theorem dX11_drop_46 : decode cX11_drop 46 = .ok (.getfield 20, 3) := by decide +kernel
theorem dX11_drop_49 : decode cX11_drop 49 = .ok (.iload_n 2, 1) := by decide +kernel
theorem dX11_drop_50 : decode cX11_drop 50 = .ok (.iconst 1, 1) := by decide +kernel
theorem dX11_drop_51 : decode cX11_drop 51 = .ok (.iadd, 1) := by decide +kernel
theorem dX11_drop_52 : decode cX11_drop 52 = .ok (.iaload, 1) := by decide +kernel
theorem dX11_drop_53 : decode cX11_drop 53 = .ok (.iastore, 1) := by decide +kernel
theorem dX11_drop_54 : decode cX11_drop 54 = .ok (.aload_n 0, 1) := by decide +kernel
theorem dX11_drop_55 : decode cX11_drop 55 = .ok (.getfield 23, 3) := by decide +kernel
theorem dX11_drop_58 : decode cX11_drop 58 = .ok (.iload_n 2, 1) := by decide +kernel
theorem dX11_drop_59 : decode cX11_drop 59 = .ok (.aload_n 0, 1) := by decide +kernel
theorem dX11_drop_60 : decode cX11_drop 60 = .ok (.getfield 23, 3) := by decide +kernel
theorem dX11_drop_63 : decode cX11_drop 63 = .ok (.iload_n 2, 1) := by decide +kernel
theorem dX11_drop_64 : decode cX11_drop 64 = .ok (.iconst 1, 1) := by decide +kernel
theorem dX11_drop_65 : decode cX11_drop 65 = .ok (.iadd, 1) := by decide +kernel
theorem dX11_drop_66 : decode cX11_drop 66 = .ok (.iaload, 1) := by decide +kernel
theorem dX11_drop_67 : decode cX11_drop 67 = .ok (.iastore, 1) := by decide +kernel
theorem dX11_drop_68 : decode cX11_drop 68 = .ok (.iconst 0, 1) := by decide +kernel
theorem dX11_drop_69 : decode cX11_drop 69 = .ok (.istore_n 3, 1) := by decide +kernel
theorem dX11_drop_70 : decode cX11_drop 70 = .ok (.iload_n 3, 1) := by decide +kernel
theorem dX11_drop_71 : decode cX11_drop 71 = .ok (.iconst 5, 1) := by decide +kernel
theorem dX11_drop_72 : decode cX11_drop 72 = .ok (.if_icmp .ge 31, 3) := by decide +kernel
theorem dX11_drop_75 : decode cX11_drop 75 = .ok (.aload_n 0, 1) := by decide +kernel
theorem dX11_drop_76 : decode cX11_drop 76 = .ok (.getfield 26, 3) := by decide +kernel
theorem dX11_drop_79 : decode cX11_drop 79 = .ok (.iconst 5, 1) := by decide +kernel
theorem dX11_drop_80 : decode cX11_drop 80 = .ok (.iload_n 2, 1) := by decide +kernel
theorem dX11_drop_81 : decode cX11_drop 81 = .ok (.imul, 1) := by decide +kernel
theorem dX11_drop_82 : decode cX11_drop 82 = .ok (.iload_n 3, 1) := by decide +kernel
theorem dX11_drop_83 : decode cX11_drop 83 = .ok (.iadd, 1) := by decide +kernel
theorem dX11_drop_84 : decode cX11_drop 84 = .ok (.aload_n 0, 1) := by decide +kernel
theorem dX11_drop_85 : decode cX11_drop 85 = .ok (.getfield 26, 3) := by decide +kernel
theorem dX11_drop_88 : decode cX11_drop 88 = .ok (.iconst 5, 1) := by decide +kernel
theorem dX11_drop_89 : decode cX11_drop 89 = .ok (.iload_n 2, 1) := by decide +kernel
theorem dX11_drop_90 : decode cX11_drop 90 = .ok (.iconst 1, 1) := by decide +kernel
theorem dX11_drop_91 : decode cX11_drop 91 = .ok (.iadd, 1) := by decide +kernel
theorem dX11_drop_92 : decode cX11_drop 92 = .ok (.imul, 1) := by decide +kernel
theorem dX11_drop_93 : decode cX11_drop 93 = .ok (.iload_n 3, 1) := by decide +kernel
theorem dX11_drop_94 : decode cX11_drop 94 = .ok (.iadd, 1) := by decide +kernel
theorem dX11_drop_95 : decode cX11_drop 95 = .ok (.iaload, 1) := by decide +kernel
theorem dX11_drop_96 : decode cX11_drop 96 = .ok (.iastore, 1) := by decide +kernel
theorem dX11_drop_97 : decode cX11_drop 97 = .ok (.iinc 3 1, 3) := by decide +kernel
theorem dX11_drop_100 : decode cX11_drop 100 = .ok (.goto (-30), 3) := by decide +kernel
theorem dX11_drop_103 : decode cX11_drop 103 = .ok (.iconst 0, 1) := by decide +kernel
theorem dX11_drop_104 : decode cX11_drop 104 = .ok (.istore_n 3, 1) := by decide +kernel
theorem dX11_drop_105 : decode cX11_drop 105 = .ok (.iload_n 3, 1) := by decide +kernel
theorem dX11_drop_106 : decode cX11_drop 106 = .ok (.bipush 16, 2) := by decide +kernel
theorem dX11_drop_108 : decode cX11_drop 108 = .ok (.if_icmp .ge 33, 3) := by decide +kernel
theorem dX11_drop_111 : decode cX11_drop 111 = .ok (.aload_n 0, 1) := by decide +kernel
theorem dX11_drop_112 : decode cX11_drop 112 = .ok (.getfield 29, 3) := by decide +kernel
theorem dX11_drop_115 : decode cX11_drop 115 = .ok (.bipush 16, 2) := by decide +kernel
theorem dX11_drop_117 : decode cX11_drop 117 = .ok (.iload_n 2, 1) := by decide +kernel
theorem dX11_drop_118 : decode cX11_drop 118 = .ok (.imul, 1) := by decide +kernel
theorem dX11_drop_119 : decode cX11_drop 119 = .ok (.iload_n 3, 1) := by decide +kernel
theorem dX11_drop_120 : decode cX11_drop 120 = .ok (.iadd, 1) := by decide +kernel
theorem dX11_drop_121 : decode cX11_drop 121 = .ok (.aload_n 0, 1) := by decide +kernel
theorem dX11_drop_122 : decode cX11_drop 122 = .ok (.getfield 29, 3) := by decide +kernel
theorem dX11_drop_125 : decode cX11_drop 125 = .ok (.bipush 16, 2) := by decide +kernel
theorem dX11_drop_127 : decode cX11_drop 127 = .ok (.iload_n 2, 1) := by decide +kernel
theorem dX11_drop_128 : decode cX11_drop 128 = .ok (.iconst 1, 1) := by decide +kernel
theorem dX11_drop_129 : decode cX11_drop 129 = .ok (.iadd, 1) := by decide +kernel
theorem dX11_drop_130 : decode cX11_drop 130 = .ok (.imul, 1) := by decide +kernel
theorem dX11_drop_131 : decode cX11_drop 131 = .ok (.iload_n 3, 1) := by decide +kernel
theorem dX11_drop_132 : decode cX11_drop 132 = .ok (.iadd, 1) := by decide +kernel
theorem dX11_drop_133 : decode cX11_drop 133 = .ok (.baload, 1) := by decide +kernel
theorem dX11_drop_134 : decode cX11_drop 134 = .ok (.bastore, 1) := by decide +kernel
theorem dX11_drop_135 : decode cX11_drop 135 = .ok (.iinc 3 1, 3) := by decide +kernel
theorem dX11_drop_138 : decode cX11_drop 138 = .ok (.goto (-33), 3) := by decide +kernel
theorem dX11_drop_141 : decode cX11_drop 141 = .ok (.iinc 2 1, 3) := by decide +kernel
theorem dX11_drop_144 : decode cX11_drop 144 = .ok (.goto (-128), 3) := by decide +kernel
theorem dX11_drop_147 : decode cX11_drop 147 = .ok (.aload_n 0, 1) := by decide +kernel
theorem dX11_drop_148 : decode cX11_drop 148 = .ok (.aload_n 0, 1) := by decide +kernel
theorem dX11_drop_149 : decode cX11_drop 149 = .ok (.getfield 92, 3) := by decide +kernel
theorem dX11_drop_152 : decode cX11_drop 152 = .ok (.iconst 1, 1) := by decide +kernel
theorem dX11_drop_153 : decode cX11_drop 153 = .ok (.isub, 1) := by decide +kernel
theorem dX11_drop_154 : decode cX11_drop 154 = .ok (.putfield 92, 3) := by decide +kernel
theorem dX11_drop_157 : decode cX11_drop 157 = .ok (.iconst 1, 1) := by decide +kernel
theorem dX11_drop_158 : decode cX11_drop 158 = .ok (.ireturn, 1) := by decide +kernel
theorem dX11_byteOf_0 : decode cX11_byteOf 0 = .ok (.aload_n 0, 1) := by decide +kernel
theorem dX11_byteOf_1 : decode cX11_byteOf 1 = .ok (.getfield 29, 3) := by decide +kernel
theorem dX11_byteOf_4 : decode cX11_byteOf 4 = .ok (.bipush 16, 2) := by decide +kernel
theorem dX11_byteOf_6 : decode cX11_byteOf 6 = .ok (.iload_n 1, 1) := by decide +kernel
theorem dX11_byteOf_7 : decode cX11_byteOf 7 = .ok (.imul, 1) := by decide +kernel
theorem dX11_byteOf_8 : decode cX11_byteOf 8 = .ok (.iload_n 2, 1) := by decide +kernel
theorem dX11_byteOf_9 : decode cX11_byteOf 9 = .ok (.iadd, 1) := by decide +kernel
theorem dX11_byteOf_10 : decode cX11_byteOf 10 = .ok (.baload, 1) := by decide +kernel
theorem dX11_byteOf_11 : decode cX11_byteOf 11 = .ok (.sipush 255, 3) := by decide +kernel
theorem dX11_byteOf_14 : decode cX11_byteOf 14 = .ok (.iand, 1) := by decide +kernel
theorem dX11_byteOf_15 : decode cX11_byteOf 15 = .ok (.ireturn, 1) := by decide +kernel
set_option maxRecDepth 20000 in
theorem ggX11_stroke_X11_isStroke : GoodIn wsX11_stroke wsX11_isStroke := goodIn_r _ [6, 7] (by decide +kernel) (by decide +kernel)
set_option maxRecDepth 20000 in
theorem gX11_stroke_X11_isStroke : GoodIn wsX11_stroke (va_wsS RX11 99 yX11_isStroke wsX11_isStroke) := goodIn_app (goodIn_of _ (by decide +kernel)) ggX11_stroke_X11_isStroke
theorem dX11_stroke_0 : decode cX11_stroke 0 = .ok (.iload_n 1, 1) := by decide +kernel
theorem dX11_stroke_1 : decode cX11_stroke 1 = .ok (.invokestatic 99, 3) := by decide +kernel
theorem dX11_stroke_4 : decode cX11_stroke 4 = .ok (.ifCond .eq 13, 3) := by decide +kernel
theorem dX11_stroke_7 : decode cX11_stroke 7 = .ok (.aload_n 0, 1) := by decide +kernel
theorem dX11_stroke_8 : decode cX11_stroke 8 = .ok (.getfield 124, 3) := by decide +kernel
theorem dX11_stroke_11 : decode cX11_stroke 11 = .ok (.sipush 300, 3) := by decide +kernel
theorem dX11_stroke_14 : decode cX11_stroke 14 = .ok (.if_icmp .ne 5, 3) := by decide +kernel
theorem dX11_stroke_17 : decode cX11_stroke 17 = .ok (.iconst (-1), 1) := by decide +kernel
theorem dX11_stroke_18 : decode cX11_stroke 18 = .ok (.ireturn, 1) := by decide +kernel
theorem dX11_stroke_19 : decode cX11_stroke 19 = .ok (.aload_n 0, 1) := by decide +kernel
theorem dX11_stroke_20 : decode cX11_stroke 20 = .ok (.getfield 32, 3) := by decide +kernel
theorem dX11_stroke_23 : decode cX11_stroke 23 = .ok (.aload_n 0, 1) := by decide +kernel
theorem dX11_stroke_24 : decode cX11_stroke 24 = .ok (.getfield 124, 3) := by decide +kernel
theorem dX11_stroke_27 : decode cX11_stroke 27 = .ok (.iload_n 1, 1) := by decide +kernel
theorem dX11_stroke_28 : decode cX11_stroke 28 = .ok (.iastore, 1) := by decide +kernel
theorem dX11_stroke_29 : decode cX11_stroke 29 = .ok (.aload_n 0, 1) := by decide +kernel
theorem dX11_stroke_30 : decode cX11_stroke 30 = .ok (.aload_n 0, 1) := by decide +kernel
theorem dX11_stroke_31 : decode cX11_stroke 31 = .ok (.getfield 124, 3) := by decide +kernel
theorem dX11_stroke_34 : decode cX11_stroke 34 = .ok (.iconst 1, 1) := by decide +kernel
theorem dX11_stroke_35 : decode cX11_stroke 35 = .ok (.iadd, 1) := by decide +kernel
theorem dX11_stroke_36 : decode cX11_stroke 36 = .ok (.putfield 124, 3) := by decide +kernel
theorem dX11_stroke_39 : decode cX11_stroke 39 = .ok (.aload_n 0, 1) := by decide +kernel
theorem dX11_stroke_40 : decode cX11_stroke 40 = .ok (.getfield 124, 3) := by decide +kernel
theorem dX11_stroke_43 : decode cX11_stroke 43 = .ok (.ireturn, 1) := by decide +kernel
theorem dX11_back_0 : decode cX11_back 0 = .ok (.aload_n 0, 1) := by decide +kernel
theorem dX11_back_1 : decode cX11_back 1 = .ok (.getfield 124, 3) := by decide +kernel
theorem dX11_back_4 : decode cX11_back 4 = .ok (.ifCond .ne 5, 3) := by decide +kernel
theorem dX11_back_7 : decode cX11_back 7 = .ok (.iconst (-1), 1) := by decide +kernel
theorem dX11_back_8 : decode cX11_back 8 = .ok (.ireturn, 1) := by decide +kernel
theorem dX11_back_9 : decode cX11_back 9 = .ok (.aload_n 0, 1) := by decide +kernel
theorem dX11_back_10 : decode cX11_back 10 = .ok (.aload_n 0, 1) := by decide +kernel
theorem dX11_back_11 : decode cX11_back 11 = .ok (.getfield 124, 3) := by decide +kernel
theorem dX11_back_14 : decode cX11_back 14 = .ok (.iconst 1, 1) := by decide +kernel
theorem dX11_back_15 : decode cX11_back 15 = .ok (.isub, 1) := by decide +kernel
theorem dX11_back_16 : decode cX11_back 16 = .ok (.putfield 124, 3) := by decide +kernel
theorem dX11_back_19 : decode cX11_back 19 = .ok (.aload_n 0, 1) := by decide +kernel
theorem dX11_back_20 : decode cX11_back 20 = .ok (.getfield 32, 3) := by decide +kernel
theorem dX11_back_23 : decode cX11_back 23 = .ok (.aload_n 0, 1) := by decide +kernel
theorem dX11_back_24 : decode cX11_back 24 = .ok (.getfield 124, 3) := by decide +kernel
theorem dX11_back_27 : decode cX11_back 27 = .ok (.iaload, 1) := by decide +kernel
theorem dX11_back_28 : decode cX11_back 28 = .ok (.ireturn, 1) := by decide +kernel
set_option maxRecDepth 20000 in
theorem ggX11_correct_X11_isStroke : GoodIn wsX11_correct wsX11_isStroke := goodIn_r _ [6, 7] (by decide +kernel) (by decide +kernel)
set_option maxRecDepth 20000 in
theorem gX11_correct_X11_isStroke : GoodIn wsX11_correct (va_wsS RX11 99 yX11_isStroke wsX11_isStroke) := goodIn_app (goodIn_of _ (by decide +kernel)) ggX11_correct_X11_isStroke
theorem dX11_correct_0 : decode cX11_correct 0 = .ok (.iload_n 1, 1) := by decide +kernel
theorem dX11_correct_1 : decode cX11_correct 1 = .ok (.ifCond .lt 18, 3) := by decide +kernel
theorem dX11_correct_4 : decode cX11_correct 4 = .ok (.iload_n 1, 1) := by decide +kernel
theorem dX11_correct_5 : decode cX11_correct 5 = .ok (.aload_n 0, 1) := by decide +kernel
theorem dX11_correct_6 : decode cX11_correct 6 = .ok (.getfield 124, 3) := by decide +kernel
theorem dX11_correct_9 : decode cX11_correct 9 = .ok (.if_icmp .ge 10, 3) := by decide +kernel
theorem dX11_correct_12 : decode cX11_correct 12 = .ok (.iload_n 2, 1) := by decide +kernel
theorem dX11_correct_13 : decode cX11_correct 13 = .ok (.invokestatic 99, 3) := by decide +kernel
theorem dX11_correct_16 : decode cX11_correct 16 = .ok (.ifCond .ne 5, 3) := by decide +kernel
theorem dX11_correct_19 : decode cX11_correct 19 = .ok (.iconst 0, 1) := by decide +kernel
theorem dX11_correct_20 : decode cX11_correct 20 = .ok (.ireturn, 1) := by decide +kernel
theorem dX11_correct_21 : decode cX11_correct 21 = .ok (.aload_n 0, 1) := by decide +kernel
theorem dX11_correct_22 : decode cX11_correct 22 = .ok (.getfield 32, 3) := by decide +kernel
theorem dX11_correct_25 : decode cX11_correct 25 = .ok (.iload_n 1, 1) := by decide +kernel
theorem dX11_correct_26 : decode cX11_correct 26 = .ok (.iload_n 2, 1) := by decide +kernel
theorem dX11_correct_27 : decode cX11_correct 27 = .ok (.iastore, 1) := by decide +kernel
theorem dX11_correct_28 : decode cX11_correct 28 = .ok (.iconst 1, 1) := by decide +kernel
theorem dX11_correct_29 : decode cX11_correct 29 = .ok (.ireturn, 1) := by decide +kernel
set_option maxRecDepth 20000 in
theorem ggX11_insert_X11_isStroke : GoodIn wsX11_insert wsX11_isStroke := goodIn_r _ [6, 7] (by decide +kernel) (by decide +kernel)
set_option maxRecDepth 20000 in
theorem gX11_insert_X11_isStroke : GoodIn wsX11_insert (va_wsS RX11 99 yX11_isStroke wsX11_isStroke) := goodIn_app (goodIn_of _ (by decide +kernel)) ggX11_insert_X11_isStroke
theorem dX11_insert_0 : decode cX11_insert 0 = .ok (.iload_n 1, 1) := by decide +kernel
theorem dX11_insert_1 : decode cX11_insert 1 = .ok (.ifCond .lt 28, 3) := by decide +kernel
theorem dX11_insert_4 : decode cX11_insert 4 = .ok (.iload_n 1, 1) := by decide +kernel
theorem dX11_insert_5 : decode cX11_insert 5 = .ok (.aload_n 0, 1) := by decide +kernel
theorem dX11_insert_6 : decode cX11_insert 6 = .ok (.getfield 124, 3) := by decide +kernel
theorem dX11_insert_9 : decode cX11_insert 9 = .ok (.if_icmp .gt 20, 3) := by decide +kernel
theorem dX11_insert_12 : decode cX11_insert 12 = .ok (.iload_n 2, 1) := by decide +kernel
theorem dX11_insert_13 : decode cX11_insert 13 = .ok (.invokestatic 99, 3) := by decide +kernel
theorem dX11_insert_16 : decode cX11_insert 16 = .ok (.ifCond .eq 13, 3) := by decide +kernel
theorem dX11_insert_19 : decode cX11_insert 19 = .ok (.aload_n 0, 1) := by decide +kernel
theorem dX11_insert_20 : decode cX11_insert 20 = .ok (.getfield 124, 3) := by decide +kernel
theorem dX11_insert_23 : decode cX11_insert 23 = .ok (.sipush 300, 3) := by decide +kernel
theorem dX11_insert_26 : decode cX11_insert 26 = .ok (.if_icmp .ne 5, 3) := by decide +kernel
theorem dX11_insert_29 : decode cX11_insert 29 = .ok (.iconst 0, 1) := by decide +kernel
theorem dX11_insert_30 : decode cX11_insert 30 = .ok (.ireturn, 1) := by decide +kernel
theorem dX11_insert_31 : decode cX11_insert 31 = .ok (.aload_n 0, 1) := by decide +kernel
theorem dX11_insert_32 : decode cX11_insert 32 = .ok (.getfield 124, 3) := by decide +kernel
theorem dX11_insert_35 : decode cX11_insert 35 = .ok (.istore_n 3, 1) := by decide +kernel
theorem dX11_insert_36 : decode cX11_insert 36 = .ok (.iload_n 3, 1) := by decide +kernel
theorem dX11_insert_37 : decode cX11_insert 37 = .ok (.iload_n 1, 1) := by decide +kernel
theorem dX11_insert_38 : decode cX11_insert 38 = .ok (.if_icmp .le 23, 3) := by decide +kernel
theorem dX11_insert_41 : decode cX11_insert 41 = .ok (.aload_n 0, 1) := by decide +kernel
theorem dX11_insert_42 : decode cX11_insert 42 = .ok (.getfield 32, 3) := by decide +kernel
theorem dX11_insert_45 : decode cX11_insert 45 = .ok (.iload_n 3, 1) := by decide +kernel
theorem dX11_insert_46 : decode cX11_insert 46 = .ok (.aload_n 0, 1) := by decide +kernel
theorem dX11_insert_47 : decode cX11_insert 47 = .ok (.getfield 32, 3) := by decide +kernel
theorem dX11_insert_50 : decode cX11_insert 50 = .ok (.iload_n 3, 1) := by decide +kernel
theorem dX11_insert_51 : decode cX11_insert 51 = .ok (.iconst 1, 1) := by decide +kernel
theorem dX11_insert_52 : decode cX11_insert 52 = .ok (.isub, 1) := by decide +kernel
theorem dX11_insert_53 : decode cX11_insert 53 = .ok (.iaload, 1) := by decide +kernel
theorem dX11_insert_54 : decode cX11_insert 54 = .ok (.iastore, 1) := by decide +kernel
theorem dX11_insert_55 : decode cX11_insert 55 = .ok (.iinc 3 (-1), 3) := by decide +kernel
theorem dX11_insert_58 : decode cX11_insert 58 = .ok (.goto (-22), 3) := by decide +kernel
theorem dX11_insert_61 : decode cX11_insert 61 = .ok (.aload_n 0, 1) := by decide +kernel
theorem dX11_insert_62 : decode cX11_insert 62 = .ok (.getfield 32, 3) := by decide +kernel
theorem dX11_insert_65 : decode cX11_insert 65 = .ok (.iload_n 1, 1) := by decide +kernel
theorem dX11_insert_66 : decode cX11_insert 66 = .ok (.iload_n 2, 1) := by decide +kernel
theorem dX11_insert_67 : decode cX11_insert 67 = .ok (.iastore, 1) := by decide +kernel
theorem dX11_insert_68 : decode cX11_insert 68 = .ok (.aload_n 0, 1) := by decide +kernel
theorem dX11_insert_69 : decode cX11_insert 69 = .ok (.aload_n 0, 1) := by decide +kernel
theorem dX11_insert_70 : decode cX11_insert 70 = .ok (.getfield 124, 3) := by decide +kernel
theorem dX11_insert_73 : decode cX11_insert 73 = .ok (.iconst 1, 1) := by decide +kernel
theorem dX11_insert_74 : decode cX11_insert 74 = .ok (.iadd, 1) := by decide +kernel
theorem dX11_insert_75 : decode cX11_insert 75 = .ok (.putfield 124, 3) := by decide +kernel
theorem dX11_insert_78 : decode cX11_insert 78 = .ok (.iconst 1, 1) := by decide +kernel
theorem dX11_insert_79 : decode cX11_insert 79 = .ok (.ireturn, 1) := by decide +kernel
theorem dX11_cut_0 : decode cX11_cut 0 = .ok (.iload_n 1, 1) := by decide +kernel
theorem dX11_cut_1 : decode cX11_cut 1 = .ok (.ifCond .lt 11, 3) := by decide +kernel
theorem dX11_cut_4 : decode cX11_cut 4 = .ok (.iload_n 1, 1) := by decide +kernel
theorem dX11_cut_5 : decode cX11_cut 5 = .ok (.aload_n 0, 1) := by decide +kernel
theorem dX11_cut_6 : decode cX11_cut 6 = .ok (.getfield 124, 3) := by decide +kernel
theorem dX11_cut_9 : decode cX11_cut 9 = .ok (.if_icmp .lt 5, 3) := by decide +kernel
theorem dX11_cut_12 : decode cX11_cut 12 = .ok (.iconst (-1), 1) := by decide +kernel
theorem dX11_cut_13 : decode cX11_cut 13 = .ok (.ireturn, 1) := by decide +kernel
theorem dX11_cut_14 : decode cX11_cut 14 = .ok (.aload_n 0, 1) := by decide +kernel
theorem dX11_cut_15 : decode cX11_cut 15 = .ok (.getfield 32, 3) := by decide +kernel
theorem dX11_cut_18 : decode cX11_cut 18 = .ok (.iload_n 1, 1) := by decide +kernel
theorem dX11_cut_19 : decode cX11_cut 19 = .ok (.iaload, 1) := by decide +kernel
theorem dX11_cut_20 : decode cX11_cut 20 = .ok (.istore_n 2, 1) := by decide +kernel
theorem dX11_cut_21 : decode cX11_cut 21 = .ok (.aload_n 0, 1) := by decide +kernel
theorem dX11_cut_22 : decode cX11_cut 22 = .ok (.aload_n 0, 1) := by decide +kernel
theorem dX11_cut_23 : decode cX11_cut 23 = .ok (.getfield 124, 3) := by decide +kernel
theorem dX11_cut_26 : decode cX11_cut 26 = .ok (.iconst 1, 1) := by decide +kernel
theorem dX11_cut_27 : decode cX11_cut 27 = .ok (.isub, 1) := by decide +kernel
theorem dX11_cut_28 : decode cX11_cut 28 = .ok (.putfield 124, 3) := by decide +kernel
theorem dX11_cut_31 : decode cX11_cut 31 = .ok (.iload_n 1, 1) := by decide +kernel
theorem dX11_cut_32 : decode cX11_cut 32 = .ok (.istore_n 3, 1) := by decide +kernel
theorem dX11_cut_33 : decode cX11_cut 33 = .ok (.iload_n 3, 1) := by decide +kernel
theorem dX11_cut_34 : decode cX11_cut 34 = .ok (.aload_n 0, 1) := by decide +kernel
theorem dX11_cut_35 : decode cX11_cut 35 = .ok (.getfield 124, 3) := by decide +kernel
theorem dX11_cut_38 : decode cX11_cut 38 = .ok (.if_icmp .ge 23, 3) := by decide +kernel
theorem dX11_cut_41 : decode cX11_cut 41 = .ok (.aload_n 0, 1) := by decide +kernel
theorem dX11_cut_42 : decode cX11_cut 42 = .ok (.getfield 32, 3) := by decide +kernel
theorem dX11_cut_45 : decode cX11_cut 45 = .ok (.iload_n 3, 1) := by decide +kernel
theorem dX11_cut_46 : decode cX11_cut 46 = .ok (.aload_n 0, 1) := by decide +kernel
theorem dX11_cut_47 : decode cX11_cut 47 = .ok (.getfield 32, 3) := by decide +kernel
theorem dX11_cut_50 : decode cX11_cut 50 = .ok (.iload_n 3, 1) := by decide +kernel
theorem dX11_cut_51 : decode cX11_cut 51 = .ok (.iconst 1, 1) := by decide +kernel
theorem dX11_cut_52 : decode cX11_cut 52 = .ok (.iadd, 1) := by decide +kernel
theorem dX11_cut_53 : decode cX11_cut 53 = .ok (.iaload, 1) := by decide +kernel
theorem dX11_cut_54 : decode cX11_cut 54 = .ok (.iastore, 1) := by decide +kernel
theorem dX11_cut_55 : decode cX11_cut 55 = .ok (.iinc 3 1, 3) := by decide +kernel
theorem dX11_cut_58 : decode cX11_cut 58 = .ok (.goto (-25), 3) := by decide +kernel
theorem dX11_cut_61 : decode cX11_cut 61 = .ok (.iload_n 2, 1) := by decide +kernel
theorem dX11_cut_62 : decode cX11_cut 62 = .ok (.ireturn, 1) := by decide +kernel
set_option maxRecDepth 20000 in
theorem ggX11_reads_X11_entryOf : GoodIn wsX11_reads wsX11_entryOf := goodIn_r _ [8, 9, 10, 11, 12, 13, 14, 15, 16, 17, 18, 19, 20, 21, 22, 23, 24, 25, 26, 27, 28, 29, 30, 31, 32, 33, 34, 35, 36, 37, 38, 39, 40, 41, 42, 43, 44, 45, 46, 47, 48, 49, 50, 51, 52, 53, 54] (by decide +kernel) (by decide +kernel)
set_option maxRecDepth 20000 in
theorem gX11_reads_X11_entryOf : GoodIn wsX11_reads (wsV RX11 120 RX11 yX11_entryOf wsX11_entryOf) := goodIn_app (goodIn_of _ (by decide +kernel)) ggX11_reads_X11_entryOf
theorem dX11_reads_0 : decode cX11_reads 0 = .ok (.aload_n 0, 1) := by decide +kernel
theorem dX11_reads_1 : decode cX11_reads 1 = .ok (.iconst 0, 1) := by decide +kernel
theorem dX11_reads_2 : decode cX11_reads 2 = .ok (.putfield 127, 3) := by decide +kernel
theorem dX11_reads_5 : decode cX11_reads 5 = .ok (.aload_n 0, 1) := by decide +kernel
theorem dX11_reads_6 : decode cX11_reads 6 = .ok (.getfield 38, 3) := by decide +kernel
theorem dX11_reads_9 : decode cX11_reads 9 = .ok (.iconst 0, 1) := by decide +kernel
theorem dX11_reads_10 : decode cX11_reads 10 = .ok (.iconst 0, 1) := by decide +kernel
theorem dX11_reads_11 : decode cX11_reads 11 = .ok (.iastore, 1) := by decide +kernel
theorem dX11_reads_12 : decode cX11_reads 12 = .ok (.iconst 0, 1) := by decide +kernel
theorem dX11_reads_13 : decode cX11_reads 13 = .ok (.istore_n 3, 1) := by decide +kernel
theorem dX11_reads_14 : decode cX11_reads 14 = .ok (.iload_n 3, 1) := by decide +kernel
theorem dX11_reads_15 : decode cX11_reads 15 = .ok (.iload_n 2, 1) := by decide +kernel
theorem dX11_reads_16 : decode cX11_reads 16 = .ok (.if_icmp .ge 148, 3) := by decide +kernel
theorem dX11_reads_19 : decode cX11_reads 19 = .ok (.iconst (-1), 1) := by decide +kernel
theorem dX11_reads_20 : decode cX11_reads 20 = .ok (.istore 4, 2) := by decide +kernel
theorem dX11_reads_22 : decode cX11_reads 22 = .ok (.aload_n 0, 1) := by decide +kernel
theorem dX11_reads_23 : decode cX11_reads 23 = .ok (.getfield 127, 3) := by decide +kernel
theorem dX11_reads_26 : decode cX11_reads 26 = .ok (.istore 5, 2) := by decide +kernel
theorem dX11_reads_28 : decode cX11_reads 28 = .ok (.aload_n 0, 1) := by decide +kernel
theorem dX11_reads_29 : decode cX11_reads 29 = .ok (.getfield 127, 3) := by decide +kernel
theorem dX11_reads_32 : decode cX11_reads 32 = .ok (.istore 6, 2) := by decide +kernel
theorem dX11_reads_34 : decode cX11_reads 34 = .ok (.iload 6, 2) := by decide +kernel
theorem dX11_reads_36 : decode cX11_reads 36 = .ok (.ifCond .lt 76, 3) := by decide +kernel
theorem dX11_reads_39 : decode cX11_reads 39 = .ok (.iload 6, 2) := by decide +kernel
theorem dX11_reads_41 : decode cX11_reads 41 = .ok (.aload_n 0, 1) := by decide +kernel
theorem dX11_reads_42 : decode cX11_reads 42 = .ok (.getfield 127, 3) := by decide +kernel
theorem dX11_reads_45 : decode cX11_reads 45 = .ok (.if_icmp .ne 7, 3) := by decide +kernel
theorem dX11_reads_48 : decode cX11_reads 48 = .ok (.iload_n 3, 1) := by decide +kernel
theorem dX11_reads_49 : decode cX11_reads 49 = .ok (.goto 10, 3) := by decide +kernel
theorem dX11_reads_52 : decode cX11_reads 52 = .ok (.aload_n 0, 1) := by decide +kernel
theorem dX11_reads_53 : decode cX11_reads 53 = .ok (.getfield 38, 3) := by decide +kernel
theorem dX11_reads_56 : decode cX11_reads 56 = .ok (.iload 6, 2) := by decide +kernel
theorem dX11_reads_58 : decode cX11_reads 58 = .ok (.iaload, 1) := by decide +kernel
theorem dX11_reads_59 : decode cX11_reads 59 = .ok (.istore 7, 2) := by decide +kernel
theorem dX11_reads_61 : decode cX11_reads 61 = .ok (.iload_n 3, 1) := by decide +kernel
theorem dX11_reads_62 : decode cX11_reads 62 = .ok (.iconst 1, 1) := by decide +kernel
theorem dX11_reads_63 : decode cX11_reads 63 = .ok (.iadd, 1) := by decide +kernel
theorem dX11_reads_64 : decode cX11_reads 64 = .ok (.iload 7, 2) := by decide +kernel
theorem dX11_reads_66 : decode cX11_reads 66 = .ok (.isub, 1) := by decide +kernel
theorem dX11_reads_67 : decode cX11_reads 67 = .ok (.iconst 5, 1) := by decide +kernel
theorem dX11_reads_68 : decode cX11_reads 68 = .ok (.if_icmp .le 6, 3) := by decide +kernel
theorem dX11_reads_71 : decode cX11_reads 71 = .ok (.goto 41, 3) := by decide +kernel
theorem dX11_reads_74 : decode cX11_reads 74 = .ok (.aload_n 0, 1) := by decide +kernel
theorem dX11_reads_75 : decode cX11_reads 75 = .ok (.aload_n 1, 1) := by decide +kernel
theorem dX11_reads_76 : decode cX11_reads 76 = .ok (.iload 7, 2) := by decide +kernel
theorem dX11_reads_78 : decode cX11_reads 78 = .ok (.iload_n 3, 1) := by decide +kernel
theorem dX11_reads_79 : decode cX11_reads 79 = .ok (.iconst 1, 1) := by decide +kernel
theorem dX11_reads_80 : decode cX11_reads 80 = .ok (.iadd, 1) := by decide +kernel
theorem dX11_reads_81 : decode cX11_reads 81 = .ok (.iload 7, 2) := by decide +kernel
theorem dX11_reads_83 : decode cX11_reads 83 = .ok (.isub, 1) := by decide +kernel
theorem dX11_reads_84 : decode cX11_reads 84 = .ok (.invokevirtual 120, 3) := by decide +kernel
theorem dX11_reads_87 : decode cX11_reads 87 = .ok (.istore 8, 2) := by decide +kernel
theorem dX11_reads_89 : decode cX11_reads 89 = .ok (.iload 8, 2) := by decide +kernel
theorem dX11_reads_91 : decode cX11_reads 91 = .ok (.iconst (-1), 1) := by decide +kernel
theorem dX11_reads_92 : decode cX11_reads 92 = .ok (.if_icmp .ne 6, 3) := by decide +kernel
theorem dX11_reads_95 : decode cX11_reads 95 = .ok (.goto 11, 3) := by decide +kernel
theorem dX11_reads_98 : decode cX11_reads 98 = .ok (.iload 8, 2) := by decide +kernel
theorem dX11_reads_100 : decode cX11_reads 100 = .ok (.istore 4, 2) := by decide +kernel
theorem dX11_reads_102 : decode cX11_reads 102 = .ok (.iload 6, 2) := by decide +kernel
theorem dX11_reads_104 : decode cX11_reads 104 = .ok (.istore 5, 2) := by decide +kernel
theorem dX11_reads_106 : decode cX11_reads 106 = .ok (.iinc 6 (-1), 3) := by decide +kernel
theorem dX11_reads_109 : decode cX11_reads 109 = .ok (.goto (-75), 3) := by decide +kernel
theorem dX11_reads_112 : decode cX11_reads 112 = .ok (.iload 5, 2) := by decide +kernel
theorem dX11_reads_114 : decode cX11_reads 114 = .ok (.aload_n 0, 1) := by decide +kernel
theorem dX11_reads_115 : decode cX11_reads 115 = .ok (.getfield 127, 3) := by decide +kernel
theorem dX11_reads_118 : decode cX11_reads 118 = .ok (.if_icmp .ne 11, 3) := by decide +kernel
theorem dX11_reads_121 : decode cX11_reads 121 = .ok (.aload_n 0, 1) := by decide +kernel
theorem dX11_reads_122 : decode cX11_reads 122 = .ok (.getfield 38, 3) := by decide +kernel
theorem dX11_reads_125 : decode cX11_reads 125 = .ok (.iload 5, 2) := by decide +kernel
theorem dX11_reads_127 : decode cX11_reads 127 = .ok (.iload_n 3, 1) := by decide +kernel
theorem dX11_reads_128 : decode cX11_reads 128 = .ok (.iastore, 1) := by decide +kernel
theorem dX11_reads_129 : decode cX11_reads 129 = .ok (.aload_n 0, 1) := by decide +kernel
theorem dX11_reads_130 : decode cX11_reads 130 = .ok (.getfield 35, 3) := by decide +kernel
theorem dX11_reads_133 : decode cX11_reads 133 = .ok (.iload 5, 2) := by decide +kernel
theorem dX11_reads_135 : decode cX11_reads 135 = .ok (.iload 4, 2) := by decide +kernel
theorem dX11_reads_137 : decode cX11_reads 137 = .ok (.iastore, 1) := by decide +kernel
theorem dX11_reads_138 : decode cX11_reads 138 = .ok (.aload_n 0, 1) := by decide +kernel
theorem dX11_reads_139 : decode cX11_reads 139 = .ok (.iload 5, 2) := by decide +kernel
theorem dX11_reads_141 : decode cX11_reads 141 = .ok (.iconst 1, 1) := by decide +kernel
theorem dX11_reads_142 : decode cX11_reads 142 = .ok (.iadd, 1) := by decide +kernel
theorem dX11_reads_143 : decode cX11_reads 143 = .ok (.putfield 127, 3) := by decide +kernel
theorem dX11_reads_146 : decode cX11_reads 146 = .ok (.aload_n 0, 1) := by decide +kernel
theorem dX11_reads_147 : decode cX11_reads 147 = .ok (.getfield 38, 3) := by decide +kernel
theorem dX11_reads_150 : decode cX11_reads 150 = .ok (.aload_n 0, 1) := by decide +kernel
theorem dX11_reads_151 : decode cX11_reads 151 = .ok (.getfield 127, 3) := by decide +kernel
theorem dX11_reads_154 : decode cX11_reads 154 = .ok (.iload_n 3, 1) := by decide +kernel
theorem dX11_reads_155 : decode cX11_reads 155 = .ok (.iconst 1, 1) := by decide +kernel
theorem dX11_reads_156 : decode cX11_reads 156 = .ok (.iadd, 1) := by decide +kernel
theorem dX11_reads_157 : decode cX11_reads 157 = .ok (.iastore, 1) := by decide +kernel
theorem dX11_reads_158 : decode cX11_reads 158 = .ok (.iinc 3 1, 3) := by decide +kernel
theorem dX11_reads_161 : decode cX11_reads 161 = .ok (.goto (-147), 3) := by decide +kernel
theorem dX11_reads_164 : decode cX11_reads 164 = .ok (.return_, 1) := by decide +kernel
theorem dX11_puts_0 : decode cX11_puts 0 = .ok (.aload_n 0, 1) := by decide +kernel
theorem dX11_puts_1 : decode cX11_puts 1 = .ok (.getfield 41, 3) := by decide +kernel
theorem dX11_puts_4 : decode cX11_puts 4 = .ok (.aload_n 0, 1) := by decide +kernel
theorem dX11_puts_5 : decode cX11_puts 5 = .ok (.getfield 130, 3) := by decide +kernel
theorem dX11_puts_8 : decode cX11_puts 8 = .ok (.iload_n 1, 1) := by decide +kernel
theorem dX11_puts_9 : decode cX11_puts 9 = .ok (.i2b, 1) := by decide +kernel
theorem dX11_puts_10 : decode cX11_puts 10 = .ok (.bastore, 1) := by decide +kernel
theorem dX11_puts_11 : decode cX11_puts 11 = .ok (.aload_n 0, 1) := by decide +kernel
theorem dX11_puts_12 : decode cX11_puts 12 = .ok (.aload_n 0, 1) := by decide +kernel
theorem dX11_puts_13 : decode cX11_puts 13 = .ok (.getfield 130, 3) := by decide +kernel
theorem dX11_puts_16 : decode cX11_puts 16 = .ok (.iconst 1, 1) := by decide +kernel
theorem dX11_puts_17 : decode cX11_puts 17 = .ok (.iadd, 1) := by decide +kernel
theorem dX11_puts_18 : decode cX11_puts 18 = .ok (.putfield 130, 3) := by decide +kernel
theorem dX11_puts_21 : decode cX11_puts 21 = .ok (.return_, 1) := by decide +kernel
set_option maxRecDepth 20000 in
theorem ggX11_blank_X11_puts : GoodIn wsX11_blank wsX11_puts := goodIn_r _ [7, 8, 1, 9, 10, 11, 12, 13, 14, 15, 16, 17, 18, 19, 20, 21, 22, 23, 24, 25, 26, 27, 28, 29, 30, 31, 32, 33, 34, 35, 36, 37, 38, 39, 40, 41, 42, 43, 44, 45, 46, 47, 48, 49, 50, 51] (by decide +kernel) (by decide +kernel)
set_option maxRecDepth 20000 in
theorem gX11_blank_X11_puts : GoodIn wsX11_blank (wsV RX11 136 RX11 yX11_puts wsX11_puts) := goodIn_app (goodIn_of _ (by decide +kernel)) ggX11_blank_X11_puts
theorem dX11_blank_0 : decode cX11_blank 0 = .ok (.aload_n 0, 1) := by decide +kernel
theorem dX11_blank_1 : decode cX11_blank 1 = .ok (.getfield 130, 3) := by decide +kernel
theorem dX11_blank_4 : decode cX11_blank 4 = .ok (.ifCond .le 16, 3) := by decide +kernel
theorem dX11_blank_7 : decode cX11_blank 7 = .ok (.aload_n 0, 1) := by decide +kernel
theorem dX11_blank_8 : decode cX11_blank 8 = .ok (.getfield 133, 3) := by decide +kernel
theorem dX11_blank_11 : decode cX11_blank 11 = .ok (.ifCond .ne 9, 3) := by decide +kernel
theorem dX11_blank_14 : decode cX11_blank 14 = .ok (.aload_n 0, 1) := by decide +kernel
theorem dX11_blank_15 : decode cX11_blank 15 = .ok (.bipush 32, 2) := by decide +kernel
theorem dX11_blank_17 : decode cX11_blank 17 = .ok (.invokevirtual 136, 3) := by decide +kernel
theorem dX11_blank_20 : decode cX11_blank 20 = .ok (.aload_n 0, 1) := by decide +kernel
theorem dX11_blank_21 : decode cX11_blank 21 = .ok (.iconst 0, 1) := by decide +kernel
theorem dX11_blank_22 : decode cX11_blank 22 = .ok (.putfield 133, 3) := by decide +kernel
theorem dX11_blank_25 : decode cX11_blank 25 = .ok (.return_, 1) := by decide +kernel
set_option maxRecDepth 20000 in
theorem ggX11_word_X11_blank : GoodIn wsX11_word wsX11_blank := goodIn_r _ [8, 9, 1, 10, 11, 12, 7, 13, 14, 20, 21, 22, 23, 24, 25, 26, 27, 28, 29, 30, 31, 32, 33, 34, 35, 36, 37, 38, 39, 40, 41, 42, 43, 44, 45, 46, 47, 48, 49, 50, 51, 52, 53, 54, 55, 56, 57, 58, 59, 60, 61, 62] (by decide +kernel) (by decide +kernel)
set_option maxRecDepth 20000 in
theorem gX11_word_X11_blank : GoodIn wsX11_word (wsV RX11 139 RX11 yX11_blank wsX11_blank) := goodIn_app (goodIn_of _ (by decide +kernel)) ggX11_word_X11_blank
set_option maxRecDepth 20000 in
theorem ggX11_word_X11_byteOf : GoodIn wsX11_word wsX11_byteOf := goodIn_r _ [18, 19, 20, 21, 22, 23, 24, 25, 26, 27, 28, 29, 30, 31, 32, 33, 34, 35, 36, 37, 38, 39, 40, 41, 42, 43, 44, 45, 46, 47, 48, 49, 50, 51, 52, 53, 54, 55, 56, 57, 58, 59, 60, 61, 62] (by decide +kernel) (by decide +kernel)
set_option maxRecDepth 20000 in
theorem gX11_word_X11_byteOf : GoodIn wsX11_word (wsV RX11 142 RX11 yX11_byteOf wsX11_byteOf) := goodIn_app (goodIn_of _ (by decide +kernel)) ggX11_word_X11_byteOf
set_option maxRecDepth 20000 in
theorem ggX11_word_X11_puts : GoodIn wsX11_word wsX11_puts := goodIn_r _ [13, 14, 9, 20, 21, 22, 23, 24, 25, 26, 27, 28, 29, 30, 31, 32, 33, 34, 35, 36, 37, 38, 39, 40, 41, 42, 43, 44, 45, 46, 47, 48, 49, 50, 51, 52, 53, 54, 55, 56, 57, 58, 59, 60, 61, 62] (by decide +kernel) (by decide +kernel)
set_option maxRecDepth 20000 in
theorem gX11_word_X11_puts : GoodIn wsX11_word (wsV RX11 136 RX11 yX11_puts wsX11_puts) := goodIn_app (goodIn_of _ (by decide +kernel)) ggX11_word_X11_puts
theorem dX11_word_0 : decode cX11_word 0 = .ok (.iload_n 2, 1) := by decide +kernel
theorem dX11_word_1 : decode cX11_word 1 = .ok (.ifCond .eq 7, 3) := by decide +kernel
theorem dX11_word_4 : decode cX11_word 4 = .ok (.aload_n 0, 1) := by decide +kernel
theorem dX11_word_5 : decode cX11_word 5 = .ok (.invokevirtual 139, 3) := by decide +kernel
theorem dX11_word_8 : decode cX11_word 8 = .ok (.aload_n 0, 1) := by decide +kernel
theorem dX11_word_9 : decode cX11_word 9 = .ok (.iconst 0, 1) := by decide +kernel
theorem dX11_word_10 : decode cX11_word 10 = .ok (.putfield 133, 3) := by decide +kernel
theorem dX11_word_13 : decode cX11_word 13 = .ok (.iconst 0, 1) := by decide +kernel
theorem dX11_word_14 : decode cX11_word 14 = .ok (.istore_n 3, 1) := by decide +kernel
theorem dX11_word_15 : decode cX11_word 15 = .ok (.iload_n 3, 1) := by decide +kernel
theorem dX11_word_16 : decode cX11_word 16 = .ok (.aload_n 0, 1) := by decide +kernel
theorem dX11_word_17 : decode cX11_word 17 = .ok (.getfield 23, 3) := by decide +kernel
theorem dX11_word_20 : decode cX11_word 20 = .ok (.iload_n 1, 1) := by decide +kernel
theorem dX11_word_21 : decode cX11_word 21 = .ok (.iaload, 1) := by decide +kernel
theorem dX11_word_22 : decode cX11_word 22 = .ok (.if_icmp .ge 51, 3) := by decide +kernel
theorem dX11_word_25 : decode cX11_word 25 = .ok (.aload_n 0, 1) := by decide +kernel
theorem dX11_word_26 : decode cX11_word 26 = .ok (.iload_n 1, 1) := by decide +kernel
theorem dX11_word_27 : decode cX11_word 27 = .ok (.iload_n 3, 1) := by decide +kernel
theorem dX11_word_28 : decode cX11_word 28 = .ok (.invokevirtual 142, 3) := by decide +kernel
theorem dX11_word_31 : decode cX11_word 31 = .ok (.istore 4, 2) := by decide +kernel
theorem dX11_word_33 : decode cX11_word 33 = .ok (.aload_n 0, 1) := by decide +kernel
theorem dX11_word_34 : decode cX11_word 34 = .ok (.aload_n 0, 1) := by decide +kernel
theorem dX11_word_35 : decode cX11_word 35 = .ok (.getfield 146, 3) := by decide +kernel
theorem dX11_word_38 : decode cX11_word 38 = .ok (.iconst 2, 1) := by decide +kernel
theorem dX11_word_39 : decode cX11_word 39 = .ok (.if_icmp .eq 15, 3) := by decide +kernel
theorem dX11_word_42 : decode cX11_word 42 = .ok (.aload_n 0, 1) := by decide +kernel
theorem dX11_word_43 : decode cX11_word 43 = .ok (.getfield 146, 3) := by decide +kernel
theorem dX11_word_46 : decode cX11_word 46 = .ok (.iconst 1, 1) := by decide +kernel
theorem dX11_word_47 : decode cX11_word 47 = .ok (.if_icmp .ne 15, 3) := by decide +kernel
theorem dX11_word_50 : decode cX11_word 50 = .ok (.iload_n 3, 1) := by decide +kernel
theorem dX11_word_51 : decode cX11_word 51 = .ok (.ifCond .ne 11, 3) := by decide +kernel
theorem dX11_word_54 : decode cX11_word 54 = .ok (.iload 4, 2) := by decide +kernel
theorem dX11_word_56 : decode cX11_word 56 = .ok (.bipush 32, 2) := by decide +kernel
theorem dX11_word_58 : decode cX11_word 58 = .ok (.isub, 1) := by decide +kernel
theorem dX11_word_59 : decode cX11_word 59 = .ok (.goto 5, 3) := by decide +kernel
theorem dX11_word_62 : decode cX11_word 62 = .ok (.iload 4, 2) := by decide +kernel
theorem dX11_word_64 : decode cX11_word 64 = .ok (.invokevirtual 136, 3) := by decide +kernel
theorem dX11_word_67 : decode cX11_word 67 = .ok (.iinc 3 1, 3) := by decide +kernel
theorem dX11_word_70 : decode cX11_word 70 = .ok (.goto (-55), 3) := by decide +kernel
theorem dX11_word_73 : decode cX11_word 73 = .ok (.aload_n 0, 1) := by decide +kernel
theorem dX11_word_74 : decode cX11_word 74 = .ok (.iconst 0, 1) := by decide +kernel
theorem dX11_word_75 : decode cX11_word 75 = .ok (.putfield 146, 3) := by decide +kernel
theorem dX11_word_78 : decode cX11_word 78 = .ok (.return_, 1) := by decide +kernel
theorem dX11_letterOf_0 : decode cX11_letterOf 0 = .ok (.iload_n 0, 1) := by decide +kernel
theorem dX11_letterOf_1 : decode cX11_letterOf 1 = .ok (.tableswitch 150 0 20 #[99, 102, 105, 108, 111, 114, 117, 120, 123, 126, 129, 132, 135, 117, 108, 138, 141, 144, 102, 99, 147], 99) := by decide +kernel
theorem dX11_letterOf_100 : decode cX11_letterOf 100 = .ok (.bipush 83, 2) := by decide +kernel
theorem dX11_letterOf_102 : decode cX11_letterOf 102 = .ok (.ireturn, 1) := by decide +kernel
theorem dX11_letterOf_103 : decode cX11_letterOf 103 = .ok (.bipush 84, 2) := by decide +kernel
theorem dX11_letterOf_105 : decode cX11_letterOf 105 = .ok (.ireturn, 1) := by decide +kernel
theorem dX11_letterOf_106 : decode cX11_letterOf 106 = .ok (.bipush 75, 2) := by decide +kernel
theorem dX11_letterOf_108 : decode cX11_letterOf 108 = .ok (.ireturn, 1) := by decide +kernel
theorem dX11_letterOf_109 : decode cX11_letterOf 109 = .ok (.bipush 80, 2) := by decide +kernel
theorem dX11_letterOf_111 : decode cX11_letterOf 111 = .ok (.ireturn, 1) := by decide +kernel
theorem dX11_letterOf_112 : decode cX11_letterOf 112 = .ok (.bipush 87, 2) := by decide +kernel
theorem dX11_letterOf_114 : decode cX11_letterOf 114 = .ok (.ireturn, 1) := by decide +kernel
theorem dX11_letterOf_115 : decode cX11_letterOf 115 = .ok (.bipush 72, 2) := by decide +kernel
theorem dX11_letterOf_117 : decode cX11_letterOf 117 = .ok (.ireturn, 1) := by decide +kernel
theorem dX11_letterOf_118 : decode cX11_letterOf 118 = .ok (.bipush 82, 2) := by decide +kernel
theorem dX11_letterOf_120 : decode cX11_letterOf 120 = .ok (.ireturn, 1) := by decide +kernel
theorem dX11_letterOf_121 : decode cX11_letterOf 121 = .ok (.bipush 65, 2) := by decide +kernel
theorem dX11_letterOf_123 : decode cX11_letterOf 123 = .ok (.ireturn, 1) := by decide +kernel
theorem dX11_letterOf_124 : decode cX11_letterOf 124 = .ok (.bipush 79, 2) := by decide +kernel
theorem dX11_letterOf_126 : decode cX11_letterOf 126 = .ok (.ireturn, 1) := by decide +kernel
theorem dX11_letterOf_127 : decode cX11_letterOf 127 = .ok (.bipush 42, 2) := by decide +kernel
theorem dX11_letterOf_129 : decode cX11_letterOf 129 = .ok (.ireturn, 1) := by decide +kernel
theorem dX11_letterOf_130 : decode cX11_letterOf 130 = .ok (.bipush 69, 2) := by decide +kernel
theorem dX11_letterOf_132 : decode cX11_letterOf 132 = .ok (.ireturn, 1) := by decide +kernel
theorem dX11_letterOf_133 : decode cX11_letterOf 133 = .ok (.bipush 85, 2) := by decide +kernel
theorem dX11_letterOf_135 : decode cX11_letterOf 135 = .ok (.ireturn, 1) := by decide +kernel
theorem dX11_letterOf_136 : decode cX11_letterOf 136 = .ok (.bipush 70, 2) := by decide +kernel
theorem dX11_letterOf_138 : decode cX11_letterOf 138 = .ok (.ireturn, 1) := by decide +kernel
theorem dX11_letterOf_139 : decode cX11_letterOf 139 = .ok (.bipush 66, 2) := by decide +kernel
theorem dX11_letterOf_141 : decode cX11_letterOf 141 = .ok (.ireturn, 1) := by decide +kernel
theorem dX11_letterOf_142 : decode cX11_letterOf 142 = .ok (.bipush 76, 2) := by decide +kernel
theorem dX11_letterOf_144 : decode cX11_letterOf 144 = .ok (.ireturn, 1) := by decide +kernel
theorem dX11_letterOf_145 : decode cX11_letterOf 145 = .ok (.bipush 71, 2) := by decide +kernel
theorem dX11_letterOf_147 : decode cX11_letterOf 147 = .ok (.ireturn, 1) := by decide +kernel
theorem dX11_letterOf_148 : decode cX11_letterOf 148 = .ok (.bipush 68, 2) := by decide +kernel
theorem dX11_letterOf_150 : decode cX11_letterOf 150 = .ok (.ireturn, 1) := by decide +kernel
theorem dX11_letterOf_151 : decode cX11_letterOf 151 = .ok (.bipush 90, 2) := by decide +kernel
theorem dX11_letterOf_153 : decode cX11_letterOf 153 = .ok (.ireturn, 1) := by decide +kernel
set_option maxRecDepth 20000 in
theorem ggX11_writes_X11_letterOf : GoodIn wsX11_writes wsX11_letterOf := goodIn_r _ [6] (by decide +kernel) (by decide +kernel)
set_option maxRecDepth 20000 in
theorem gX11_writes_X11_letterOf : GoodIn wsX11_writes (va_wsS RX11 152 yX11_letterOf wsX11_letterOf) := goodIn_app (goodIn_of _ (by decide +kernel)) ggX11_writes_X11_letterOf
theorem dX11_writes_0 : decode cX11_writes 0 = .ok (.aload_n 0, 1) := by decide +kernel
theorem dX11_writes_1 : decode cX11_writes 1 = .ok (.iconst 0, 1) := by decide +kernel
theorem dX11_writes_2 : decode cX11_writes 2 = .ok (.putfield 149, 3) := by decide +kernel
theorem dX11_writes_5 : decode cX11_writes 5 = .ok (.iload_n 1, 1) := by decide +kernel
theorem dX11_writes_6 : decode cX11_writes 6 = .ok (.sipush 3968, 3) := by decide +kernel
theorem dX11_writes_9 : decode cX11_writes 9 = .ok (.iand, 1) := by decide +kernel
theorem dX11_writes_10 : decode cX11_writes 10 = .ok (.ifCond .eq 7, 3) := by decide +kernel
theorem dX11_writes_13 : decode cX11_writes 13 = .ok (.iconst 1, 1) := by decide +kernel
theorem dX11_writes_14 : decode cX11_writes 14 = .ok (.goto 4, 3) := by decide +kernel
theorem dX11_writes_17 : decode cX11_writes 17 = .ok (.iconst 0, 1) := by decide +kernel
theorem dX11_writes_18 : decode cX11_writes 18 = .ok (.istore_n 2, 1) := by decide +kernel
theorem dX11_writes_19 : decode cX11_writes 19 = .ok (.iload_n 1, 1) := by decide +kernel
theorem dX11_writes_20 : decode cX11_writes 20 = .ok (.bipush 12, 2) := by decide +kernel
theorem dX11_writes_22 : decode cX11_writes 22 = .ok (.ishr, 1) := by decide +kernel
theorem dX11_writes_23 : decode cX11_writes 23 = .ok (.ifCond .eq 7, 3) := by decide +kernel
theorem dX11_writes_26 : decode cX11_writes 26 = .ok (.iconst 1, 1) := by decide +kernel
theorem dX11_writes_27 : decode cX11_writes 27 = .ok (.goto 4, 3) := by decide +kernel
theorem dX11_writes_30 : decode cX11_writes 30 = .ok (.iconst 0, 1) := by decide +kernel
theorem dX11_writes_31 : decode cX11_writes 31 = .ok (.istore_n 3, 1) := by decide +kernel
theorem dX11_writes_32 : decode cX11_writes 32 = .ok (.iconst 0, 1) := by decide +kernel
theorem dX11_writes_33 : decode cX11_writes 33 = .ok (.istore 4, 2) := by decide +kernel
theorem dX11_writes_35 : decode cX11_writes 35 = .ok (.iload 4, 2) := by decide +kernel
theorem dX11_writes_37 : decode cX11_writes 37 = .ok (.bipush 22, 2) := by decide +kernel
theorem dX11_writes_39 : decode cX11_writes 39 = .ok (.if_icmp .ge 82, 3) := by decide +kernel
theorem dX11_writes_42 : decode cX11_writes 42 = .ok (.iload 4, 2) := by decide +kernel
theorem dX11_writes_44 : decode cX11_writes 44 = .ok (.bipush 12, 2) := by decide +kernel
theorem dX11_writes_46 : decode cX11_writes 46 = .ok (.if_icmp .ne 32, 3) := by decide +kernel
theorem dX11_writes_49 : decode cX11_writes 49 = .ok (.iload_n 3, 1) := by decide +kernel
theorem dX11_writes_50 : decode cX11_writes 50 = .ok (.ifCond .eq 28, 3) := by decide +kernel
theorem dX11_writes_53 : decode cX11_writes 53 = .ok (.iload_n 2, 1) := by decide +kernel
theorem dX11_writes_54 : decode cX11_writes 54 = .ok (.ifCond .ne 24, 3) := by decide +kernel
theorem dX11_writes_57 : decode cX11_writes 57 = .ok (.aload_n 0, 1) := by decide +kernel
theorem dX11_writes_58 : decode cX11_writes 58 = .ok (.getfield 50, 3) := by decide +kernel
theorem dX11_writes_61 : decode cX11_writes 61 = .ok (.aload_n 0, 1) := by decide +kernel
theorem dX11_writes_62 : decode cX11_writes 62 = .ok (.getfield 149, 3) := by decide +kernel
theorem dX11_writes_65 : decode cX11_writes 65 = .ok (.bipush 45, 2) := by decide +kernel
theorem dX11_writes_67 : decode cX11_writes 67 = .ok (.bastore, 1) := by decide +kernel
theorem dX11_writes_68 : decode cX11_writes 68 = .ok (.aload_n 0, 1) := by decide +kernel
theorem dX11_writes_69 : decode cX11_writes 69 = .ok (.aload_n 0, 1) := by decide +kernel
theorem dX11_writes_70 : decode cX11_writes 70 = .ok (.getfield 149, 3) := by decide +kernel
theorem dX11_writes_73 : decode cX11_writes 73 = .ok (.iconst 1, 1) := by decide +kernel
theorem dX11_writes_74 : decode cX11_writes 74 = .ok (.iadd, 1) := by decide +kernel
theorem dX11_writes_75 : decode cX11_writes 75 = .ok (.putfield 149, 3) := by decide +kernel
theorem dX11_writes_78 : decode cX11_writes 78 = .ok (.iload_n 1, 1) := by decide +kernel
theorem dX11_writes_79 : decode cX11_writes 79 = .ok (.iload 4, 2) := by decide +kernel
theorem dX11_writes_81 : decode cX11_writes 81 = .ok (.ishr, 1) := by decide +kernel
theorem dX11_writes_82 : decode cX11_writes 82 = .ok (.iconst 1, 1) := by decide +kernel
theorem dX11_writes_83 : decode cX11_writes 83 = .ok (.iand, 1) := by decide +kernel
theorem dX11_writes_84 : decode cX11_writes 84 = .ok (.ifCond .ne 6, 3) := by decide +kernel
theorem dX11_writes_87 : decode cX11_writes 87 = .ok (.goto 28, 3) := by decide +kernel
theorem dX11_writes_90 : decode cX11_writes 90 = .ok (.aload_n 0, 1) := by decide +kernel
theorem dX11_writes_91 : decode cX11_writes 91 = .ok (.getfield 50, 3) := by decide +kernel
theorem dX11_writes_94 : decode cX11_writes 94 = .ok (.aload_n 0, 1) := by decide +kernel
theorem dX11_writes_95 : decode cX11_writes 95 = .ok (.getfield 149, 3) := by decide +kernel
theorem dX11_writes_98 : decode cX11_writes 98 = .ok (.iload 4, 2) := by decide +kernel
theorem dX11_writes_100 : decode cX11_writes 100 = .ok (.invokestatic 152, 3) := by decide +kernel
theorem dX11_writes_103 : decode cX11_writes 103 = .ok (.i2b, 1) := by decide +kernel
theorem dX11_writes_104 : decode cX11_writes 104 = .ok (.bastore, 1) := by decide +kernel
theorem dX11_writes_105 : decode cX11_writes 105 = .ok (.aload_n 0, 1) := by decide +kernel
theorem dX11_writes_106 : decode cX11_writes 106 = .ok (.aload_n 0, 1) := by decide +kernel
theorem dX11_writes_107 : decode cX11_writes 107 = .ok (.getfield 149, 3) := by decide +kernel
theorem dX11_writes_110 : decode cX11_writes 110 = .ok (.iconst 1, 1) := by decide +kernel
theorem dX11_writes_111 : decode cX11_writes 111 = .ok (.iadd, 1) := by decide +kernel
theorem dX11_writes_112 : decode cX11_writes 112 = .ok (.putfield 149, 3) := by decide +kernel
theorem dX11_writes_115 : decode cX11_writes 115 = .ok (.iinc 4 1, 3) := by decide +kernel
theorem dX11_writes_118 : decode cX11_writes 118 = .ok (.goto (-83), 3) := by decide +kernel
theorem dX11_writes_121 : decode cX11_writes 121 = .ok (.return_, 1) := by decide +kernel
set_option maxRecDepth 20000 in
theorem ggX11_isLetter_X11_isSmall : GoodIn wsX11_isLetter wsX11_isSmall := goodIn_r _ [4] (by decide +kernel) (by decide +kernel)
set_option maxRecDepth 20000 in
theorem gX11_isLetter_X11_isSmall : GoodIn wsX11_isLetter (va_wsS RX11 95 yX11_isSmall wsX11_isSmall) := goodIn_app (goodIn_of _ (by decide +kernel)) ggX11_isLetter_X11_isSmall
theorem dX11_isLetter_0 : decode cX11_isLetter 0 = .ok (.iload_n 0, 1) := by decide +kernel
theorem dX11_isLetter_1 : decode cX11_isLetter 1 = .ok (.invokestatic 95, 3) := by decide +kernel
theorem dX11_isLetter_4 : decode cX11_isLetter 4 = .ok (.ifCond .ne 15, 3) := by decide +kernel
theorem dX11_isLetter_7 : decode cX11_isLetter 7 = .ok (.iload_n 0, 1) := by decide +kernel
theorem dX11_isLetter_8 : decode cX11_isLetter 8 = .ok (.bipush 65, 2) := by decide +kernel
theorem dX11_isLetter_10 : decode cX11_isLetter 10 = .ok (.if_icmp .lt 13, 3) := by decide +kernel
theorem dX11_isLetter_13 : decode cX11_isLetter 13 = .ok (.iload_n 0, 1) := by decide +kernel
theorem dX11_isLetter_14 : decode cX11_isLetter 14 = .ok (.bipush 90, 2) := by decide +kernel
theorem dX11_isLetter_16 : decode cX11_isLetter 16 = .ok (.if_icmp .gt 7, 3) := by decide +kernel
theorem dX11_isLetter_19 : decode cX11_isLetter 19 = .ok (.iconst 1, 1) := by decide +kernel
theorem dX11_isLetter_20 : decode cX11_isLetter 20 = .ok (.goto 4, 3) := by decide +kernel
theorem dX11_isLetter_23 : decode cX11_isLetter 23 = .ok (.iconst 0, 1) := by decide +kernel
theorem dX11_isLetter_24 : decode cX11_isLetter 24 = .ok (.ireturn, 1) := by decide +kernel
theorem dX11_small_0 : decode cX11_small 0 = .ok (.iload_n 0, 1) := by decide +kernel
theorem dX11_small_1 : decode cX11_small 1 = .ok (.bipush 65, 2) := by decide +kernel
theorem dX11_small_3 : decode cX11_small 3 = .ok (.if_icmp .lt 16, 3) := by decide +kernel
theorem dX11_small_6 : decode cX11_small 6 = .ok (.iload_n 0, 1) := by decide +kernel
theorem dX11_small_7 : decode cX11_small 7 = .ok (.bipush 90, 2) := by decide +kernel
theorem dX11_small_9 : decode cX11_small 9 = .ok (.if_icmp .gt 10, 3) := by decide +kernel
theorem dX11_small_12 : decode cX11_small 12 = .ok (.iload_n 0, 1) := by decide +kernel
theorem dX11_small_13 : decode cX11_small 13 = .ok (.bipush 32, 2) := by decide +kernel
theorem dX11_small_15 : decode cX11_small 15 = .ok (.iadd, 1) := by decide +kernel
theorem dX11_small_16 : decode cX11_small 16 = .ok (.goto 4, 3) := by decide +kernel
theorem dX11_small_19 : decode cX11_small 19 = .ok (.iload_n 0, 1) := by decide +kernel
theorem dX11_small_20 : decode cX11_small 20 = .ok (.ireturn, 1) := by decide +kernel
theorem dX11_isVowel_0 : decode cX11_isVowel 0 = .ok (.iload_n 0, 1) := by decide +kernel
theorem dX11_isVowel_1 : decode cX11_isVowel 1 = .ok (.bipush 97, 2) := by decide +kernel
theorem dX11_isVowel_3 : decode cX11_isVowel 3 = .ok (.if_icmp .eq 27, 3) := by decide +kernel
theorem dX11_isVowel_6 : decode cX11_isVowel 6 = .ok (.iload_n 0, 1) := by decide +kernel
theorem dX11_isVowel_7 : decode cX11_isVowel 7 = .ok (.bipush 101, 2) := by decide +kernel
theorem dX11_isVowel_9 : decode cX11_isVowel 9 = .ok (.if_icmp .eq 21, 3) := by decide +kernel
theorem dX11_isVowel_12 : decode cX11_isVowel 12 = .ok (.iload_n 0, 1) := by decide +kernel
theorem dX11_isVowel_13 : decode cX11_isVowel 13 = .ok (.bipush 105, 2) := by decide +kernel
theorem dX11_isVowel_15 : decode cX11_isVowel 15 = .ok (.if_icmp .eq 15, 3) := by decide +kernel
theorem dX11_isVowel_18 : decode cX11_isVowel 18 = .ok (.iload_n 0, 1) := by decide +kernel
theorem dX11_isVowel_19 : decode cX11_isVowel 19 = .ok (.bipush 111, 2) := by decide +kernel
theorem dX11_isVowel_21 : decode cX11_isVowel 21 = .ok (.if_icmp .eq 9, 3) := by decide +kernel
theorem dX11_isVowel_24 : decode cX11_isVowel 24 = .ok (.iload_n 0, 1) := by decide +kernel
theorem dX11_isVowel_25 : decode cX11_isVowel 25 = .ok (.bipush 117, 2) := by decide +kernel
theorem dX11_isVowel_27 : decode cX11_isVowel 27 = .ok (.if_icmp .ne 7, 3) := by decide +kernel
theorem dX11_isVowel_30 : decode cX11_isVowel 30 = .ok (.iconst 1, 1) := by decide +kernel
theorem dX11_isVowel_31 : decode cX11_isVowel 31 = .ok (.goto 4, 3) := by decide +kernel
theorem dX11_isVowel_34 : decode cX11_isVowel 34 = .ok (.iconst 0, 1) := by decide +kernel
theorem dX11_isVowel_35 : decode cX11_isVowel 35 = .ok (.ireturn, 1) := by decide +kernel
set_option maxRecDepth 20000 in
theorem ggX11_last_X11_small : GoodIn wsX11_last wsX11_small := goodIn_r _ [7] (by decide +kernel) (by decide +kernel)
set_option maxRecDepth 20000 in
theorem gX11_last_X11_small : GoodIn wsX11_last (va_wsS RX11 159 yX11_small wsX11_small) := goodIn_app (goodIn_of _ (by decide +kernel)) ggX11_last_X11_small
theorem dX11_last_0 : decode cX11_last 0 = .ok (.iload_n 1, 1) := by decide +kernel
theorem dX11_last_1 : decode cX11_last 1 = .ok (.aload_n 0, 1) := by decide +kernel
theorem dX11_last_2 : decode cX11_last 2 = .ok (.getfield 156, 3) := by decide +kernel
theorem dX11_last_5 : decode cX11_last 5 = .ok (.if_icmp .ge 26, 3) := by decide +kernel
theorem dX11_last_8 : decode cX11_last 8 = .ok (.aload_n 0, 1) := by decide +kernel
theorem dX11_last_9 : decode cX11_last 9 = .ok (.getfield 41, 3) := by decide +kernel
theorem dX11_last_12 : decode cX11_last 12 = .ok (.aload_n 0, 1) := by decide +kernel
theorem dX11_last_13 : decode cX11_last 13 = .ok (.getfield 130, 3) := by decide +kernel
theorem dX11_last_16 : decode cX11_last 16 = .ok (.iconst 1, 1) := by decide +kernel
theorem dX11_last_17 : decode cX11_last 17 = .ok (.isub, 1) := by decide +kernel
theorem dX11_last_18 : decode cX11_last 18 = .ok (.iload_n 1, 1) := by decide +kernel
theorem dX11_last_19 : decode cX11_last 19 = .ok (.isub, 1) := by decide +kernel
theorem dX11_last_20 : decode cX11_last 20 = .ok (.baload, 1) := by decide +kernel
theorem dX11_last_21 : decode cX11_last 21 = .ok (.sipush 255, 3) := by decide +kernel
theorem dX11_last_24 : decode cX11_last 24 = .ok (.iand, 1) := by decide +kernel
theorem dX11_last_25 : decode cX11_last 25 = .ok (.invokestatic 159, 3) := by decide +kernel
theorem dX11_last_28 : decode cX11_last 28 = .ok (.goto 4, 3) := by decide +kernel
theorem dX11_last_31 : decode cX11_last 31 = .ok (.iconst 0, 1) := by decide +kernel
theorem dX11_last_32 : decode cX11_last 32 = .ok (.ireturn, 1) := by decide +kernel
set_option maxRecDepth 20000 in
theorem ggX11_ruleOf_X11_byteOf : GoodIn wsX11_ruleOf wsX11_byteOf := goodIn_r _ [7, 8, 21, 22, 23, 24, 25, 26, 27, 28, 29, 30, 31, 32, 33, 34, 35, 36, 37, 38, 39, 40, 41, 42, 43, 44, 45, 46, 47, 48, 49, 50, 51, 52, 53, 54, 55, 56, 57, 58, 59, 60, 61, 62, 63] (by decide +kernel) (by decide +kernel)
set_option maxRecDepth 20000 in
theorem gX11_ruleOf_X11_byteOf : GoodIn wsX11_ruleOf (wsV RX11 142 RX11 yX11_byteOf wsX11_byteOf) := goodIn_app (goodIn_of _ (by decide +kernel)) ggX11_ruleOf_X11_byteOf
set_option maxRecDepth 20000 in
theorem ggX11_ruleOf_X11_isVowel : GoodIn wsX11_ruleOf wsX11_isVowel := goodIn_r _ [11] (by decide +kernel) (by decide +kernel)
set_option maxRecDepth 20000 in
theorem gX11_ruleOf_X11_isVowel : GoodIn wsX11_ruleOf (va_wsS RX11 162 yX11_isVowel wsX11_isVowel) := goodIn_app (goodIn_of _ (by decide +kernel)) ggX11_ruleOf_X11_isVowel
set_option maxRecDepth 20000 in
theorem ggX11_ruleOf_X11_last : GoodIn wsX11_ruleOf wsX11_last := goodIn_r _ [15, 2, 16, 17, 18, 19, 6, 20, 21, 22, 23, 24, 25, 26, 27, 28, 29, 30, 31, 32, 33, 34, 35, 36, 37, 38, 39, 40, 41, 42, 43, 44, 45, 46, 47, 48, 49, 50, 51, 52, 53, 54, 55, 56, 57, 58, 59, 60, 61, 62, 63] (by decide +kernel) (by decide +kernel)
set_option maxRecDepth 20000 in
theorem gX11_ruleOf_X11_last : GoodIn wsX11_ruleOf (wsV RX11 165 RX11 yX11_last wsX11_last) := goodIn_app (goodIn_of _ (by decide +kernel)) ggX11_ruleOf_X11_last
theorem dX11_ruleOf_0 : decode cX11_ruleOf 0 = .ok (.aload_n 0, 1) := by decide +kernel
theorem dX11_ruleOf_1 : decode cX11_ruleOf 1 = .ok (.getfield 23, 3) := by decide +kernel
theorem dX11_ruleOf_4 : decode cX11_ruleOf 4 = .ok (.iload_n 1, 1) := by decide +kernel
theorem dX11_ruleOf_5 : decode cX11_ruleOf 5 = .ok (.iaload, 1) := by decide +kernel
theorem dX11_ruleOf_6 : decode cX11_ruleOf 6 = .ok (.iconst 1, 1) := by decide +kernel
theorem dX11_ruleOf_7 : decode cX11_ruleOf 7 = .ok (.if_icmp .ne 18, 3) := by decide +kernel
theorem dX11_ruleOf_10 : decode cX11_ruleOf 10 = .ok (.aload_n 0, 1) := by decide +kernel
theorem dX11_ruleOf_11 : decode cX11_ruleOf 11 = .ok (.iload_n 1, 1) := by decide +kernel
theorem dX11_ruleOf_12 : decode cX11_ruleOf 12 = .ok (.iconst 0, 1) := by decide +kernel
theorem dX11_ruleOf_13 : decode cX11_ruleOf 13 = .ok (.invokevirtual 142, 3) := by decide +kernel
theorem dX11_ruleOf_16 : decode cX11_ruleOf 16 = .ok (.bipush 115, 2) := by decide +kernel
theorem dX11_ruleOf_18 : decode cX11_ruleOf 18 = .ok (.if_icmp .ne 7, 3) := by decide +kernel
theorem dX11_ruleOf_21 : decode cX11_ruleOf 21 = .ok (.iconst 1, 1) := by decide +kernel
theorem dX11_ruleOf_22 : decode cX11_ruleOf 22 = .ok (.goto 4, 3) := by decide +kernel
theorem dX11_ruleOf_25 : decode cX11_ruleOf 25 = .ok (.iconst 0, 1) := by decide +kernel
theorem dX11_ruleOf_26 : decode cX11_ruleOf 26 = .ok (.istore_n 2, 1) := by decide +kernel
theorem dX11_ruleOf_27 : decode cX11_ruleOf 27 = .ok (.aload_n 0, 1) := by decide +kernel
theorem dX11_ruleOf_28 : decode cX11_ruleOf 28 = .ok (.iload_n 1, 1) := by decide +kernel
theorem dX11_ruleOf_29 : decode cX11_ruleOf 29 = .ok (.iconst 0, 1) := by decide +kernel
theorem dX11_ruleOf_30 : decode cX11_ruleOf 30 = .ok (.invokevirtual 142, 3) := by decide +kernel
theorem dX11_ruleOf_33 : decode cX11_ruleOf 33 = .ok (.invokestatic 162, 3) := by decide +kernel
theorem dX11_ruleOf_36 : decode cX11_ruleOf 36 = .ok (.istore_n 3, 1) := by decide +kernel
theorem dX11_ruleOf_37 : decode cX11_ruleOf 37 = .ok (.aload_n 0, 1) := by decide +kernel
theorem dX11_ruleOf_38 : decode cX11_ruleOf 38 = .ok (.iconst 0, 1) := by decide +kernel
theorem dX11_ruleOf_39 : decode cX11_ruleOf 39 = .ok (.invokevirtual 165, 3) := by decide +kernel
theorem dX11_ruleOf_42 : decode cX11_ruleOf 42 = .ok (.istore 4, 2) := by decide +kernel
theorem dX11_ruleOf_44 : decode cX11_ruleOf 44 = .ok (.aload_n 0, 1) := by decide +kernel
theorem dX11_ruleOf_45 : decode cX11_ruleOf 45 = .ok (.iconst 1, 1) := by decide +kernel
theorem dX11_ruleOf_46 : decode cX11_ruleOf 46 = .ok (.invokevirtual 165, 3) := by decide +kernel
theorem dX11_ruleOf_49 : decode cX11_ruleOf 49 = .ok (.istore 5, 2) := by decide +kernel
theorem dX11_ruleOf_51 : decode cX11_ruleOf 51 = .ok (.aload_n 0, 1) := by decide +kernel
theorem dX11_ruleOf_52 : decode cX11_ruleOf 52 = .ok (.getfield 156, 3) := by decide +kernel
theorem dX11_ruleOf_55 : decode cX11_ruleOf 55 = .ok (.iconst 2, 1) := by decide +kernel
theorem dX11_ruleOf_56 : decode cX11_ruleOf 56 = .ok (.if_icmp .lt 31, 3) := by decide +kernel
theorem dX11_ruleOf_59 : decode cX11_ruleOf 59 = .ok (.iload 4, 2) := by decide +kernel
theorem dX11_ruleOf_61 : decode cX11_ruleOf 61 = .ok (.bipush 121, 2) := by decide +kernel
theorem dX11_ruleOf_63 : decode cX11_ruleOf 63 = .ok (.if_icmp .ne 24, 3) := by decide +kernel
theorem dX11_ruleOf_66 : decode cX11_ruleOf 66 = .ok (.iload 5, 2) := by decide +kernel
theorem dX11_ruleOf_68 : decode cX11_ruleOf 68 = .ok (.invokestatic 162, 3) := by decide +kernel
theorem dX11_ruleOf_71 : decode cX11_ruleOf 71 = .ok (.ifCond .ne 16, 3) := by decide +kernel
theorem dX11_ruleOf_74 : decode cX11_ruleOf 74 = .ok (.aload_n 0, 1) := by decide +kernel
theorem dX11_ruleOf_75 : decode cX11_ruleOf 75 = .ok (.iload_n 1, 1) := by decide +kernel
theorem dX11_ruleOf_76 : decode cX11_ruleOf 76 = .ok (.iconst 0, 1) := by decide +kernel
theorem dX11_ruleOf_77 : decode cX11_ruleOf 77 = .ok (.invokevirtual 142, 3) := by decide +kernel
theorem dX11_ruleOf_80 : decode cX11_ruleOf 80 = .ok (.bipush 105, 2) := by decide +kernel
theorem dX11_ruleOf_82 : decode cX11_ruleOf 82 = .ok (.if_icmp .eq 5, 3) := by decide +kernel
theorem dX11_ruleOf_85 : decode cX11_ruleOf 85 = .ok (.iconst 1, 1) := by decide +kernel
theorem dX11_ruleOf_86 : decode cX11_ruleOf 86 = .ok (.ireturn, 1) := by decide +kernel
theorem dX11_ruleOf_87 : decode cX11_ruleOf 87 = .ok (.iload 4, 2) := by decide +kernel
theorem dX11_ruleOf_89 : decode cX11_ruleOf 89 = .ok (.bipush 115, 2) := by decide +kernel
theorem dX11_ruleOf_91 : decode cX11_ruleOf 91 = .ok (.if_icmp .eq 38, 3) := by decide +kernel
theorem dX11_ruleOf_94 : decode cX11_ruleOf 94 = .ok (.iload 4, 2) := by decide +kernel
theorem dX11_ruleOf_96 : decode cX11_ruleOf 96 = .ok (.bipush 120, 2) := by decide +kernel
theorem dX11_ruleOf_98 : decode cX11_ruleOf 98 = .ok (.if_icmp .eq 31, 3) := by decide +kernel
theorem dX11_ruleOf_101 : decode cX11_ruleOf 101 = .ok (.iload 4, 2) := by decide +kernel
