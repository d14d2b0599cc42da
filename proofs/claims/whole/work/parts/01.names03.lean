theorem dX5_draftWord_64 : decode cX5_draftWord 64 = .ok (.iconst 0, 1) := by decide +kernel
theorem dX5_draftWord_65 : decode cX5_draftWord 65 = .ok (.ireturn, 1) := by decide +kernel
theorem dX5_draftWord_66 : decode cX5_draftWord 66 = .ok (.iload 6, 2) := by decide +kernel
theorem dX5_draftWord_68 : decode cX5_draftWord 68 = .ok (.iload 5, 2) := by decide +kernel
theorem dX5_draftWord_70 : decode cX5_draftWord 70 = .ok (.if_icmp .ne 28, 3) := by decide +kernel
theorem dX5_draftWord_73 : decode cX5_draftWord 73 = .ok (.aload_n 0, 1) := by decide +kernel
theorem dX5_draftWord_74 : decode cX5_draftWord 74 = .ok (.aload_n 0, 1) := by decide +kernel
theorem dX5_draftWord_75 : decode cX5_draftWord 75 = .ok (.getfield 47, 3) := by decide +kernel
theorem dX5_draftWord_78 : decode cX5_draftWord 78 = .ok (.invokevirtual 113, 3) := by decide +kernel
theorem dX5_draftWord_81 : decode cX5_draftWord 81 = .ok (.invokevirtual 116, 3) := by decide +kernel
theorem dX5_draftWord_84 : decode cX5_draftWord 84 = .ok (.aload_n 0, 1) := by decide +kernel
theorem dX5_draftWord_85 : decode cX5_draftWord 85 = .ok (.aload_n 0, 1) := by decide +kernel
theorem dX5_draftWord_86 : decode cX5_draftWord 86 = .ok (.getfield 47, 3) := by decide +kernel
theorem dX5_draftWord_89 : decode cX5_draftWord 89 = .ok (.invokevirtual 120, 3) := by decide +kernel
theorem dX5_draftWord_92 : decode cX5_draftWord 92 = .ok (.invokevirtual 116, 3) := by decide +kernel
theorem dX5_draftWord_95 : decode cX5_draftWord 95 = .ok (.goto 26, 3) := by decide +kernel
theorem dX5_draftWord_98 : decode cX5_draftWord 98 = .ok (.aload_n 0, 1) := by decide +kernel
theorem dX5_draftWord_99 : decode cX5_draftWord 99 = .ok (.iload 6, 2) := by decide +kernel
theorem dX5_draftWord_101 : decode cX5_draftWord 101 = .ok (.iload_n 3, 1) := by decide +kernel
theorem dX5_draftWord_102 : decode cX5_draftWord 102 = .ok (.if_icmp .ne 10, 3) := by decide +kernel
theorem dX5_draftWord_105 : decode cX5_draftWord 105 = .ok (.aload_n 0, 1) := by decide +kernel
theorem dX5_draftWord_106 : decode cX5_draftWord 106 = .ok (.getfield 35, 3) := by decide +kernel
theorem dX5_draftWord_109 : decode cX5_draftWord 109 = .ok (.goto 7, 3) := by decide +kernel
theorem dX5_draftWord_112 : decode cX5_draftWord 112 = .ok (.aload_n 0, 1) := by decide +kernel
theorem dX5_draftWord_113 : decode cX5_draftWord 113 = .ok (.getfield 39, 3) := by decide +kernel
theorem dX5_draftWord_116 : decode cX5_draftWord 116 = .ok (.iload_n 1, 1) := by decide +kernel
theorem dX5_draftWord_117 : decode cX5_draftWord 117 = .ok (.iload_n 2, 1) := by decide +kernel
theorem dX5_draftWord_118 : decode cX5_draftWord 118 = .ok (.invokevirtual 123, 3) := by decide +kernel
theorem dX5_draftWord_121 : decode cX5_draftWord 121 = .ok (.iconst 1, 1) := by decide +kernel
theorem dX5_draftWord_122 : decode cX5_draftWord 122 = .ok (.ireturn, 1) := by decide +kernel
set_option maxRecDepth 20000 in
theorem ggX5_draftChain_X1_pickAt : GoodIn wsX5_draftChain wsX1_pickAt := goodIn_r _ [6, 7, 35, 36, 37, 38, 39] (by decide +kernel) (by decide +kernel)
set_option maxRecDepth 20000 in
theorem gX5_draftChain_X1_pickAt : GoodIn wsX5_draftChain (wsV RX5 127 RX1 yX1_pickAt wsX1_pickAt) := goodIn_app (goodIn_of _ (by decide +kernel)) ggX5_draftChain_X1_pickAt
set_option maxRecDepth 20000 in
theorem ggX5_draftChain_X5_draftEntry : GoodIn wsX5_draftChain wsX5_draftEntry := goodIn_r _ [12, 13, 14, 22, 23, 24, 25, 26, 27, 28, 29, 30, 31, 32, 33, 34] (by decide +kernel) (by decide +kernel)
set_option maxRecDepth 20000 in
theorem gX5_draftChain_X5_draftEntry : GoodIn wsX5_draftChain (wsV RX5 116 RX5 yX5_draftEntry wsX5_draftEntry) := goodIn_app (goodIn_of _ (by decide +kernel)) ggX5_draftChain_X5_draftEntry
set_option maxRecDepth 20000 in
theorem ggX5_draftChain_X0_lengthOf : GoodIn wsX5_draftChain wsX0_lengthOf := goodIn_r _ [19, 20, 21, 40, 41, 42, 43, 44, 45] (by decide +kernel) (by decide +kernel)
set_option maxRecDepth 20000 in
theorem gX5_draftChain_X0_lengthOf : GoodIn wsX5_draftChain (wsV RX5 130 RX0 yX0_lengthOf wsX0_lengthOf) := goodIn_app (goodIn_of _ (by decide +kernel)) ggX5_draftChain_X0_lengthOf
theorem dX5_draftChain_0 : decode cX5_draftChain 0 = .ok (.iload_n 2, 1) := by decide +kernel
theorem dX5_draftChain_1 : decode cX5_draftChain 1 = .ok (.istore 4, 2) := by decide +kernel
theorem dX5_draftChain_3 : decode cX5_draftChain 3 = .ok (.iload_n 2, 1) := by decide +kernel
theorem dX5_draftChain_4 : decode cX5_draftChain 4 = .ok (.istore 5, 2) := by decide +kernel
theorem dX5_draftChain_6 : decode cX5_draftChain 6 = .ok (.iload 5, 2) := by decide +kernel
theorem dX5_draftChain_8 : decode cX5_draftChain 8 = .ok (.iload_n 3, 1) := by decide +kernel
theorem dX5_draftChain_9 : decode cX5_draftChain 9 = .ok (.if_icmp .ge 44, 3) := by decide +kernel
theorem dX5_draftChain_12 : decode cX5_draftChain 12 = .ok (.iload 5, 2) := by decide +kernel
theorem dX5_draftChain_14 : decode cX5_draftChain 14 = .ok (.iload 4, 2) := by decide +kernel
theorem dX5_draftChain_16 : decode cX5_draftChain 16 = .ok (.if_icmp .ne 31, 3) := by decide +kernel
theorem dX5_draftChain_19 : decode cX5_draftChain 19 = .ok (.aload_n 0, 1) := by decide +kernel
theorem dX5_draftChain_20 : decode cX5_draftChain 20 = .ok (.aload_n 1, 1) := by decide +kernel
theorem dX5_draftChain_21 : decode cX5_draftChain 21 = .ok (.iload 5, 2) := by decide +kernel
theorem dX5_draftChain_23 : decode cX5_draftChain 23 = .ok (.invokevirtual 127, 3) := by decide +kernel
theorem dX5_draftChain_26 : decode cX5_draftChain 26 = .ok (.invokevirtual 116, 3) := by decide +kernel
theorem dX5_draftChain_29 : decode cX5_draftChain 29 = .ok (.iload 4, 2) := by decide +kernel
theorem dX5_draftChain_31 : decode cX5_draftChain 31 = .ok (.aload_n 0, 1) := by decide +kernel
theorem dX5_draftChain_32 : decode cX5_draftChain 32 = .ok (.getfield 26, 3) := by decide +kernel
theorem dX5_draftChain_35 : decode cX5_draftChain 35 = .ok (.aload_n 1, 1) := by decide +kernel
theorem dX5_draftChain_36 : decode cX5_draftChain 36 = .ok (.iload 5, 2) := by decide +kernel
theorem dX5_draftChain_38 : decode cX5_draftChain 38 = .ok (.invokevirtual 127, 3) := by decide +kernel
theorem dX5_draftChain_41 : decode cX5_draftChain 41 = .ok (.invokevirtual 130, 3) := by decide +kernel
theorem dX5_draftChain_44 : decode cX5_draftChain 44 = .ok (.iadd, 1) := by decide +kernel
theorem dX5_draftChain_45 : decode cX5_draftChain 45 = .ok (.istore 4, 2) := by decide +kernel
theorem dX5_draftChain_47 : decode cX5_draftChain 47 = .ok (.iinc 5 1, 3) := by decide +kernel
theorem dX5_draftChain_50 : decode cX5_draftChain 50 = .ok (.goto (-44), 3) := by decide +kernel
theorem dX5_draftChain_53 : decode cX5_draftChain 53 = .ok (.return_, 1) := by decide +kernel
theorem dX5_draftEntry_0 : decode cX5_draftEntry 0 = .ok (.aload_n 0, 1) := by decide +kernel
theorem dX5_draftEntry_1 : decode cX5_draftEntry 1 = .ok (.getfield 77, 3) := by decide +kernel
theorem dX5_draftEntry_4 : decode cX5_draftEntry 4 = .ok (.bipush 60, 2) := by decide +kernel
theorem dX5_draftEntry_6 : decode cX5_draftEntry 6 = .ok (.if_icmp .ge 23, 3) := by decide +kernel
theorem dX5_draftEntry_9 : decode cX5_draftEntry 9 = .ok (.aload_n 0, 1) := by decide +kernel
theorem dX5_draftEntry_10 : decode cX5_draftEntry 10 = .ok (.getfield 15, 3) := by decide +kernel
theorem dX5_draftEntry_13 : decode cX5_draftEntry 13 = .ok (.aload_n 0, 1) := by decide +kernel
theorem dX5_draftEntry_14 : decode cX5_draftEntry 14 = .ok (.getfield 77, 3) := by decide +kernel
theorem dX5_draftEntry_17 : decode cX5_draftEntry 17 = .ok (.iload_n 1, 1) := by decide +kernel
theorem dX5_draftEntry_18 : decode cX5_draftEntry 18 = .ok (.iastore, 1) := by decide +kernel
theorem dX5_draftEntry_19 : decode cX5_draftEntry 19 = .ok (.aload_n 0, 1) := by decide +kernel
theorem dX5_draftEntry_20 : decode cX5_draftEntry 20 = .ok (.dup, 1) := by decide +kernel
theorem dX5_draftEntry_21 : decode cX5_draftEntry 21 = .ok (.getfield 77, 3) := by decide +kernel
theorem dX5_draftEntry_24 : decode cX5_draftEntry 24 = .ok (.iconst 1, 1) := by decide +kernel
theorem dX5_draftEntry_25 : decode cX5_draftEntry 25 = .ok (.iadd, 1) := by decide +kernel
theorem dX5_draftEntry_26 : decode cX5_draftEntry 26 = .ok (.putfield 77, 3) := by decide +kernel
theorem dX5_draftEntry_29 : decode cX5_draftEntry 29 = .ok (.return_, 1) := by decide +kernel
set_option maxRecDepth 20000 in
theorem ggX5_readDraft_X6_empty : GoodIn wsX5_readDraft wsX6_empty := goodIn_r _ [9, 10, 11, 79, 80, 81, 82, 83, 84] (by decide +kernel) (by decide +kernel)
set_option maxRecDepth 20000 in
theorem gX5_readDraft_X6_empty : GoodIn wsX5_readDraft (wsV RX5 135 RX6 yX6_empty wsX6_empty) := goodIn_app (goodIn_of _ (by decide +kernel)) ggX5_readDraft_X6_empty
set_option maxRecDepth 20000 in
theorem ggX5_readDraft_X0_strokesOf : GoodIn wsX5_readDraft wsX0_strokesOf := goodIn_r _ [16, 17, 18, 85, 86, 87, 88, 89, 90] (by decide +kernel) (by decide +kernel)
set_option maxRecDepth 20000 in
theorem gX5_readDraft_X0_strokesOf : GoodIn wsX5_readDraft (wsV RX5 138 RX0 yX0_strokesOf wsX0_strokesOf) := goodIn_app (goodIn_of _ (by decide +kernel)) ggX5_readDraft_X0_strokesOf
set_option maxRecDepth 20000 in
theorem ggX5_readDraft_X6_size : GoodIn wsX5_readDraft wsX6_size := goodIn_r _ [22, 10, 79, 80, 81, 82, 83, 84] (by decide +kernel) (by decide +kernel)
set_option maxRecDepth 20000 in
theorem gX5_readDraft_X6_size : GoodIn wsX5_readDraft (wsV RX5 93 RX6 yX6_size wsX6_size) := goodIn_app (goodIn_of _ (by decide +kernel)) ggX5_readDraft_X6_size
set_option maxRecDepth 20000 in
theorem ggX5_readDraft_X0_strokeAt : GoodIn wsX5_readDraft wsX0_strokeAt := goodIn_r _ [26, 17, 18, 27, 85, 86, 87, 88, 89, 90] (by decide +kernel) (by decide +kernel)
set_option maxRecDepth 20000 in
theorem gX5_readDraft_X0_strokeAt : GoodIn wsX5_readDraft (wsV RX5 141 RX0 yX0_strokeAt wsX0_strokeAt) := goodIn_app (goodIn_of _ (by decide +kernel)) ggX5_readDraft_X0_strokeAt
set_option maxRecDepth 20000 in
theorem ggX5_readDraft_X6_put : GoodIn wsX5_readDraft wsX6_put := goodIn_r _ [31, 10, 32, 33, 34, 35, 36, 79, 80, 81, 82, 83, 84] (by decide +kernel) (by decide +kernel)
set_option maxRecDepth 20000 in
theorem gX5_readDraft_X6_put : GoodIn wsX5_readDraft (wsV RX5 144 RX6 yX6_put wsX6_put) := goodIn_app (goodIn_of _ (by decide +kernel)) ggX5_readDraft_X6_put
set_option maxRecDepth 20000 in
theorem ggX5_readDraft_X6_read : GoodIn wsX5_readDraft wsX6_read := goodIn_r _ [40, 11, 41, 42, 43, 44, 10, 45, 46, 47, 8, 48, 49, 32, 50, 51, 52, 53, 54, 55, 56, 57, 58, 15, 59, 17, 60, 13, 14, 16, 18, 61, 62, 63, 64, 27, 65, 79, 80, 81, 82, 83, 84, 85, 86, 87, 88, 89, 90] (by decide +kernel) (by decide +kernel)
set_option maxRecDepth 20000 in
theorem gX5_readDraft_X6_read : GoodIn wsX5_readDraft (wsV RX5 148 RX6 yX6_read wsX6_read) := goodIn_app (goodIn_of _ (by decide +kernel)) ggX5_readDraft_X6_read
theorem dX5_readDraft_0 : decode cX5_readDraft 0 = .ok (.aload_n 0, 1) := by decide +kernel
theorem dX5_readDraft_1 : decode cX5_readDraft 1 = .ok (.getfield 54, 3) := by decide +kernel
theorem dX5_readDraft_4 : decode cX5_readDraft 4 = .ok (.invokevirtual 135, 3) := by decide +kernel
theorem dX5_readDraft_7 : decode cX5_readDraft 7 = .ok (.iconst 0, 1) := by decide +kernel
theorem dX5_readDraft_8 : decode cX5_readDraft 8 = .ok (.istore_n 1, 1) := by decide +kernel
theorem dX5_readDraft_9 : decode cX5_readDraft 9 = .ok (.iload_n 1, 1) := by decide +kernel
theorem dX5_readDraft_10 : decode cX5_readDraft 10 = .ok (.aload_n 0, 1) := by decide +kernel
theorem dX5_readDraft_11 : decode cX5_readDraft 11 = .ok (.getfield 77, 3) := by decide +kernel
theorem dX5_readDraft_14 : decode cX5_readDraft 14 = .ok (.if_icmp .ge 62, 3) := by decide +kernel
theorem dX5_readDraft_17 : decode cX5_readDraft 17 = .ok (.iconst 0, 1) := by decide +kernel
theorem dX5_readDraft_18 : decode cX5_readDraft 18 = .ok (.istore_n 2, 1) := by decide +kernel
theorem dX5_readDraft_19 : decode cX5_readDraft 19 = .ok (.iload_n 2, 1) := by decide +kernel
theorem dX5_readDraft_20 : decode cX5_readDraft 20 = .ok (.aload_n 0, 1) := by decide +kernel
theorem dX5_readDraft_21 : decode cX5_readDraft 21 = .ok (.getfield 26, 3) := by decide +kernel
theorem dX5_readDraft_24 : decode cX5_readDraft 24 = .ok (.aload_n 0, 1) := by decide +kernel
theorem dX5_readDraft_25 : decode cX5_readDraft 25 = .ok (.getfield 15, 3) := by decide +kernel
theorem dX5_readDraft_28 : decode cX5_readDraft 28 = .ok (.iload_n 1, 1) := by decide +kernel
theorem dX5_readDraft_29 : decode cX5_readDraft 29 = .ok (.iaload, 1) := by decide +kernel
theorem dX5_readDraft_30 : decode cX5_readDraft 30 = .ok (.invokevirtual 138, 3) := by decide +kernel
theorem dX5_readDraft_33 : decode cX5_readDraft 33 = .ok (.if_icmp .ge 37, 3) := by decide +kernel
theorem dX5_readDraft_36 : decode cX5_readDraft 36 = .ok (.aload_n 0, 1) := by decide +kernel
theorem dX5_readDraft_37 : decode cX5_readDraft 37 = .ok (.getfield 54, 3) := by decide +kernel
theorem dX5_readDraft_40 : decode cX5_readDraft 40 = .ok (.aload_n 0, 1) := by decide +kernel
theorem dX5_readDraft_41 : decode cX5_readDraft 41 = .ok (.getfield 54, 3) := by decide +kernel
theorem dX5_readDraft_44 : decode cX5_readDraft 44 = .ok (.invokevirtual 93, 3) := by decide +kernel
theorem dX5_readDraft_47 : decode cX5_readDraft 47 = .ok (.aload_n 0, 1) := by decide +kernel
theorem dX5_readDraft_48 : decode cX5_readDraft 48 = .ok (.getfield 26, 3) := by decide +kernel
theorem dX5_readDraft_51 : decode cX5_readDraft 51 = .ok (.aload_n 0, 1) := by decide +kernel
theorem dX5_readDraft_52 : decode cX5_readDraft 52 = .ok (.getfield 15, 3) := by decide +kernel
theorem dX5_readDraft_55 : decode cX5_readDraft 55 = .ok (.iload_n 1, 1) := by decide +kernel
theorem dX5_readDraft_56 : decode cX5_readDraft 56 = .ok (.iaload, 1) := by decide +kernel
theorem dX5_readDraft_57 : decode cX5_readDraft 57 = .ok (.iload_n 2, 1) := by decide +kernel
theorem dX5_readDraft_58 : decode cX5_readDraft 58 = .ok (.invokevirtual 141, 3) := by decide +kernel
theorem dX5_readDraft_61 : decode cX5_readDraft 61 = .ok (.invokevirtual 144, 3) := by decide +kernel
theorem dX5_readDraft_64 : decode cX5_readDraft 64 = .ok (.iinc 2 1, 3) := by decide +kernel
theorem dX5_readDraft_67 : decode cX5_readDraft 67 = .ok (.goto (-48), 3) := by decide +kernel
theorem dX5_readDraft_70 : decode cX5_readDraft 70 = .ok (.iinc 1 1, 3) := by decide +kernel
theorem dX5_readDraft_73 : decode cX5_readDraft 73 = .ok (.goto (-64), 3) := by decide +kernel
theorem dX5_readDraft_76 : decode cX5_readDraft 76 = .ok (.aload_n 0, 1) := by decide +kernel
theorem dX5_readDraft_77 : decode cX5_readDraft 77 = .ok (.getfield 54, 3) := by decide +kernel
theorem dX5_readDraft_80 : decode cX5_readDraft 80 = .ok (.invokevirtual 148, 3) := by decide +kernel
theorem dX5_readDraft_83 : decode cX5_readDraft 83 = .ok (.return_, 1) := by decide +kernel
set_option maxRecDepth 20000 in
theorem ggX5_isDraftRead_X6_size : GoodIn wsX5_isDraftRead wsX6_size := goodIn_r _ [8, 9, 33, 34, 35, 36, 37, 38] (by decide +kernel) (by decide +kernel)
set_option maxRecDepth 20000 in
theorem gX5_isDraftRead_X6_size : GoodIn wsX5_isDraftRead (wsV RX5 93 RX6 yX6_size wsX6_size) := goodIn_app (goodIn_of _ (by decide +kernel)) ggX5_isDraftRead_X6_size
set_option maxRecDepth 20000 in
theorem ggX5_isDraftRead_X6_entryAt : GoodIn wsX5_isDraftRead wsX6_entryAt := goodIn_r _ [13, 9, 14, 33, 34, 35, 36, 37, 38] (by decide +kernel) (by decide +kernel)
set_option maxRecDepth 20000 in
theorem gX5_isDraftRead_X6_entryAt : GoodIn wsX5_isDraftRead (wsV RX5 151 RX6 yX6_entryAt wsX6_entryAt) := goodIn_app (goodIn_of _ (by decide +kernel)) ggX5_isDraftRead_X6_entryAt
set_option maxRecDepth 20000 in
theorem ggX5_isDraftRead_X6_firstAt : GoodIn wsX5_isDraftRead wsX6_firstAt := goodIn_r _ [18, 9, 19, 33, 34, 35, 36, 37, 38] (by decide +kernel) (by decide +kernel)
set_option maxRecDepth 20000 in
theorem gX5_isDraftRead_X6_firstAt : GoodIn wsX5_isDraftRead (wsV RX5 154 RX6 yX6_firstAt wsX6_firstAt) := goodIn_app (goodIn_of _ (by decide +kernel)) ggX5_isDraftRead_X6_firstAt
theorem dX5_isDraftRead_0 : decode cX5_isDraftRead 0 = .ok (.aload_n 0, 1) := by decide +kernel
theorem dX5_isDraftRead_1 : decode cX5_isDraftRead 1 = .ok (.getfield 54, 3) := by decide +kernel
theorem dX5_isDraftRead_4 : decode cX5_isDraftRead 4 = .ok (.invokevirtual 93, 3) := by decide +kernel
theorem dX5_isDraftRead_7 : decode cX5_isDraftRead 7 = .ok (.iconst 1, 1) := by decide +kernel
theorem dX5_isDraftRead_8 : decode cX5_isDraftRead 8 = .ok (.isub, 1) := by decide +kernel
theorem dX5_isDraftRead_9 : decode cX5_isDraftRead 9 = .ok (.istore_n 1, 1) := by decide +kernel
theorem dX5_isDraftRead_10 : decode cX5_isDraftRead 10 = .ok (.aload_n 0, 1) := by decide +kernel
theorem dX5_isDraftRead_11 : decode cX5_isDraftRead 11 = .ok (.getfield 77, 3) := by decide +kernel
theorem dX5_isDraftRead_14 : decode cX5_isDraftRead 14 = .ok (.iconst 1, 1) := by decide +kernel
theorem dX5_isDraftRead_15 : decode cX5_isDraftRead 15 = .ok (.isub, 1) := by decide +kernel
theorem dX5_isDraftRead_16 : decode cX5_isDraftRead 16 = .ok (.istore_n 2, 1) := by decide +kernel
theorem dX5_isDraftRead_17 : decode cX5_isDraftRead 17 = .ok (.iload_n 2, 1) := by decide +kernel
theorem dX5_isDraftRead_18 : decode cX5_isDraftRead 18 = .ok (.ifCond .lt 39, 3) := by decide +kernel
theorem dX5_isDraftRead_21 : decode cX5_isDraftRead 21 = .ok (.aload_n 0, 1) := by decide +kernel
theorem dX5_isDraftRead_22 : decode cX5_isDraftRead 22 = .ok (.getfield 54, 3) := by decide +kernel
theorem dX5_isDraftRead_25 : decode cX5_isDraftRead 25 = .ok (.iload_n 1, 1) := by decide +kernel
theorem dX5_isDraftRead_26 : decode cX5_isDraftRead 26 = .ok (.invokevirtual 151, 3) := by decide +kernel
theorem dX5_isDraftRead_29 : decode cX5_isDraftRead 29 = .ok (.aload_n 0, 1) := by decide +kernel
theorem dX5_isDraftRead_30 : decode cX5_isDraftRead 30 = .ok (.getfield 15, 3) := by decide +kernel
theorem dX5_isDraftRead_33 : decode cX5_isDraftRead 33 = .ok (.iload_n 2, 1) := by decide +kernel
theorem dX5_isDraftRead_34 : decode cX5_isDraftRead 34 = .ok (.iaload, 1) := by decide +kernel
theorem dX5_isDraftRead_35 : decode cX5_isDraftRead 35 = .ok (.if_icmp .eq 5, 3) := by decide +kernel
theorem dX5_isDraftRead_38 : decode cX5_isDraftRead 38 = .ok (.iconst 0, 1) := by decide +kernel
theorem dX5_isDraftRead_39 : decode cX5_isDraftRead 39 = .ok (.ireturn, 1) := by decide +kernel
theorem dX5_isDraftRead_40 : decode cX5_isDraftRead 40 = .ok (.aload_n 0, 1) := by decide +kernel
theorem dX5_isDraftRead_41 : decode cX5_isDraftRead 41 = .ok (.getfield 54, 3) := by decide +kernel
theorem dX5_isDraftRead_44 : decode cX5_isDraftRead 44 = .ok (.iload_n 1, 1) := by decide +kernel
theorem dX5_isDraftRead_45 : decode cX5_isDraftRead 45 = .ok (.invokevirtual 154, 3) := by decide +kernel
theorem dX5_isDraftRead_48 : decode cX5_isDraftRead 48 = .ok (.iconst 1, 1) := by decide +kernel
theorem dX5_isDraftRead_49 : decode cX5_isDraftRead 49 = .ok (.isub, 1) := by decide +kernel
theorem dX5_isDraftRead_50 : decode cX5_isDraftRead 50 = .ok (.istore_n 1, 1) := by decide +kernel
theorem dX5_isDraftRead_51 : decode cX5_isDraftRead 51 = .ok (.iinc 2 (-1), 3) := by decide +kernel
theorem dX5_isDraftRead_54 : decode cX5_isDraftRead 54 = .ok (.goto (-37), 3) := by decide +kernel
theorem dX5_isDraftRead_57 : decode cX5_isDraftRead 57 = .ok (.iload_n 1, 1) := by decide +kernel
theorem dX5_isDraftRead_58 : decode cX5_isDraftRead 58 = .ok (.iconst (-1), 1) := by decide +kernel
theorem dX5_isDraftRead_59 : decode cX5_isDraftRead 59 = .ok (.if_icmp .ne 7, 3) := by decide +kernel
theorem dX5_isDraftRead_62 : decode cX5_isDraftRead 62 = .ok (.iconst 1, 1) := by decide +kernel
theorem dX5_isDraftRead_63 : decode cX5_isDraftRead 63 = .ok (.goto 4, 3) := by decide +kernel
theorem dX5_isDraftRead_66 : decode cX5_isDraftRead 66 = .ok (.iconst 0, 1) := by decide +kernel
theorem dX5_isDraftRead_67 : decode cX5_isDraftRead 67 = .ok (.ireturn, 1) := by decide +kernel
theorem dX6_init_0 : decode cX6_init 0 = .ok (.aload_n 0, 1) := by decide +kernel
theorem dX6_init_1 : decode cX6_init 1 = .ok (.invokespecial 3, 3) := by decide +kernel
theorem dX6_init_4 : decode cX6_init 4 = .ok (.aload_n 0, 1) := by decide +kernel
theorem dX6_init_5 : decode cX6_init 5 = .ok (.sipush 300, 3) := by decide +kernel
theorem dX6_init_8 : decode cX6_init 8 = .ok (.newarray .int, 2) := by decide +kernel
theorem dX6_init_10 : decode cX6_init 10 = .ok (.putfield 9, 3) := by decide +kernel
theorem dX6_init_13 : decode cX6_init 13 = .ok (.aload_n 0, 1) := by decide +kernel
theorem dX6_init_14 : decode cX6_init 14 = .ok (.sipush 300, 3) := by decide +kernel
theorem dX6_init_17 : decode cX6_init 17 = .ok (.newarray .int, 2) := by decide +kernel
theorem dX6_init_19 : decode cX6_init 19 = .ok (.putfield 15, 3) := by decide +kernel
theorem dX6_init_22 : decode cX6_init 22 = .ok (.aload_n 0, 1) := by decide +kernel
theorem dX6_init_23 : decode cX6_init 23 = .ok (.sipush 300, 3) := by decide +kernel
theorem dX6_init_26 : decode cX6_init 26 = .ok (.newarray .int, 2) := by decide +kernel
theorem dX6_init_28 : decode cX6_init 28 = .ok (.putfield 18, 3) := by decide +kernel
theorem dX6_init_31 : decode cX6_init 31 = .ok (.aload_n 0, 1) := by decide +kernel
theorem dX6_init_32 : decode cX6_init 32 = .ok (.aload_n 1, 1) := by decide +kernel
theorem dX6_init_33 : decode cX6_init 33 = .ok (.putfield 21, 3) := by decide +kernel
theorem dX6_init_36 : decode cX6_init 36 = .ok (.return_, 1) := by decide +kernel
theorem dX6_size_0 : decode cX6_size 0 = .ok (.aload_n 0, 1) := by decide +kernel
theorem dX6_size_1 : decode cX6_size 1 = .ok (.getfield 25, 3) := by decide +kernel
theorem dX6_size_4 : decode cX6_size 4 = .ok (.ireturn, 1) := by decide +kernel
theorem dX6_isFull_0 : decode cX6_isFull 0 = .ok (.aload_n 0, 1) := by decide +kernel
theorem dX6_isFull_1 : decode cX6_isFull 1 = .ok (.getfield 25, 3) := by decide +kernel
theorem dX6_isFull_4 : decode cX6_isFull 4 = .ok (.sipush 300, 3) := by decide +kernel
theorem dX6_isFull_7 : decode cX6_isFull 7 = .ok (.if_icmp .lt 7, 3) := by decide +kernel
theorem dX6_isFull_10 : decode cX6_isFull 10 = .ok (.iconst 1, 1) := by decide +kernel
theorem dX6_isFull_11 : decode cX6_isFull 11 = .ok (.goto 4, 3) := by decide +kernel
theorem dX6_isFull_14 : decode cX6_isFull 14 = .ok (.iconst 0, 1) := by decide +kernel
theorem dX6_isFull_15 : decode cX6_isFull 15 = .ok (.ireturn, 1) := by decide +kernel
theorem dX6_has_0 : decode cX6_has 0 = .ok (.iload_n 1, 1) := by decide +kernel
theorem dX6_has_1 : decode cX6_has 1 = .ok (.ifCond .lt 15, 3) := by decide +kernel
theorem dX6_has_4 : decode cX6_has 4 = .ok (.iload_n 1, 1) := by decide +kernel
theorem dX6_has_5 : decode cX6_has 5 = .ok (.aload_n 0, 1) := by decide +kernel
theorem dX6_has_6 : decode cX6_has 6 = .ok (.getfield 25, 3) := by decide +kernel
theorem dX6_has_9 : decode cX6_has 9 = .ok (.if_icmp .ge 7, 3) := by decide +kernel
theorem dX6_has_12 : decode cX6_has 12 = .ok (.iconst 1, 1) := by decide +kernel
theorem dX6_has_13 : decode cX6_has 13 = .ok (.goto 4, 3) := by decide +kernel
theorem dX6_has_16 : decode cX6_has 16 = .ok (.iconst 0, 1) := by decide +kernel
theorem dX6_has_17 : decode cX6_has 17 = .ok (.ireturn, 1) := by decide +kernel
theorem dX6_keysAt_0 : decode cX6_keysAt 0 = .ok (.iload_n 1, 1) := by decide +kernel
theorem dX6_keysAt_1 : decode cX6_keysAt 1 = .ok (.ifCond .lt 20, 3) := by decide +kernel
theorem dX6_keysAt_4 : decode cX6_keysAt 4 = .ok (.iload_n 1, 1) := by decide +kernel
theorem dX6_keysAt_5 : decode cX6_keysAt 5 = .ok (.aload_n 0, 1) := by decide +kernel
theorem dX6_keysAt_6 : decode cX6_keysAt 6 = .ok (.getfield 25, 3) := by decide +kernel
theorem dX6_keysAt_9 : decode cX6_keysAt 9 = .ok (.if_icmp .ge 12, 3) := by decide +kernel
theorem dX6_keysAt_12 : decode cX6_keysAt 12 = .ok (.aload_n 0, 1) := by decide +kernel
theorem dX6_keysAt_13 : decode cX6_keysAt 13 = .ok (.getfield 9, 3) := by decide +kernel
theorem dX6_keysAt_16 : decode cX6_keysAt 16 = .ok (.iload_n 1, 1) := by decide +kernel
theorem dX6_keysAt_17 : decode cX6_keysAt 17 = .ok (.iaload, 1) := by decide +kernel
theorem dX6_keysAt_18 : decode cX6_keysAt 18 = .ok (.goto 4, 3) := by decide +kernel
theorem dX6_keysAt_21 : decode cX6_keysAt 21 = .ok (.iconst (-1), 1) := by decide +kernel
theorem dX6_keysAt_22 : decode cX6_keysAt 22 = .ok (.ireturn, 1) := by decide +kernel
theorem dX6_entryAt_0 : decode cX6_entryAt 0 = .ok (.iload_n 1, 1) := by decide +kernel
theorem dX6_entryAt_1 : decode cX6_entryAt 1 = .ok (.ifCond .lt 20, 3) := by decide +kernel
theorem dX6_entryAt_4 : decode cX6_entryAt 4 = .ok (.iload_n 1, 1) := by decide +kernel
theorem dX6_entryAt_5 : decode cX6_entryAt 5 = .ok (.aload_n 0, 1) := by decide +kernel
theorem dX6_entryAt_6 : decode cX6_entryAt 6 = .ok (.getfield 25, 3) := by decide +kernel
theorem dX6_entryAt_9 : decode cX6_entryAt 9 = .ok (.if_icmp .ge 12, 3) := by decide +kernel
theorem dX6_entryAt_12 : decode cX6_entryAt 12 = .ok (.aload_n 0, 1) := by decide +kernel
theorem dX6_entryAt_13 : decode cX6_entryAt 13 = .ok (.getfield 18, 3) := by decide +kernel
theorem dX6_entryAt_16 : decode cX6_entryAt 16 = .ok (.iload_n 1, 1) := by decide +kernel
theorem dX6_entryAt_17 : decode cX6_entryAt 17 = .ok (.iaload, 1) := by decide +kernel
theorem dX6_entryAt_18 : decode cX6_entryAt 18 = .ok (.goto 4, 3) := by decide +kernel
theorem dX6_entryAt_21 : decode cX6_entryAt 21 = .ok (.iconst (-1), 1) := by decide +kernel
theorem dX6_entryAt_22 : decode cX6_entryAt 22 = .ok (.ireturn, 1) := by decide +kernel
theorem dX6_firstAt_0 : decode cX6_firstAt 0 = .ok (.iload_n 1, 1) := by decide +kernel
theorem dX6_firstAt_1 : decode cX6_firstAt 1 = .ok (.ifCond .lt 20, 3) := by decide +kernel
theorem dX6_firstAt_4 : decode cX6_firstAt 4 = .ok (.iload_n 1, 1) := by decide +kernel
theorem dX6_firstAt_5 : decode cX6_firstAt 5 = .ok (.aload_n 0, 1) := by decide +kernel
theorem dX6_firstAt_6 : decode cX6_firstAt 6 = .ok (.getfield 25, 3) := by decide +kernel
theorem dX6_firstAt_9 : decode cX6_firstAt 9 = .ok (.if_icmp .ge 12, 3) := by decide +kernel
theorem dX6_firstAt_12 : decode cX6_firstAt 12 = .ok (.aload_n 0, 1) := by decide +kernel
theorem dX6_firstAt_13 : decode cX6_firstAt 13 = .ok (.getfield 15, 3) := by decide +kernel
theorem dX6_firstAt_16 : decode cX6_firstAt 16 = .ok (.iload_n 1, 1) := by decide +kernel
theorem dX6_firstAt_17 : decode cX6_firstAt 17 = .ok (.iaload, 1) := by decide +kernel
theorem dX6_firstAt_18 : decode cX6_firstAt 18 = .ok (.goto 4, 3) := by decide +kernel
theorem dX6_firstAt_21 : decode cX6_firstAt 21 = .ok (.iconst (-1), 1) := by decide +kernel
theorem dX6_firstAt_22 : decode cX6_firstAt 22 = .ok (.ireturn, 1) := by decide +kernel
theorem dX6_empty_0 : decode cX6_empty 0 = .ok (.aload_n 0, 1) := by decide +kernel
theorem dX6_empty_1 : decode cX6_empty 1 = .ok (.iconst 0, 1) := by decide +kernel
theorem dX6_empty_2 : decode cX6_empty 2 = .ok (.putfield 25, 3) := by decide +kernel
theorem dX6_empty_5 : decode cX6_empty 5 = .ok (.aload_n 0, 1) := by decide +kernel
theorem dX6_empty_6 : decode cX6_empty 6 = .ok (.iconst 0, 1) := by decide +kernel
theorem dX6_empty_7 : decode cX6_empty 7 = .ok (.putfield 29, 3) := by decide +kernel
theorem dX6_empty_10 : decode cX6_empty 10 = .ok (.return_, 1) := by decide +kernel
theorem dX6_put_0 : decode cX6_put 0 = .ok (.iload_n 1, 1) := by decide +kernel
theorem dX6_put_1 : decode cX6_put 1 = .ok (.ifCond .lt 21, 3) := by decide +kernel
theorem dX6_put_4 : decode cX6_put 4 = .ok (.iload_n 1, 1) := by decide +kernel
theorem dX6_put_5 : decode cX6_put 5 = .ok (.aload_n 0, 1) := by decide +kernel
theorem dX6_put_6 : decode cX6_put 6 = .ok (.getfield 25, 3) := by decide +kernel
theorem dX6_put_9 : decode cX6_put 9 = .ok (.if_icmp .gt 13, 3) := by decide +kernel
theorem dX6_put_12 : decode cX6_put 12 = .ok (.aload_n 0, 1) := by decide +kernel
theorem dX6_put_13 : decode cX6_put 13 = .ok (.getfield 25, 3) := by decide +kernel
theorem dX6_put_16 : decode cX6_put 16 = .ok (.sipush 300, 3) := by decide +kernel
theorem dX6_put_19 : decode cX6_put 19 = .ok (.if_icmp .lt 4, 3) := by decide +kernel
theorem dX6_put_22 : decode cX6_put 22 = .ok (.return_, 1) := by decide +kernel
theorem dX6_put_23 : decode cX6_put 23 = .ok (.aload_n 0, 1) := by decide +kernel
theorem dX6_put_24 : decode cX6_put 24 = .ok (.getfield 9, 3) := by decide +kernel
theorem dX6_put_27 : decode cX6_put 27 = .ok (.iload_n 1, 1) := by decide +kernel
theorem dX6_put_28 : decode cX6_put 28 = .ok (.aload_n 0, 1) := by decide +kernel
theorem dX6_put_29 : decode cX6_put 29 = .ok (.getfield 9, 3) := by decide +kernel
theorem dX6_put_32 : decode cX6_put 32 = .ok (.iload_n 1, 1) := by decide +kernel
theorem dX6_put_33 : decode cX6_put 33 = .ok (.iconst 1, 1) := by decide +kernel
theorem dX6_put_34 : decode cX6_put 34 = .ok (.iadd, 1) := by decide +kernel
theorem dX6_put_35 : decode cX6_put 35 = .ok (.aload_n 0, 1) := by decide +kernel
theorem dX6_put_36 : decode cX6_put 36 = .ok (.getfield 25, 3) := by decide +kernel
theorem dX6_put_39 : decode cX6_put 39 = .ok (.iload_n 1, 1) := by decide +kernel
theorem dX6_put_40 : decode cX6_put 40 = .ok (.isub, 1) := by decide +kernel
theorem dX6_put_41 : decode cX6_put 41 = .ok (.invokestatic 32, 3) := by decide +kernel
theorem dX6_put_44 : decode cX6_put 44 = .ok (.aload_n 0, 1) := by decide +kernel
theorem dX6_put_45 : decode cX6_put 45 = .ok (.getfield 9, 3) := by decide +kernel
theorem dX6_put_48 : decode cX6_put 48 = .ok (.iload_n 1, 1) := by decide +kernel
theorem dX6_put_49 : decode cX6_put 49 = .ok (.iload_n 2, 1) := by decide +kernel
theorem dX6_put_50 : decode cX6_put 50 = .ok (.iastore, 1) := by decide +kernel
theorem dX6_put_51 : decode cX6_put 51 = .ok (.aload_n 0, 1) := by decide +kernel
theorem dX6_put_52 : decode cX6_put 52 = .ok (.dup, 1) := by decide +kernel
theorem dX6_put_53 : decode cX6_put 53 = .ok (.getfield 25, 3) := by decide +kernel
theorem dX6_put_56 : decode cX6_put 56 = .ok (.iconst 1, 1) := by decide +kernel
theorem dX6_put_57 : decode cX6_put 57 = .ok (.iadd, 1) := by decide +kernel
theorem dX6_put_58 : decode cX6_put 58 = .ok (.putfield 25, 3) := by decide +kernel
theorem dX6_put_61 : decode cX6_put 61 = .ok (.return_, 1) := by decide +kernel
theorem dX6_replace_0 : decode cX6_replace 0 = .ok (.iload_n 1, 1) := by decide +kernel
theorem dX6_replace_1 : decode cX6_replace 1 = .ok (.ifCond .lt 18, 3) := by decide +kernel
theorem dX6_replace_4 : decode cX6_replace 4 = .ok (.iload_n 1, 1) := by decide +kernel
theorem dX6_replace_5 : decode cX6_replace 5 = .ok (.aload_n 0, 1) := by decide +kernel
theorem dX6_replace_6 : decode cX6_replace 6 = .ok (.getfield 25, 3) := by decide +kernel
theorem dX6_replace_9 : decode cX6_replace 9 = .ok (.if_icmp .ge 10, 3) := by decide +kernel
theorem dX6_replace_12 : decode cX6_replace 12 = .ok (.aload_n 0, 1) := by decide +kernel
theorem dX6_replace_13 : decode cX6_replace 13 = .ok (.getfield 9, 3) := by decide +kernel
theorem dX6_replace_16 : decode cX6_replace 16 = .ok (.iload_n 1, 1) := by decide +kernel
theorem dX6_replace_17 : decode cX6_replace 17 = .ok (.iload_n 2, 1) := by decide +kernel
theorem dX6_replace_18 : decode cX6_replace 18 = .ok (.iastore, 1) := by decide +kernel
theorem dX6_replace_19 : decode cX6_replace 19 = .ok (.return_, 1) := by decide +kernel
theorem dX6_remove_0 : decode cX6_remove 0 = .ok (.iload_n 1, 1) := by decide +kernel
theorem dX6_remove_1 : decode cX6_remove 1 = .ok (.ifCond .lt 11, 3) := by decide +kernel
theorem dX6_remove_4 : decode cX6_remove 4 = .ok (.iload_n 1, 1) := by decide +kernel
theorem dX6_remove_5 : decode cX6_remove 5 = .ok (.aload_n 0, 1) := by decide +kernel
theorem dX6_remove_6 : decode cX6_remove 6 = .ok (.getfield 25, 3) := by decide +kernel
theorem dX6_remove_9 : decode cX6_remove 9 = .ok (.if_icmp .lt 4, 3) := by decide +kernel
theorem dX6_remove_12 : decode cX6_remove 12 = .ok (.return_, 1) := by decide +kernel
theorem dX6_remove_13 : decode cX6_remove 13 = .ok (.aload_n 0, 1) := by decide +kernel
theorem dX6_remove_14 : decode cX6_remove 14 = .ok (.getfield 9, 3) := by decide +kernel
theorem dX6_remove_17 : decode cX6_remove 17 = .ok (.iload_n 1, 1) := by decide +kernel
theorem dX6_remove_18 : decode cX6_remove 18 = .ok (.iconst 1, 1) := by decide +kernel
theorem dX6_remove_19 : decode cX6_remove 19 = .ok (.iadd, 1) := by decide +kernel
theorem dX6_remove_20 : decode cX6_remove 20 = .ok (.aload_n 0, 1) := by decide +kernel
theorem dX6_remove_21 : decode cX6_remove 21 = .ok (.getfield 9, 3) := by decide +kernel
theorem dX6_remove_24 : decode cX6_remove 24 = .ok (.iload_n 1, 1) := by decide +kernel
theorem dX6_remove_25 : decode cX6_remove 25 = .ok (.aload_n 0, 1) := by decide +kernel
theorem dX6_remove_26 : decode cX6_remove 26 = .ok (.getfield 25, 3) := by decide +kernel
theorem dX6_remove_29 : decode cX6_remove 29 = .ok (.iload_n 1, 1) := by decide +kernel
theorem dX6_remove_30 : decode cX6_remove 30 = .ok (.isub, 1) := by decide +kernel
theorem dX6_remove_31 : decode cX6_remove 31 = .ok (.iconst 1, 1) := by decide +kernel
theorem dX6_remove_32 : decode cX6_remove 32 = .ok (.isub, 1) := by decide +kernel
theorem dX6_remove_33 : decode cX6_remove 33 = .ok (.invokestatic 32, 3) := by decide +kernel
theorem dX6_remove_36 : decode cX6_remove 36 = .ok (.aload_n 0, 1) := by decide +kernel
theorem dX6_remove_37 : decode cX6_remove 37 = .ok (.dup, 1) := by decide +kernel
theorem dX6_remove_38 : decode cX6_remove 38 = .ok (.getfield 25, 3) := by decide +kernel
theorem dX6_remove_41 : decode cX6_remove 41 = .ok (.iconst 1, 1) := by decide +kernel
theorem dX6_remove_42 : decode cX6_remove 42 = .ok (.isub, 1) := by decide +kernel
theorem dX6_remove_43 : decode cX6_remove 43 = .ok (.putfield 25, 3) := by decide +kernel
theorem dX6_remove_46 : decode cX6_remove 46 = .ok (.return_, 1) := by decide +kernel
theorem dX6_unread_0 : decode cX6_unread 0 = .ok (.aload_n 0, 1) := by decide +kernel
theorem dX6_unread_1 : decode cX6_unread 1 = .ok (.aload_n 0, 1) := by decide +kernel
theorem dX6_unread_2 : decode cX6_unread 2 = .ok (.getfield 29, 3) := by decide +kernel
theorem dX6_unread_5 : decode cX6_unread 5 = .ok (.iload_n 1, 1) := by decide +kernel
theorem dX6_unread_6 : decode cX6_unread 6 = .ok (.invokestatic 38, 3) := by decide +kernel
theorem dX6_unread_9 : decode cX6_unread 9 = .ok (.putfield 29, 3) := by decide +kernel
theorem dX6_unread_12 : decode cX6_unread 12 = .ok (.return_, 1) := by decide +kernel
set_option maxRecDepth 20000 in
theorem ggX6_read_X6_readStroke : GoodIn wsX6_read wsX6_readStroke := goodIn_r _ [11, 12, 13, 14, 15, 16, 17, 18, 10, 19, 20, 21, 22, 23, 24, 25, 26, 27, 28, 29, 30, 31, 32, 33, 34, 35, 36, 37, 38, 39, 40, 41, 42, 43, 44, 45, 46, 47, 48] (by decide +kernel) (by decide +kernel)
set_option maxRecDepth 20000 in
theorem gX6_read_X6_readStroke : GoodIn wsX6_read (wsV RX6 47 RX6 yX6_readStroke wsX6_readStroke) := goodIn_app (goodIn_of _ (by decide +kernel)) ggX6_read_X6_readStroke
theorem dX6_read_0 : decode cX6_read 0 = .ok (.aload_n 0, 1) := by decide +kernel
theorem dX6_read_1 : decode cX6_read 1 = .ok (.getfield 29, 3) := by decide +kernel
theorem dX6_read_4 : decode cX6_read 4 = .ok (.iconst 0, 1) := by decide +kernel
theorem dX6_read_5 : decode cX6_read 5 = .ok (.invokestatic 44, 3) := by decide +kernel
theorem dX6_read_8 : decode cX6_read 8 = .ok (.istore_n 1, 1) := by decide +kernel
theorem dX6_read_9 : decode cX6_read 9 = .ok (.iload_n 1, 1) := by decide +kernel
theorem dX6_read_10 : decode cX6_read 10 = .ok (.aload_n 0, 1) := by decide +kernel
theorem dX6_read_11 : decode cX6_read 11 = .ok (.getfield 25, 3) := by decide +kernel
theorem dX6_read_14 : decode cX6_read 14 = .ok (.if_icmp .ge 14, 3) := by decide +kernel
theorem dX6_read_17 : decode cX6_read 17 = .ok (.aload_n 0, 1) := by decide +kernel
theorem dX6_read_18 : decode cX6_read 18 = .ok (.iload_n 1, 1) := by decide +kernel
theorem dX6_read_19 : decode cX6_read 19 = .ok (.invokevirtual 47, 3) := by decide +kernel
theorem dX6_read_22 : decode cX6_read 22 = .ok (.iinc 1 1, 3) := by decide +kernel
theorem dX6_read_25 : decode cX6_read 25 = .ok (.goto (-16), 3) := by decide +kernel
theorem dX6_read_28 : decode cX6_read 28 = .ok (.aload_n 0, 1) := by decide +kernel
theorem dX6_read_29 : decode cX6_read 29 = .ok (.aload_n 0, 1) := by decide +kernel
theorem dX6_read_30 : decode cX6_read 30 = .ok (.getfield 25, 3) := by decide +kernel
theorem dX6_read_33 : decode cX6_read 33 = .ok (.putfield 29, 3) := by decide +kernel
theorem dX6_read_36 : decode cX6_read 36 = .ok (.return_, 1) := by decide +kernel
set_option maxRecDepth 20000 in
theorem ggX6_readStroke_X6_lengthsAt : GoodIn wsX6_readStroke wsX6_lengthsAt := goodIn_r _ [9, 4, 27, 28, 29, 30, 31, 32] (by decide +kernel) (by decide +kernel)
set_option maxRecDepth 20000 in
theorem gX6_readStroke_X6_lengthsAt : GoodIn wsX6_readStroke (wsV RX6 51 RX6 yX6_lengthsAt wsX6_lengthsAt) := goodIn_app (goodIn_of _ (by decide +kernel)) ggX6_readStroke_X6_lengthsAt
set_option maxRecDepth 20000 in
theorem ggX6_readStroke_X0_size : GoodIn wsX6_readStroke wsX0_size := goodIn_r _ [14, 15, 33, 34, 35, 36, 37, 38] (by decide +kernel) (by decide +kernel)
set_option maxRecDepth 20000 in
theorem gX6_readStroke_X0_size : GoodIn wsX6_readStroke (wsV RX6 55 RX0 yX0_size wsX0_size) := goodIn_app (goodIn_of _ (by decide +kernel)) ggX6_readStroke_X0_size
set_option maxRecDepth 20000 in
theorem ggX6_readStroke_X0_strokesOf : GoodIn wsX6_readStroke wsX0_strokesOf := goodIn_r _ [19, 15, 20, 33, 34, 35, 36, 37, 38] (by decide +kernel) (by decide +kernel)
set_option maxRecDepth 20000 in
theorem gX6_readStroke_X0_strokesOf : GoodIn wsX6_readStroke (wsV RX6 60 RX0 yX0_strokesOf wsX0_strokesOf) := goodIn_app (goodIn_of _ (by decide +kernel)) ggX6_readStroke_X0_strokesOf
set_option maxRecDepth 20000 in
theorem ggX6_readStroke_X0_isOutlineAt : GoodIn wsX6_readStroke wsX0_isOutlineAt := goodIn_r _ [24, 25, 26, 17, 18, 13, 19, 15, 20, 33, 34, 35, 36, 37, 38] (by decide +kernel) (by decide +kernel)
set_option maxRecDepth 20000 in
theorem gX6_readStroke_X0_isOutlineAt : GoodIn wsX6_readStroke (wsV RX6 63 RX0 yX0_isOutlineAt wsX0_isOutlineAt) := goodIn_app (goodIn_of _ (by decide +kernel)) ggX6_readStroke_X0_isOutlineAt
theorem dX6_readStroke_0 : decode cX6_readStroke 0 = .ok (.aload_n 0, 1) := by decide +kernel
theorem dX6_readStroke_1 : decode cX6_readStroke 1 = .ok (.iload_n 1, 1) := by decide +kernel
theorem dX6_readStroke_2 : decode cX6_readStroke 2 = .ok (.invokevirtual 51, 3) := by decide +kernel
theorem dX6_readStroke_5 : decode cX6_readStroke 5 = .ok (.istore_n 2, 1) := by decide +kernel
theorem dX6_readStroke_6 : decode cX6_readStroke 6 = .ok (.iconst 0, 1) := by decide +kernel
theorem dX6_readStroke_7 : decode cX6_readStroke 7 = .ok (.istore_n 3, 1) := by decide +kernel
theorem dX6_readStroke_8 : decode cX6_readStroke 8 = .ok (.iconst (-1), 1) := by decide +kernel
theorem dX6_readStroke_9 : decode cX6_readStroke 9 = .ok (.istore 4, 2) := by decide +kernel
theorem dX6_readStroke_11 : decode cX6_readStroke 11 = .ok (.iconst 0, 1) := by decide +kernel
theorem dX6_readStroke_12 : decode cX6_readStroke 12 = .ok (.istore 5, 2) := by decide +kernel
theorem dX6_readStroke_14 : decode cX6_readStroke 14 = .ok (.iload 5, 2) := by decide +kernel
theorem dX6_readStroke_16 : decode cX6_readStroke 16 = .ok (.aload_n 0, 1) := by decide +kernel
theorem dX6_readStroke_17 : decode cX6_readStroke 17 = .ok (.getfield 21, 3) := by decide +kernel
theorem dX6_readStroke_20 : decode cX6_readStroke 20 = .ok (.invokevirtual 55, 3) := by decide +kernel
theorem dX6_readStroke_23 : decode cX6_readStroke 23 = .ok (.if_icmp .ge 77, 3) := by decide +kernel
theorem dX6_readStroke_26 : decode cX6_readStroke 26 = .ok (.aload_n 0, 1) := by decide +kernel
theorem dX6_readStroke_27 : decode cX6_readStroke 27 = .ok (.getfield 21, 3) := by decide +kernel
theorem dX6_readStroke_30 : decode cX6_readStroke 30 = .ok (.iload 5, 2) := by decide +kernel
theorem dX6_readStroke_32 : decode cX6_readStroke 32 = .ok (.invokevirtual 60, 3) := by decide +kernel
theorem dX6_readStroke_35 : decode cX6_readStroke 35 = .ok (.istore 6, 2) := by decide +kernel
theorem dX6_readStroke_37 : decode cX6_readStroke 37 = .ok (.iload 6, 2) := by decide +kernel
theorem dX6_readStroke_39 : decode cX6_readStroke 39 = .ok (.iload_n 3, 1) := by decide +kernel
theorem dX6_readStroke_40 : decode cX6_readStroke 40 = .ok (.if_icmp .le 17, 3) := by decide +kernel
theorem dX6_readStroke_43 : decode cX6_readStroke 43 = .ok (.iload_n 2, 1) := by decide +kernel
theorem dX6_readStroke_44 : decode cX6_readStroke 44 = .ok (.iload 6, 2) := by decide +kernel
theorem dX6_readStroke_46 : decode cX6_readStroke 46 = .ok (.ishr, 1) := by decide +kernel
theorem dX6_readStroke_47 : decode cX6_readStroke 47 = .ok (.iconst 1, 1) := by decide +kernel
theorem dX6_readStroke_48 : decode cX6_readStroke 48 = .ok (.iand, 1) := by decide +kernel
theorem dX6_readStroke_49 : decode cX6_readStroke 49 = .ok (.iconst 1, 1) := by decide +kernel
theorem dX6_readStroke_50 : decode cX6_readStroke 50 = .ok (.if_icmp .ne 7, 3) := by decide +kernel
theorem dX6_readStroke_53 : decode cX6_readStroke 53 = .ok (.iconst 1, 1) := by decide +kernel
theorem dX6_readStroke_54 : decode cX6_readStroke 54 = .ok (.goto 4, 3) := by decide +kernel
theorem dX6_readStroke_57 : decode cX6_readStroke 57 = .ok (.iconst 0, 1) := by decide +kernel
theorem dX6_readStroke_58 : decode cX6_readStroke 58 = .ok (.istore 7, 2) := by decide +kernel
theorem dX6_readStroke_60 : decode cX6_readStroke 60 = .ok (.iload 7, 2) := by decide +kernel
theorem dX6_readStroke_62 : decode cX6_readStroke 62 = .ok (.ifCond .eq 32, 3) := by decide +kernel
theorem dX6_readStroke_65 : decode cX6_readStroke 65 = .ok (.aload_n 0, 1) := by decide +kernel
theorem dX6_readStroke_66 : decode cX6_readStroke 66 = .ok (.getfield 21, 3) := by decide +kernel
theorem dX6_readStroke_69 : decode cX6_readStroke 69 = .ok (.iload 5, 2) := by decide +kernel
theorem dX6_readStroke_71 : decode cX6_readStroke 71 = .ok (.aload_n 0, 1) := by decide +kernel
theorem dX6_readStroke_72 : decode cX6_readStroke 72 = .ok (.getfield 9, 3) := by decide +kernel
theorem dX6_readStroke_75 : decode cX6_readStroke 75 = .ok (.iload_n 1, 1) := by decide +kernel
theorem dX6_readStroke_76 : decode cX6_readStroke 76 = .ok (.iload 6, 2) := by decide +kernel
theorem dX6_readStroke_78 : decode cX6_readStroke 78 = .ok (.isub, 1) := by decide +kernel
theorem dX6_readStroke_79 : decode cX6_readStroke 79 = .ok (.iconst 1, 1) := by decide +kernel
theorem dX6_readStroke_80 : decode cX6_readStroke 80 = .ok (.iadd, 1) := by decide +kernel
theorem dX6_readStroke_81 : decode cX6_readStroke 81 = .ok (.invokevirtual 63, 3) := by decide +kernel
theorem dX6_readStroke_84 : decode cX6_readStroke 84 = .ok (.ifCond .eq 10, 3) := by decide +kernel
theorem dX6_readStroke_87 : decode cX6_readStroke 87 = .ok (.iload 6, 2) := by decide +kernel
theorem dX6_readStroke_89 : decode cX6_readStroke 89 = .ok (.istore_n 3, 1) := by decide +kernel
theorem dX6_readStroke_90 : decode cX6_readStroke 90 = .ok (.iload 5, 2) := by decide +kernel
theorem dX6_readStroke_92 : decode cX6_readStroke 92 = .ok (.istore 4, 2) := by decide +kernel
theorem dX6_readStroke_94 : decode cX6_readStroke 94 = .ok (.iinc 5 1, 3) := by decide +kernel
theorem dX6_readStroke_97 : decode cX6_readStroke 97 = .ok (.goto (-83), 3) := by decide +kernel
theorem dX6_readStroke_100 : decode cX6_readStroke 100 = .ok (.aload_n 0, 1) := by decide +kernel
theorem dX6_readStroke_101 : decode cX6_readStroke 101 = .ok (.getfield 18, 3) := by decide +kernel
theorem dX6_readStroke_104 : decode cX6_readStroke 104 = .ok (.iload_n 1, 1) := by decide +kernel
theorem dX6_readStroke_105 : decode cX6_readStroke 105 = .ok (.iload 4, 2) := by decide +kernel
theorem dX6_readStroke_107 : decode cX6_readStroke 107 = .ok (.iastore, 1) := by decide +kernel
theorem dX6_readStroke_108 : decode cX6_readStroke 108 = .ok (.aload_n 0, 1) := by decide +kernel
theorem dX6_readStroke_109 : decode cX6_readStroke 109 = .ok (.getfield 15, 3) := by decide +kernel
theorem dX6_readStroke_112 : decode cX6_readStroke 112 = .ok (.iload_n 1, 1) := by decide +kernel
theorem dX6_readStroke_113 : decode cX6_readStroke 113 = .ok (.iload 4, 2) := by decide +kernel
theorem dX6_readStroke_115 : decode cX6_readStroke 115 = .ok (.iconst (-1), 1) := by decide +kernel
theorem dX6_readStroke_116 : decode cX6_readStroke 116 = .ok (.if_icmp .ne 7, 3) := by decide +kernel
theorem dX6_readStroke_119 : decode cX6_readStroke 119 = .ok (.iload_n 1, 1) := by decide +kernel
theorem dX6_readStroke_120 : decode cX6_readStroke 120 = .ok (.goto 8, 3) := by decide +kernel
theorem dX6_readStroke_123 : decode cX6_readStroke 123 = .ok (.iload_n 1, 1) := by decide +kernel
theorem dX6_readStroke_124 : decode cX6_readStroke 124 = .ok (.iload_n 3, 1) := by decide +kernel
theorem dX6_readStroke_125 : decode cX6_readStroke 125 = .ok (.isub, 1) := by decide +kernel
theorem dX6_readStroke_126 : decode cX6_readStroke 126 = .ok (.iconst 1, 1) := by decide +kernel
theorem dX6_readStroke_127 : decode cX6_readStroke 127 = .ok (.iadd, 1) := by decide +kernel
theorem dX6_readStroke_128 : decode cX6_readStroke 128 = .ok (.iastore, 1) := by decide +kernel
theorem dX6_readStroke_129 : decode cX6_readStroke 129 = .ok (.return_, 1) := by decide +kernel
theorem dX6_lengthsAt_0 : decode cX6_lengthsAt 0 = .ok (.iconst 0, 1) := by decide +kernel
theorem dX6_lengthsAt_1 : decode cX6_lengthsAt 1 = .ok (.istore_n 2, 1) := by decide +kernel
theorem dX6_lengthsAt_2 : decode cX6_lengthsAt 2 = .ok (.iload_n 1, 1) := by decide +kernel
theorem dX6_lengthsAt_3 : decode cX6_lengthsAt 3 = .ok (.istore_n 3, 1) := by decide +kernel
theorem dX6_lengthsAt_4 : decode cX6_lengthsAt 4 = .ok (.iconst 1, 1) := by decide +kernel
theorem dX6_lengthsAt_5 : decode cX6_lengthsAt 5 = .ok (.istore 4, 2) := by decide +kernel
theorem dX6_lengthsAt_7 : decode cX6_lengthsAt 7 = .ok (.iload 4, 2) := by decide +kernel
theorem dX6_lengthsAt_9 : decode cX6_lengthsAt 9 = .ok (.iconst 5, 1) := by decide +kernel
theorem dX6_lengthsAt_10 : decode cX6_lengthsAt 10 = .ok (.if_icmp .gt 47, 3) := by decide +kernel
theorem dX6_lengthsAt_13 : decode cX6_lengthsAt 13 = .ok (.iload_n 3, 1) := by decide +kernel
theorem dX6_lengthsAt_14 : decode cX6_lengthsAt 14 = .ok (.ifCond .lt 43, 3) := by decide +kernel
theorem dX6_lengthsAt_17 : decode cX6_lengthsAt 17 = .ok (.iload_n 1, 1) := by decide +kernel
theorem dX6_lengthsAt_18 : decode cX6_lengthsAt 18 = .ok (.iload_n 3, 1) := by decide +kernel
theorem dX6_lengthsAt_19 : decode cX6_lengthsAt 19 = .ok (.isub, 1) := by decide +kernel
theorem dX6_lengthsAt_20 : decode cX6_lengthsAt 20 = .ok (.iconst 1, 1) := by decide +kernel
theorem dX6_lengthsAt_21 : decode cX6_lengthsAt 21 = .ok (.iadd, 1) := by decide +kernel
theorem dX6_lengthsAt_22 : decode cX6_lengthsAt 22 = .ok (.iload 4, 2) := by decide +kernel
theorem dX6_lengthsAt_24 : decode cX6_lengthsAt 24 = .ok (.if_icmp .ne 27, 3) := by decide +kernel
theorem dX6_lengthsAt_27 : decode cX6_lengthsAt 27 = .ok (.iload_n 2, 1) := by decide +kernel
theorem dX6_lengthsAt_28 : decode cX6_lengthsAt 28 = .ok (.iconst 1, 1) := by decide +kernel
theorem dX6_lengthsAt_29 : decode cX6_lengthsAt 29 = .ok (.iload 4, 2) := by decide +kernel
theorem dX6_lengthsAt_31 : decode cX6_lengthsAt 31 = .ok (.ishl, 1) := by decide +kernel
theorem dX6_lengthsAt_32 : decode cX6_lengthsAt 32 = .ok (.ior, 1) := by decide +kernel
theorem dX6_lengthsAt_33 : decode cX6_lengthsAt 33 = .ok (.istore_n 2, 1) := by decide +kernel
theorem dX6_lengthsAt_34 : decode cX6_lengthsAt 34 = .ok (.iload_n 3, 1) := by decide +kernel
theorem dX6_lengthsAt_35 : decode cX6_lengthsAt 35 = .ok (.ifCond .le 14, 3) := by decide +kernel
theorem dX6_lengthsAt_38 : decode cX6_lengthsAt 38 = .ok (.aload_n 0, 1) := by decide +kernel
theorem dX6_lengthsAt_39 : decode cX6_lengthsAt 39 = .ok (.getfield 15, 3) := by decide +kernel
theorem dX6_lengthsAt_42 : decode cX6_lengthsAt 42 = .ok (.iload_n 3, 1) := by decide +kernel
theorem dX6_lengthsAt_43 : decode cX6_lengthsAt 43 = .ok (.iconst 1, 1) := by decide +kernel
theorem dX6_lengthsAt_44 : decode cX6_lengthsAt 44 = .ok (.isub, 1) := by decide +kernel
theorem dX6_lengthsAt_45 : decode cX6_lengthsAt 45 = .ok (.iaload, 1) := by decide +kernel
theorem dX6_lengthsAt_46 : decode cX6_lengthsAt 46 = .ok (.goto 4, 3) := by decide +kernel
theorem dX6_lengthsAt_49 : decode cX6_lengthsAt 49 = .ok (.iconst (-1), 1) := by decide +kernel
theorem dX6_lengthsAt_50 : decode cX6_lengthsAt 50 = .ok (.istore_n 3, 1) := by decide +kernel
theorem dX6_lengthsAt_51 : decode cX6_lengthsAt 51 = .ok (.iinc 4 1, 3) := by decide +kernel
theorem dX6_lengthsAt_54 : decode cX6_lengthsAt 54 = .ok (.goto (-47), 3) := by decide +kernel
theorem dX6_lengthsAt_57 : decode cX6_lengthsAt 57 = .ok (.iload_n 2, 1) := by decide +kernel
theorem dX6_lengthsAt_58 : decode cX6_lengthsAt 58 = .ok (.ireturn, 1) := by decide +kernel
theorem dX7_init_0 : decode cX7_init 0 = .ok (.aload_n 0, 1) := by decide +kernel
theorem dX7_init_1 : decode cX7_init 1 = .ok (.invokespecial 3, 3) := by decide +kernel
theorem dX7_init_4 : decode cX7_init 4 = .ok (.aload_n 0, 1) := by decide +kernel
theorem dX7_init_5 : decode cX7_init 5 = .ok (.bipush 60, 2) := by decide +kernel
theorem dX7_init_7 : decode cX7_init 7 = .ok (.newarray .int, 2) := by decide +kernel
theorem dX7_init_9 : decode cX7_init 9 = .ok (.putfield 9, 3) := by decide +kernel
theorem dX7_init_12 : decode cX7_init 12 = .ok (.aload_n 0, 1) := by decide +kernel
theorem dX7_init_13 : decode cX7_init 13 = .ok (.aload_n 1, 1) := by decide +kernel
theorem dX7_init_14 : decode cX7_init 14 = .ok (.putfield 15, 3) := by decide +kernel
theorem dX7_init_17 : decode cX7_init 17 = .ok (.return_, 1) := by decide +kernel
set_option maxRecDepth 20000 in
theorem ggX7_gather_X0_strokesOf : GoodIn wsX7_gather wsX0_strokesOf := goodIn_r _ [9, 10, 11, 30, 31, 32, 33, 34, 35] (by decide +kernel) (by decide +kernel)
set_option maxRecDepth 20000 in
theorem gX7_gather_X0_strokesOf : GoodIn wsX7_gather (wsV RX7 23 RX0 yX0_strokesOf wsX0_strokesOf) := goodIn_app (goodIn_of _ (by decide +kernel)) ggX7_gather_X0_strokesOf
set_option maxRecDepth 20000 in
theorem ggX7_gather_X0_size : GoodIn wsX7_gather wsX0_size := goodIn_r _ [15, 10, 30, 31, 32, 33, 34, 35] (by decide +kernel) (by decide +kernel)
set_option maxRecDepth 20000 in
theorem gX7_gather_X0_size : GoodIn wsX7_gather (wsV RX7 32 RX0 yX0_size wsX0_size) := goodIn_app (goodIn_of _ (by decide +kernel)) ggX7_gather_X0_size
set_option maxRecDepth 20000 in
theorem ggX7_gather_X7_areStrokesAlike : GoodIn wsX7_gather wsX7_areStrokesAlike := goodIn_r _ [20, 2, 21, 22, 23, 8, 24, 10, 11, 25, 26, 27, 28, 29, 30, 31, 32, 33, 34, 35] (by decide +kernel) (by decide +kernel)
set_option maxRecDepth 20000 in
theorem gX7_gather_X7_areStrokesAlike : GoodIn wsX7_gather (wsV RX7 35 RX7 yX7_areStrokesAlike wsX7_areStrokesAlike) := goodIn_app (goodIn_of _ (by decide +kernel)) ggX7_gather_X7_areStrokesAlike
theorem dX7_gather_0 : decode cX7_gather 0 = .ok (.aload_n 0, 1) := by decide +kernel
theorem dX7_gather_1 : decode cX7_gather 1 = .ok (.iconst 0, 1) := by decide +kernel
theorem dX7_gather_2 : decode cX7_gather 2 = .ok (.putfield 19, 3) := by decide +kernel
theorem dX7_gather_5 : decode cX7_gather 5 = .ok (.aload_n 0, 1) := by decide +kernel
theorem dX7_gather_6 : decode cX7_gather 6 = .ok (.aload_n 0, 1) := by decide +kernel
theorem dX7_gather_7 : decode cX7_gather 7 = .ok (.getfield 15, 3) := by decide +kernel
theorem dX7_gather_10 : decode cX7_gather 10 = .ok (.iload_n 1, 1) := by decide +kernel
theorem dX7_gather_11 : decode cX7_gather 11 = .ok (.invokevirtual 23, 3) := by decide +kernel
theorem dX7_gather_14 : decode cX7_gather 14 = .ok (.putfield 29, 3) := by decide +kernel
theorem dX7_gather_17 : decode cX7_gather 17 = .ok (.iconst 0, 1) := by decide +kernel
theorem dX7_gather_18 : decode cX7_gather 18 = .ok (.istore_n 2, 1) := by decide +kernel
theorem dX7_gather_19 : decode cX7_gather 19 = .ok (.iload_n 2, 1) := by decide +kernel
theorem dX7_gather_20 : decode cX7_gather 20 = .ok (.aload_n 0, 1) := by decide +kernel
theorem dX7_gather_21 : decode cX7_gather 21 = .ok (.getfield 15, 3) := by decide +kernel
theorem dX7_gather_24 : decode cX7_gather 24 = .ok (.invokevirtual 32, 3) := by decide +kernel
theorem dX7_gather_27 : decode cX7_gather 27 = .ok (.if_icmp .ge 77, 3) := by decide +kernel
theorem dX7_gather_30 : decode cX7_gather 30 = .ok (.aload_n 0, 1) := by decide +kernel
theorem dX7_gather_31 : decode cX7_gather 31 = .ok (.getfield 15, 3) := by decide +kernel
theorem dX7_gather_34 : decode cX7_gather 34 = .ok (.iload_n 2, 1) := by decide +kernel
theorem dX7_gather_35 : decode cX7_gather 35 = .ok (.invokevirtual 23, 3) := by decide +kernel
theorem dX7_gather_38 : decode cX7_gather 38 = .ok (.aload_n 0, 1) := by decide +kernel
theorem dX7_gather_39 : decode cX7_gather 39 = .ok (.getfield 29, 3) := by decide +kernel
theorem dX7_gather_42 : decode cX7_gather 42 = .ok (.if_icmp .le 21, 3) := by decide +kernel
theorem dX7_gather_45 : decode cX7_gather 45 = .ok (.aload_n 0, 1) := by decide +kernel
theorem dX7_gather_46 : decode cX7_gather 46 = .ok (.iload_n 1, 1) := by decide +kernel
theorem dX7_gather_47 : decode cX7_gather 47 = .ok (.iload_n 2, 1) := by decide +kernel
theorem dX7_gather_48 : decode cX7_gather 48 = .ok (.iconst 0, 1) := by decide +kernel
theorem dX7_gather_49 : decode cX7_gather 49 = .ok (.aload_n 0, 1) := by decide +kernel
theorem dX7_gather_50 : decode cX7_gather 50 = .ok (.getfield 29, 3) := by decide +kernel
theorem dX7_gather_53 : decode cX7_gather 53 = .ok (.invokevirtual 35, 3) := by decide +kernel
theorem dX7_gather_56 : decode cX7_gather 56 = .ok (.ifCond .eq 7, 3) := by decide +kernel
theorem dX7_gather_59 : decode cX7_gather 59 = .ok (.iconst 1, 1) := by decide +kernel
theorem dX7_gather_60 : decode cX7_gather 60 = .ok (.goto 4, 3) := by decide +kernel
theorem dX7_gather_63 : decode cX7_gather 63 = .ok (.iconst 0, 1) := by decide +kernel
theorem dX7_gather_64 : decode cX7_gather 64 = .ok (.istore_n 3, 1) := by decide +kernel
theorem dX7_gather_65 : decode cX7_gather 65 = .ok (.iload_n 3, 1) := by decide +kernel
theorem dX7_gather_66 : decode cX7_gather 66 = .ok (.ifCond .eq 32, 3) := by decide +kernel
theorem dX7_gather_69 : decode cX7_gather 69 = .ok (.aload_n 0, 1) := by decide +kernel
theorem dX7_gather_70 : decode cX7_gather 70 = .ok (.getfield 19, 3) := by decide +kernel
theorem dX7_gather_73 : decode cX7_gather 73 = .ok (.bipush 60, 2) := by decide +kernel
theorem dX7_gather_75 : decode cX7_gather 75 = .ok (.if_icmp .ge 23, 3) := by decide +kernel
theorem dX7_gather_78 : decode cX7_gather 78 = .ok (.aload_n 0, 1) := by decide +kernel
theorem dX7_gather_79 : decode cX7_gather 79 = .ok (.getfield 9, 3) := by decide +kernel
theorem dX7_gather_82 : decode cX7_gather 82 = .ok (.aload_n 0, 1) := by decide +kernel
theorem dX7_gather_83 : decode cX7_gather 83 = .ok (.getfield 19, 3) := by decide +kernel
theorem dX7_gather_86 : decode cX7_gather 86 = .ok (.iload_n 2, 1) := by decide +kernel
theorem dX7_gather_87 : decode cX7_gather 87 = .ok (.iastore, 1) := by decide +kernel
theorem dX7_gather_88 : decode cX7_gather 88 = .ok (.aload_n 0, 1) := by decide +kernel
theorem dX7_gather_89 : decode cX7_gather 89 = .ok (.dup, 1) := by decide +kernel
theorem dX7_gather_90 : decode cX7_gather 90 = .ok (.getfield 19, 3) := by decide +kernel
theorem dX7_gather_93 : decode cX7_gather 93 = .ok (.iconst 1, 1) := by decide +kernel
theorem dX7_gather_94 : decode cX7_gather 94 = .ok (.iadd, 1) := by decide +kernel
theorem dX7_gather_95 : decode cX7_gather 95 = .ok (.putfield 19, 3) := by decide +kernel
theorem dX7_gather_98 : decode cX7_gather 98 = .ok (.iinc 2 1, 3) := by decide +kernel
theorem dX7_gather_101 : decode cX7_gather 101 = .ok (.goto (-82), 3) := by decide +kernel
theorem dX7_gather_104 : decode cX7_gather 104 = .ok (.return_, 1) := by decide +kernel
set_option maxRecDepth 20000 in
theorem ggX7_runInto_X0_strokesOf : GoodIn wsX7_runInto wsX0_strokesOf := goodIn_r _ [9, 10, 11, 26, 27, 28, 29, 30, 31] (by decide +kernel) (by decide +kernel)
set_option maxRecDepth 20000 in
theorem gX7_runInto_X0_strokesOf : GoodIn wsX7_runInto (wsV RX7 23 RX0 yX0_strokesOf wsX0_strokesOf) := goodIn_app (goodIn_of _ (by decide +kernel)) ggX7_runInto_X0_strokesOf
set_option maxRecDepth 20000 in
theorem ggX7_runInto_X7_areStrokesAlike : GoodIn wsX7_runInto wsX7_areStrokesAlike := goodIn_r _ [16, 2, 17, 18, 19, 8, 20, 10, 11, 21, 22, 23, 24, 25, 26, 27, 28, 29, 30, 31] (by decide +kernel) (by decide +kernel)
set_option maxRecDepth 20000 in
theorem gX7_runInto_X7_areStrokesAlike : GoodIn wsX7_runInto (wsV RX7 35 RX7 yX7_areStrokesAlike wsX7_areStrokesAlike) := goodIn_app (goodIn_of _ (by decide +kernel)) ggX7_runInto_X7_areStrokesAlike
theorem dX7_runInto_0 : decode cX7_runInto 0 = .ok (.iconst 0, 1) := by decide +kernel
theorem dX7_runInto_1 : decode cX7_runInto 1 = .ok (.istore_n 2, 1) := by decide +kernel
theorem dX7_runInto_2 : decode cX7_runInto 2 = .ok (.iload_n 2, 1) := by decide +kernel
theorem dX7_runInto_3 : decode cX7_runInto 3 = .ok (.aload_n 0, 1) := by decide +kernel
theorem dX7_runInto_4 : decode cX7_runInto 4 = .ok (.getfield 19, 3) := by decide +kernel
theorem dX7_runInto_7 : decode cX7_runInto 7 = .ok (.if_icmp .ge 61, 3) := by decide +kernel
theorem dX7_runInto_10 : decode cX7_runInto 10 = .ok (.aload_n 0, 1) := by decide +kernel
theorem dX7_runInto_11 : decode cX7_runInto 11 = .ok (.getfield 15, 3) := by decide +kernel
theorem dX7_runInto_14 : decode cX7_runInto 14 = .ok (.aload_n 0, 1) := by decide +kernel
theorem dX7_runInto_15 : decode cX7_runInto 15 = .ok (.getfield 9, 3) := by decide +kernel
theorem dX7_runInto_18 : decode cX7_runInto 18 = .ok (.iload_n 2, 1) := by decide +kernel
theorem dX7_runInto_19 : decode cX7_runInto 19 = .ok (.iaload, 1) := by decide +kernel
theorem dX7_runInto_20 : decode cX7_runInto 20 = .ok (.invokevirtual 23, 3) := by decide +kernel
theorem dX7_runInto_23 : decode cX7_runInto 23 = .ok (.aload_n 0, 1) := by decide +kernel
theorem dX7_runInto_24 : decode cX7_runInto 24 = .ok (.getfield 29, 3) := by decide +kernel
theorem dX7_runInto_27 : decode cX7_runInto 27 = .ok (.isub, 1) := by decide +kernel
theorem dX7_runInto_28 : decode cX7_runInto 28 = .ok (.istore_n 3, 1) := by decide +kernel
theorem dX7_runInto_29 : decode cX7_runInto 29 = .ok (.iload_n 3, 1) := by decide +kernel
theorem dX7_runInto_30 : decode cX7_runInto 30 = .ok (.aload_n 0, 1) := by decide +kernel
theorem dX7_runInto_31 : decode cX7_runInto 31 = .ok (.getfield 15, 3) := by decide +kernel
theorem dX7_runInto_34 : decode cX7_runInto 34 = .ok (.iload_n 1, 1) := by decide +kernel
theorem dX7_runInto_35 : decode cX7_runInto 35 = .ok (.invokevirtual 23, 3) := by decide +kernel
theorem dX7_runInto_38 : decode cX7_runInto 38 = .ok (.if_icmp .gt 24, 3) := by decide +kernel
theorem dX7_runInto_41 : decode cX7_runInto 41 = .ok (.aload_n 0, 1) := by decide +kernel
theorem dX7_runInto_42 : decode cX7_runInto 42 = .ok (.iload_n 1, 1) := by decide +kernel
theorem dX7_runInto_43 : decode cX7_runInto 43 = .ok (.aload_n 0, 1) := by decide +kernel
theorem dX7_runInto_44 : decode cX7_runInto 44 = .ok (.getfield 9, 3) := by decide +kernel
theorem dX7_runInto_47 : decode cX7_runInto 47 = .ok (.iload_n 2, 1) := by decide +kernel
theorem dX7_runInto_48 : decode cX7_runInto 48 = .ok (.iaload, 1) := by decide +kernel
theorem dX7_runInto_49 : decode cX7_runInto 49 = .ok (.aload_n 0, 1) := by decide +kernel
theorem dX7_runInto_50 : decode cX7_runInto 50 = .ok (.getfield 29, 3) := by decide +kernel
theorem dX7_runInto_53 : decode cX7_runInto 53 = .ok (.iload_n 3, 1) := by decide +kernel
theorem dX7_runInto_54 : decode cX7_runInto 54 = .ok (.invokevirtual 35, 3) := by decide +kernel
theorem dX7_runInto_57 : decode cX7_runInto 57 = .ok (.ifCond .eq 5, 3) := by decide +kernel
theorem dX7_runInto_60 : decode cX7_runInto 60 = .ok (.iconst 1, 1) := by decide +kernel
theorem dX7_runInto_61 : decode cX7_runInto 61 = .ok (.ireturn, 1) := by decide +kernel
theorem dX7_runInto_62 : decode cX7_runInto 62 = .ok (.iinc 2 1, 3) := by decide +kernel
theorem dX7_runInto_65 : decode cX7_runInto 65 = .ok (.goto (-63), 3) := by decide +kernel
theorem dX7_runInto_68 : decode cX7_runInto 68 = .ok (.iconst 0, 1) := by decide +kernel
theorem dX7_runInto_69 : decode cX7_runInto 69 = .ok (.ireturn, 1) := by decide +kernel
set_option maxRecDepth 20000 in
theorem ggX7_pairAt_X0_size : GoodIn wsX7_pairAt wsX0_size := goodIn_r _ [7, 8, 38, 39, 40, 41, 42, 43] (by decide +kernel) (by decide +kernel)
set_option maxRecDepth 20000 in
theorem gX7_pairAt_X0_size : GoodIn wsX7_pairAt (wsV RX7 32 RX0 yX0_size wsX0_size) := goodIn_app (goodIn_of _ (by decide +kernel)) ggX7_pairAt_X0_size
set_option maxRecDepth 20000 in
theorem ggX7_pairAt_X7_gather : GoodIn wsX7_pairAt wsX7_gather := goodIn_r _ [13, 2, 1, 14, 15, 16, 17, 18, 6, 19, 8, 20, 3, 4, 5, 7, 21, 22, 23, 12, 24, 25, 26, 27, 28, 29, 34, 35, 36, 37, 38, 39, 40, 41, 42, 43] (by decide +kernel) (by decide +kernel)
set_option maxRecDepth 20000 in
theorem gX7_pairAt_X7_gather : GoodIn wsX7_pairAt (wsV RX7 39 RX7 yX7_gather wsX7_gather) := goodIn_app (goodIn_of _ (by decide +kernel)) ggX7_pairAt_X7_gather
set_option maxRecDepth 20000 in
theorem ggX7_pairAt_X7_runInto : GoodIn wsX7_pairAt wsX7_runInto := goodIn_r _ [33, 2, 1, 15, 14, 16, 17, 18, 6, 19, 8, 20, 21, 22, 23, 12, 24, 25, 26, 27, 28, 29, 34, 35, 36, 37, 38, 39, 40, 41, 42, 43] (by decide +kernel) (by decide +kernel)
set_option maxRecDepth 20000 in
theorem gX7_pairAt_X7_runInto : GoodIn wsX7_pairAt (wsV RX7 43 RX7 yX7_runInto wsX7_runInto) := goodIn_app (goodIn_of _ (by decide +kernel)) ggX7_pairAt_X7_runInto
theorem dX7_pairAt_0 : decode cX7_pairAt 0 = .ok (.iload_n 1, 1) := by decide +kernel
theorem dX7_pairAt_1 : decode cX7_pairAt 1 = .ok (.istore_n 2, 1) := by decide +kernel
theorem dX7_pairAt_2 : decode cX7_pairAt 2 = .ok (.iconst 0, 1) := by decide +kernel
theorem dX7_pairAt_3 : decode cX7_pairAt 3 = .ok (.istore_n 3, 1) := by decide +kernel
theorem dX7_pairAt_4 : decode cX7_pairAt 4 = .ok (.iload_n 3, 1) := by decide +kernel
theorem dX7_pairAt_5 : decode cX7_pairAt 5 = .ok (.aload_n 0, 1) := by decide +kernel
theorem dX7_pairAt_6 : decode cX7_pairAt 6 = .ok (.getfield 15, 3) := by decide +kernel
theorem dX7_pairAt_9 : decode cX7_pairAt 9 = .ok (.invokevirtual 32, 3) := by decide +kernel
theorem dX7_pairAt_12 : decode cX7_pairAt 12 = .ok (.if_icmp .ge 66, 3) := by decide +kernel
theorem dX7_pairAt_15 : decode cX7_pairAt 15 = .ok (.aload_n 0, 1) := by decide +kernel
theorem dX7_pairAt_16 : decode cX7_pairAt 16 = .ok (.iload_n 3, 1) := by decide +kernel
theorem dX7_pairAt_17 : decode cX7_pairAt 17 = .ok (.invokevirtual 39, 3) := by decide +kernel
theorem dX7_pairAt_20 : decode cX7_pairAt 20 = .ok (.iconst 0, 1) := by decide +kernel
theorem dX7_pairAt_21 : decode cX7_pairAt 21 = .ok (.istore 4, 2) := by decide +kernel
theorem dX7_pairAt_23 : decode cX7_pairAt 23 = .ok (.iload 4, 2) := by decide +kernel
theorem dX7_pairAt_25 : decode cX7_pairAt 25 = .ok (.aload_n 0, 1) := by decide +kernel
theorem dX7_pairAt_26 : decode cX7_pairAt 26 = .ok (.getfield 15, 3) := by decide +kernel
theorem dX7_pairAt_29 : decode cX7_pairAt 29 = .ok (.invokevirtual 32, 3) := by decide +kernel
theorem dX7_pairAt_32 : decode cX7_pairAt 32 = .ok (.if_icmp .ge 40, 3) := by decide +kernel
theorem dX7_pairAt_35 : decode cX7_pairAt 35 = .ok (.aload_n 0, 1) := by decide +kernel
theorem dX7_pairAt_36 : decode cX7_pairAt 36 = .ok (.getfield 19, 3) := by decide +kernel
theorem dX7_pairAt_39 : decode cX7_pairAt 39 = .ok (.ifCond .le 33, 3) := by decide +kernel
theorem dX7_pairAt_42 : decode cX7_pairAt 42 = .ok (.aload_n 0, 1) := by decide +kernel
theorem dX7_pairAt_43 : decode cX7_pairAt 43 = .ok (.iload 4, 2) := by decide +kernel
theorem dX7_pairAt_45 : decode cX7_pairAt 45 = .ok (.invokevirtual 43, 3) := by decide +kernel
theorem dX7_pairAt_48 : decode cX7_pairAt 48 = .ok (.ifCond .eq 18, 3) := by decide +kernel
theorem dX7_pairAt_51 : decode cX7_pairAt 51 = .ok (.iload_n 2, 1) := by decide +kernel
theorem dX7_pairAt_52 : decode cX7_pairAt 52 = .ok (.ifCond .ne 11, 3) := by decide +kernel
theorem dX7_pairAt_55 : decode cX7_pairAt 55 = .ok (.bipush 64, 2) := by decide +kernel
theorem dX7_pairAt_57 : decode cX7_pairAt 57 = .ok (.iload_n 3, 1) := by decide +kernel
theorem dX7_pairAt_58 : decode cX7_pairAt 58 = .ok (.imul, 1) := by decide +kernel
theorem dX7_pairAt_59 : decode cX7_pairAt 59 = .ok (.iload 4, 2) := by decide +kernel
theorem dX7_pairAt_61 : decode cX7_pairAt 61 = .ok (.iadd, 1) := by decide +kernel
theorem dX7_pairAt_62 : decode cX7_pairAt 62 = .ok (.ireturn, 1) := by decide +kernel
theorem dX7_pairAt_63 : decode cX7_pairAt 63 = .ok (.iinc 2 (-1), 3) := by decide +kernel
theorem dX7_pairAt_66 : decode cX7_pairAt 66 = .ok (.iinc 4 1, 3) := by decide +kernel
theorem dX7_pairAt_69 : decode cX7_pairAt 69 = .ok (.goto (-46), 3) := by decide +kernel
theorem dX7_pairAt_72 : decode cX7_pairAt 72 = .ok (.iinc 3 1, 3) := by decide +kernel
theorem dX7_pairAt_75 : decode cX7_pairAt 75 = .ok (.goto (-71), 3) := by decide +kernel
theorem dX7_pairAt_78 : decode cX7_pairAt 78 = .ok (.iconst (-1), 1) := by decide +kernel
theorem dX7_pairAt_79 : decode cX7_pairAt 79 = .ok (.ireturn, 1) := by decide +kernel
set_option maxRecDepth 20000 in
theorem ggX7_areStrokesAlike_X0_strokeAt : GoodIn wsX7_areStrokesAlike wsX0_strokeAt := goodIn_r _ [6, 7, 8, 9, 14, 15, 16, 17, 18, 19] (by decide +kernel) (by decide +kernel)
set_option maxRecDepth 20000 in
theorem gX7_areStrokesAlike_X0_strokeAt : GoodIn wsX7_areStrokesAlike (wsV RX7 47 RX0 yX0_strokeAt wsX0_strokeAt) := goodIn_app (goodIn_of _ (by decide +kernel)) ggX7_areStrokesAlike_X0_strokeAt
theorem dX7_areStrokesAlike_0 : decode cX7_areStrokesAlike 0 = .ok (.iconst 0, 1) := by decide +kernel
theorem dX7_areStrokesAlike_1 : decode cX7_areStrokesAlike 1 = .ok (.istore 5, 2) := by decide +kernel
theorem dX7_areStrokesAlike_3 : decode cX7_areStrokesAlike 3 = .ok (.iload 5, 2) := by decide +kernel
theorem dX7_areStrokesAlike_5 : decode cX7_areStrokesAlike 5 = .ok (.iload 4, 2) := by decide +kernel
theorem dX7_areStrokesAlike_7 : decode cX7_areStrokesAlike 7 = .ok (.if_icmp .ge 36, 3) := by decide +kernel
theorem dX7_areStrokesAlike_10 : decode cX7_areStrokesAlike 10 = .ok (.aload_n 0, 1) := by decide +kernel
theorem dX7_areStrokesAlike_11 : decode cX7_areStrokesAlike 11 = .ok (.getfield 15, 3) := by decide +kernel
theorem dX7_areStrokesAlike_14 : decode cX7_areStrokesAlike 14 = .ok (.iload_n 1, 1) := by decide +kernel
theorem dX7_areStrokesAlike_15 : decode cX7_areStrokesAlike 15 = .ok (.iload 5, 2) := by decide +kernel
theorem dX7_areStrokesAlike_17 : decode cX7_areStrokesAlike 17 = .ok (.invokevirtual 47, 3) := by decide +kernel
theorem dX7_areStrokesAlike_20 : decode cX7_areStrokesAlike 20 = .ok (.aload_n 0, 1) := by decide +kernel
theorem dX7_areStrokesAlike_21 : decode cX7_areStrokesAlike 21 = .ok (.getfield 15, 3) := by decide +kernel
theorem dX7_areStrokesAlike_24 : decode cX7_areStrokesAlike 24 = .ok (.iload_n 2, 1) := by decide +kernel
theorem dX7_areStrokesAlike_25 : decode cX7_areStrokesAlike 25 = .ok (.iload_n 3, 1) := by decide +kernel
theorem dX7_areStrokesAlike_26 : decode cX7_areStrokesAlike 26 = .ok (.iload 5, 2) := by decide +kernel
theorem dX7_areStrokesAlike_28 : decode cX7_areStrokesAlike 28 = .ok (.iadd, 1) := by decide +kernel
theorem dX7_areStrokesAlike_29 : decode cX7_areStrokesAlike 29 = .ok (.invokevirtual 47, 3) := by decide +kernel
theorem dX7_areStrokesAlike_32 : decode cX7_areStrokesAlike 32 = .ok (.if_icmp .eq 5, 3) := by decide +kernel
theorem dX7_areStrokesAlike_35 : decode cX7_areStrokesAlike 35 = .ok (.iconst 0, 1) := by decide +kernel
theorem dX7_areStrokesAlike_36 : decode cX7_areStrokesAlike 36 = .ok (.ireturn, 1) := by decide +kernel
theorem dX7_areStrokesAlike_37 : decode cX7_areStrokesAlike 37 = .ok (.iinc 5 1, 3) := by decide +kernel
theorem dX7_areStrokesAlike_40 : decode cX7_areStrokesAlike 40 = .ok (.goto (-37), 3) := by decide +kernel
theorem dX7_areStrokesAlike_43 : decode cX7_areStrokesAlike 43 = .ok (.iconst 1, 1) := by decide +kernel
theorem dX7_areStrokesAlike_44 : decode cX7_areStrokesAlike 44 = .ok (.ireturn, 1) := by decide +kernel
theorem dX8_init_0 : decode cX8_init 0 = .ok (.aload_n 0, 1) := by decide +kernel
theorem dX8_init_1 : decode cX8_init 1 = .ok (.invokespecial 3, 3) := by decide +kernel
theorem dX8_init_4 : decode cX8_init 4 = .ok (.aload_n 0, 1) := by decide +kernel
theorem dX8_init_5 : decode cX8_init 5 = .ok (.bipush 80, 2) := by decide +kernel
theorem dX8_init_7 : decode cX8_init 7 = .ok (.newarray .byte, 2) := by decide +kernel
theorem dX8_init_9 : decode cX8_init 9 = .ok (.putfield 9, 3) := by decide +kernel
theorem dX8_init_12 : decode cX8_init 12 = .ok (.return_, 1) := by decide +kernel
theorem dX8_size_0 : decode cX8_size 0 = .ok (.aload_n 0, 1) := by decide +kernel
theorem dX8_size_1 : decode cX8_size 1 = .ok (.getfield 15, 3) := by decide +kernel
theorem dX8_size_4 : decode cX8_size 4 = .ok (.ireturn, 1) := by decide +kernel
theorem dX8_hasRoom_0 : decode cX8_hasRoom 0 = .ok (.iload_n 1, 1) := by decide +kernel
theorem dX8_hasRoom_1 : decode cX8_hasRoom 1 = .ok (.bipush 80, 2) := by decide +kernel
theorem dX8_hasRoom_3 : decode cX8_hasRoom 3 = .ok (.aload_n 0, 1) := by decide +kernel
theorem dX8_hasRoom_4 : decode cX8_hasRoom 4 = .ok (.getfield 15, 3) := by decide +kernel
theorem dX8_hasRoom_7 : decode cX8_hasRoom 7 = .ok (.isub, 1) := by decide +kernel
theorem dX8_hasRoom_8 : decode cX8_hasRoom 8 = .ok (.if_icmp .gt 7, 3) := by decide +kernel
theorem dX8_hasRoom_11 : decode cX8_hasRoom 11 = .ok (.iconst 1, 1) := by decide +kernel
theorem dX8_hasRoom_12 : decode cX8_hasRoom 12 = .ok (.goto 4, 3) := by decide +kernel
theorem dX8_hasRoom_15 : decode cX8_hasRoom 15 = .ok (.iconst 0, 1) := by decide +kernel
theorem dX8_hasRoom_16 : decode cX8_hasRoom 16 = .ok (.ireturn, 1) := by decide +kernel
theorem dX8_add_0 : decode cX8_add 0 = .ok (.bipush 24, 2) := by decide +kernel
theorem dX8_add_2 : decode cX8_add 2 = .ok (.istore_n 2, 1) := by decide +kernel
theorem dX8_add_3 : decode cX8_add 3 = .ok (.iload_n 2, 1) := by decide +kernel
theorem dX8_add_4 : decode cX8_add 4 = .ok (.ifCond .lt 41, 3) := by decide +kernel
theorem dX8_add_7 : decode cX8_add 7 = .ok (.aload_n 0, 1) := by decide +kernel
theorem dX8_add_8 : decode cX8_add 8 = .ok (.getfield 15, 3) := by decide +kernel
theorem dX8_add_11 : decode cX8_add 11 = .ok (.bipush 80, 2) := by decide +kernel
theorem dX8_add_13 : decode cX8_add 13 = .ok (.if_icmp .ge 26, 3) := by decide +kernel
theorem dX8_add_16 : decode cX8_add 16 = .ok (.aload_n 0, 1) := by decide +kernel
theorem dX8_add_17 : decode cX8_add 17 = .ok (.getfield 9, 3) := by decide +kernel
theorem dX8_add_20 : decode cX8_add 20 = .ok (.aload_n 0, 1) := by decide +kernel
theorem dX8_add_21 : decode cX8_add 21 = .ok (.getfield 15, 3) := by decide +kernel
theorem dX8_add_24 : decode cX8_add 24 = .ok (.iload_n 1, 1) := by decide +kernel
theorem dX8_add_25 : decode cX8_add 25 = .ok (.iload_n 2, 1) := by decide +kernel
theorem dX8_add_26 : decode cX8_add 26 = .ok (.ishr, 1) := by decide +kernel
theorem dX8_add_27 : decode cX8_add 27 = .ok (.i2b, 1) := by decide +kernel
theorem dX8_add_28 : decode cX8_add 28 = .ok (.bastore, 1) := by decide +kernel
theorem dX8_add_29 : decode cX8_add 29 = .ok (.aload_n 0, 1) := by decide +kernel
theorem dX8_add_30 : decode cX8_add 30 = .ok (.dup, 1) := by decide +kernel
theorem dX8_add_31 : decode cX8_add 31 = .ok (.getfield 15, 3) := by decide +kernel
theorem dX8_add_34 : decode cX8_add 34 = .ok (.iconst 1, 1) := by decide +kernel
theorem dX8_add_35 : decode cX8_add 35 = .ok (.iadd, 1) := by decide +kernel
theorem dX8_add_36 : decode cX8_add 36 = .ok (.putfield 15, 3) := by decide +kernel
theorem dX8_add_39 : decode cX8_add 39 = .ok (.iinc 2 (-8), 3) := by decide +kernel
theorem dX8_add_42 : decode cX8_add 42 = .ok (.goto (-39), 3) := by decide +kernel
theorem dX8_add_45 : decode cX8_add 45 = .ok (.return_, 1) := by decide +kernel
theorem dX8_byteAt_0 : decode cX8_byteAt 0 = .ok (.iload_n 1, 1) := by decide +kernel
theorem dX8_byteAt_1 : decode cX8_byteAt 1 = .ok (.ifCond .lt 24, 3) := by decide +kernel
theorem dX8_byteAt_4 : decode cX8_byteAt 4 = .ok (.iload_n 1, 1) := by decide +kernel
theorem dX8_byteAt_5 : decode cX8_byteAt 5 = .ok (.aload_n 0, 1) := by decide +kernel
theorem dX8_byteAt_6 : decode cX8_byteAt 6 = .ok (.getfield 15, 3) := by decide +kernel
theorem dX8_byteAt_9 : decode cX8_byteAt 9 = .ok (.if_icmp .ge 16, 3) := by decide +kernel
theorem dX8_byteAt_12 : decode cX8_byteAt 12 = .ok (.aload_n 0, 1) := by decide +kernel
theorem dX8_byteAt_13 : decode cX8_byteAt 13 = .ok (.getfield 9, 3) := by decide +kernel
theorem dX8_byteAt_16 : decode cX8_byteAt 16 = .ok (.iload_n 1, 1) := by decide +kernel
theorem dX8_byteAt_17 : decode cX8_byteAt 17 = .ok (.baload, 1) := by decide +kernel
theorem dX8_byteAt_18 : decode cX8_byteAt 18 = .ok (.sipush 255, 3) := by decide +kernel
theorem dX8_byteAt_21 : decode cX8_byteAt 21 = .ok (.iand, 1) := by decide +kernel
theorem dX8_byteAt_22 : decode cX8_byteAt 22 = .ok (.goto 4, 3) := by decide +kernel
theorem dX8_byteAt_25 : decode cX8_byteAt 25 = .ok (.iconst (-1), 1) := by decide +kernel
theorem dX8_byteAt_26 : decode cX8_byteAt 26 = .ok (.ireturn, 1) := by decide +kernel
theorem dX8_wipe_0 : decode cX8_wipe 0 = .ok (.aload_n 0, 1) := by decide +kernel
theorem dX8_wipe_1 : decode cX8_wipe 1 = .ok (.iconst 0, 1) := by decide +kernel
theorem dX8_wipe_2 : decode cX8_wipe 2 = .ok (.putfield 15, 3) := by decide +kernel
theorem dX8_wipe_5 : decode cX8_wipe 5 = .ok (.return_, 1) := by decide +kernel
set_option maxRecDepth 20000 in
theorem ggX9_init_X2_init : GoodIn wsX9_init wsX2_init := goodIn_r _ [16, 17, 2, 3, 18, 19, 20, 21] (by decide +kernel) (by decide +kernel)
set_option maxRecDepth 20000 in
theorem gX9_init_X2_init_n11 : GoodIn wsX9_init (wsX2_init) := ggX9_init_X2_init
theorem dX9_init_0 : decode cX9_init 0 = .ok (.aload_n 0, 1) := by decide +kernel
theorem dX9_init_1 : decode cX9_init 1 = .ok (.invokespecial 3, 3) := by decide +kernel
theorem dX9_init_4 : decode cX9_init 4 = .ok (.aload_n 0, 1) := by decide +kernel
theorem dX9_init_5 : decode cX9_init 5 = .ok (.new 9, 3) := by decide +kernel
theorem dX9_init_8 : decode cX9_init 8 = .ok (.dup, 1) := by decide +kernel
theorem dX9_init_9 : decode cX9_init 9 = .ok (.invokespecial 11, 3) := by decide +kernel
theorem dX9_init_12 : decode cX9_init 12 = .ok (.putfield 12, 3) := by decide +kernel
theorem dX9_init_15 : decode cX9_init 15 = .ok (.aload_n 0, 1) := by decide +kernel
theorem dX9_init_16 : decode cX9_init 16 = .ok (.sipush 300, 3) := by decide +kernel
theorem dX9_init_19 : decode cX9_init 19 = .ok (.newarray .int, 2) := by decide +kernel
theorem dX9_init_21 : decode cX9_init 21 = .ok (.putfield 18, 3) := by decide +kernel
theorem dX9_init_24 : decode cX9_init 24 = .ok (.aload_n 0, 1) := by decide +kernel
theorem dX9_init_25 : decode cX9_init 25 = .ok (.sipush 300, 3) := by decide +kernel
theorem dX9_init_28 : decode cX9_init 28 = .ok (.newarray .int, 2) := by decide +kernel
theorem dX9_init_30 : decode cX9_init 30 = .ok (.putfield 22, 3) := by decide +kernel
theorem dX9_init_33 : decode cX9_init 33 = .ok (.aload_n 0, 1) := by decide +kernel
theorem dX9_init_34 : decode cX9_init 34 = .ok (.sipush 300, 3) := by decide +kernel
theorem dX9_init_37 : decode cX9_init 37 = .ok (.newarray .int, 2) := by decide +kernel
theorem dX9_init_39 : decode cX9_init 39 = .ok (.putfield 25, 3) := by decide +kernel
theorem dX9_init_42 : decode cX9_init 42 = .ok (.aload_n 0, 1) := by decide +kernel
theorem dX9_init_43 : decode cX9_init 43 = .ok (.aload_n 1, 1) := by decide +kernel
theorem dX9_init_44 : decode cX9_init 44 = .ok (.putfield 28, 3) := by decide +kernel
theorem dX9_init_47 : decode cX9_init 47 = .ok (.aload_n 0, 1) := by decide +kernel
theorem dX9_init_48 : decode cX9_init 48 = .ok (.aload_n 2, 1) := by decide +kernel
theorem dX9_init_49 : decode cX9_init 49 = .ok (.putfield 32, 3) := by decide +kernel
theorem dX9_init_52 : decode cX9_init 52 = .ok (.aload_n 0, 1) := by decide +kernel
theorem dX9_init_53 : decode cX9_init 53 = .ok (.aload_n 3, 1) := by decide +kernel
theorem dX9_init_54 : decode cX9_init 54 = .ok (.putfield 36, 3) := by decide +kernel
theorem dX9_init_57 : decode cX9_init 57 = .ok (.return_, 1) := by decide +kernel
theorem dX9_forget_0 : decode cX9_forget 0 = .ok (.aload_n 0, 1) := by decide +kernel
theorem dX9_forget_1 : decode cX9_forget 1 = .ok (.iconst 0, 1) := by decide +kernel
theorem dX9_forget_2 : decode cX9_forget 2 = .ok (.putfield 40, 3) := by decide +kernel
theorem dX9_forget_5 : decode cX9_forget 5 = .ok (.return_, 1) := by decide +kernel
set_option maxRecDepth 20000 in
theorem ggX9_settle_X6_read : GoodIn wsX9_settle wsX6_read := goodIn_r _ [11, 12, 13, 14, 15, 16, 17, 18, 19, 20, 10, 21, 22, 23, 24, 25, 26, 27, 28, 29, 30, 31, 32, 33, 34, 35, 36, 37, 38, 39, 40, 41, 42, 43, 44, 45, 46, 253, 254, 255, 256, 257, 258, 259, 260, 261, 262, 263, 264] (by decide +kernel) (by decide +kernel)
set_option maxRecDepth 20000 in
theorem gX9_settle_X6_read : GoodIn wsX9_settle (wsV RX9 44 RX6 yX6_read wsX6_read) := goodIn_app (goodIn_of _ (by decide +kernel)) ggX9_settle_X6_read
set_option maxRecDepth 20000 in
theorem ggX9_settle_X9_findLasts : GoodIn wsX9_settle wsX9_findLasts := goodIn_r _ [51, 2, 52, 53, 15, 54, 55, 5, 56, 57, 58, 59, 10, 60, 17, 61, 62, 63, 64, 25, 243, 244, 245, 246, 247, 248, 249, 250, 251, 252, 253, 254, 255, 256, 257, 258] (by decide +kernel) (by decide +kernel)
set_option maxRecDepth 20000 in
theorem gX9_settle_X9_findLasts : GoodIn wsX9_settle (wsV RX9 49 RX9 yX9_findLasts wsX9_findLasts) := goodIn_app (goodIn_of _ (by decide +kernel)) ggX9_settle_X9_findLasts
set_option maxRecDepth 20000 in
theorem ggX9_settle_X4_empty : GoodIn wsX9_settle wsX4_empty := goodIn_r _ [69, 70, 71, 72, 265, 266, 267, 268, 269, 270, 271] (by decide +kernel) (by decide +kernel)
set_option maxRecDepth 20000 in
theorem gX9_settle_X4_empty : GoodIn wsX9_settle (wsV RX9 52 RX4 yX4_empty wsX4_empty) := goodIn_app (goodIn_of _ (by decide +kernel)) ggX9_settle_X4_empty
set_option maxRecDepth 20000 in
theorem ggX9_settle_X9_writeTranslation : GoodIn wsX9_settle wsX9_writeTranslation := goodIn_r _ [76, 4, 77, 2, 3, 78, 79, 80, 81, 50, 82, 83, 84, 85, 86, 5, 56, 87, 88, 89, 10, 90, 17, 24, 91, 92, 93, 94, 23, 95, 96, 97, 98, 99, 100, 101, 102, 103, 104, 105, 106, 107, 108, 109, 110, 111, 112, 113, 114, 115, 116, 117, 118, 119, 120, 121, 122, 123, 124, 125, 126, 127, 128, 129, 130, 131, 132, 133, 134, 135, 136, 137, 138, 139, 140, 141, 142, 143, 144, 145, 146, 147, 148, 149, 150, 151, 152, 153, 154, 155, 156, 157, 68, 158, 159, 160, 161, 162, 70, 72, 163, 164, 165, 166, 167, 168, 169, 170, 171, 172, 173, 174, 175, 176, 177, 178, 33, 179, 35, 180, 181, 182, 183, 184, 185, 71, 186, 187, 188, 189, 190, 191, 192, 193, 194, 195, 196, 197, 198, 199, 200, 201, 202, 203, 204, 205, 206, 207, 208, 209, 210, 211, 212, 213, 214, 215, 216, 217, 218, 219, 220, 221, 222, 223, 224, 225, 226, 227, 228, 229, 230, 231, 232, 233, 234, 235, 236, 237, 238, 243, 244, 245, 246, 247, 248, 249, 250, 251, 252, 253, 254, 255, 256, 257, 258, 272, 273, 265, 266, 267, 268, 269, 270, 271, 259, 260, 261, 262, 263, 264] (by decide +kernel) (by decide +kernel)
set_option maxRecDepth 20000 in
theorem gX9_settle_X9_writeTranslation : GoodIn wsX9_settle (wsV RX9 64 RX9 yX9_writeTranslation wsX9_writeTranslation) := goodIn_app (goodIn_of _ (by decide +kernel)) ggX9_settle_X9_writeTranslation
set_option maxRecDepth 20000 in
theorem ggX9_settle_X4_size : GoodIn wsX9_settle wsX4_size := goodIn_r _ [242, 70, 265, 266, 267, 268, 269, 270, 271] (by decide +kernel) (by decide +kernel)
set_option maxRecDepth 20000 in
theorem gX9_settle_X4_size : GoodIn wsX9_settle (wsV RX9 68 RX4 yX4_size wsX4_size) := goodIn_app (goodIn_of _ (by decide +kernel)) ggX9_settle_X4_size
theorem dX9_settle_0 : decode cX9_settle 0 = .ok (.aload_n 0, 1) := by decide +kernel
theorem dX9_settle_1 : decode cX9_settle 1 = .ok (.getfield 40, 3) := by decide +kernel
theorem dX9_settle_4 : decode cX9_settle 4 = .ok (.ifCond .eq 4, 3) := by decide +kernel
theorem dX9_settle_7 : decode cX9_settle 7 = .ok (.return_, 1) := by decide +kernel
theorem dX9_settle_8 : decode cX9_settle 8 = .ok (.aload_n 0, 1) := by decide +kernel
theorem dX9_settle_9 : decode cX9_settle 9 = .ok (.getfield 32, 3) := by decide +kernel
theorem dX9_settle_12 : decode cX9_settle 12 = .ok (.invokevirtual 44, 3) := by decide +kernel
theorem dX9_settle_15 : decode cX9_settle 15 = .ok (.aload_n 0, 1) := by decide +kernel
theorem dX9_settle_16 : decode cX9_settle 16 = .ok (.invokevirtual 49, 3) := by decide +kernel
theorem dX9_settle_19 : decode cX9_settle 19 = .ok (.aload_n 0, 1) := by decide +kernel
theorem dX9_settle_20 : decode cX9_settle 20 = .ok (.getfield 36, 3) := by decide +kernel
theorem dX9_settle_23 : decode cX9_settle 23 = .ok (.invokevirtual 52, 3) := by decide +kernel
theorem dX9_settle_26 : decode cX9_settle 26 = .ok (.aload_n 0, 1) := by decide +kernel
theorem dX9_settle_27 : decode cX9_settle 27 = .ok (.iconst 0, 1) := by decide +kernel
theorem dX9_settle_28 : decode cX9_settle 28 = .ok (.putfield 57, 3) := by decide +kernel
theorem dX9_settle_31 : decode cX9_settle 31 = .ok (.iconst 0, 1) := by decide +kernel
theorem dX9_settle_32 : decode cX9_settle 32 = .ok (.istore_n 1, 1) := by decide +kernel
theorem dX9_settle_33 : decode cX9_settle 33 = .ok (.iload_n 1, 1) := by decide +kernel
theorem dX9_settle_34 : decode cX9_settle 34 = .ok (.aload_n 0, 1) := by decide +kernel
theorem dX9_settle_35 : decode cX9_settle 35 = .ok (.getfield 61, 3) := by decide +kernel
theorem dX9_settle_38 : decode cX9_settle 38 = .ok (.if_icmp .ge 27, 3) := by decide +kernel
theorem dX9_settle_41 : decode cX9_settle 41 = .ok (.aload_n 0, 1) := by decide +kernel
theorem dX9_settle_42 : decode cX9_settle 42 = .ok (.iload_n 1, 1) := by decide +kernel
theorem dX9_settle_43 : decode cX9_settle 43 = .ok (.invokevirtual 64, 3) := by decide +kernel
theorem dX9_settle_46 : decode cX9_settle 46 = .ok (.aload_n 0, 1) := by decide +kernel
theorem dX9_settle_47 : decode cX9_settle 47 = .ok (.getfield 22, 3) := by decide +kernel
theorem dX9_settle_50 : decode cX9_settle 50 = .ok (.iload_n 1, 1) := by decide +kernel
theorem dX9_settle_51 : decode cX9_settle 51 = .ok (.aload_n 0, 1) := by decide +kernel
theorem dX9_settle_52 : decode cX9_settle 52 = .ok (.getfield 36, 3) := by decide +kernel
theorem dX9_settle_55 : decode cX9_settle 55 = .ok (.invokevirtual 68, 3) := by decide +kernel
theorem dX9_settle_58 : decode cX9_settle 58 = .ok (.iastore, 1) := by decide +kernel
theorem dX9_settle_59 : decode cX9_settle 59 = .ok (.iinc 1 1, 3) := by decide +kernel
theorem dX9_settle_62 : decode cX9_settle 62 = .ok (.goto (-29), 3) := by decide +kernel
theorem dX9_settle_65 : decode cX9_settle 65 = .ok (.aload_n 0, 1) := by decide +kernel
theorem dX9_settle_66 : decode cX9_settle 66 = .ok (.iconst 1, 1) := by decide +kernel
theorem dX9_settle_67 : decode cX9_settle 67 = .ok (.putfield 40, 3) := by decide +kernel
theorem dX9_settle_70 : decode cX9_settle 70 = .ok (.return_, 1) := by decide +kernel
theorem dX9_size_0 : decode cX9_size 0 = .ok (.aload_n 0, 1) := by decide +kernel
theorem dX9_size_1 : decode cX9_size 1 = .ok (.getfield 61, 3) := by decide +kernel
theorem dX9_size_4 : decode cX9_size 4 = .ok (.ireturn, 1) := by decide +kernel
theorem dX9_raws_0 : decode cX9_raws 0 = .ok (.aload_n 0, 1) := by decide +kernel
theorem dX9_raws_1 : decode cX9_raws 1 = .ok (.getfield 57, 3) := by decide +kernel
theorem dX9_raws_4 : decode cX9_raws 4 = .ok (.ireturn, 1) := by decide +kernel
set_option maxRecDepth 20000 in
theorem ggX9_ownerOf_X6_has : GoodIn wsX9_ownerOf wsX6_has := goodIn_r _ [7, 8, 19, 20, 21, 22, 23, 24] (by decide +kernel) (by decide +kernel)
set_option maxRecDepth 20000 in
theorem gX9_ownerOf_X6_has : GoodIn wsX9_ownerOf (wsV RX9 71 RX6 yX6_has wsX6_has) := goodIn_app (goodIn_of _ (by decide +kernel)) ggX9_ownerOf_X6_has
theorem dX9_ownerOf_0 : decode cX9_ownerOf 0 = .ok (.aload_n 0, 1) := by decide +kernel
theorem dX9_ownerOf_1 : decode cX9_ownerOf 1 = .ok (.getfield 32, 3) := by decide +kernel
theorem dX9_ownerOf_4 : decode cX9_ownerOf 4 = .ok (.iload_n 1, 1) := by decide +kernel
theorem dX9_ownerOf_5 : decode cX9_ownerOf 5 = .ok (.invokevirtual 71, 3) := by decide +kernel
theorem dX9_ownerOf_8 : decode cX9_ownerOf 8 = .ok (.ifCond .eq 19, 3) := by decide +kernel
theorem dX9_ownerOf_11 : decode cX9_ownerOf 11 = .ok (.iload_n 1, 1) := by decide +kernel
theorem dX9_ownerOf_12 : decode cX9_ownerOf 12 = .ok (.sipush 300, 3) := by decide +kernel
theorem dX9_ownerOf_15 : decode cX9_ownerOf 15 = .ok (.if_icmp .ge 12, 3) := by decide +kernel
theorem dX9_ownerOf_18 : decode cX9_ownerOf 18 = .ok (.aload_n 0, 1) := by decide +kernel
theorem dX9_ownerOf_19 : decode cX9_ownerOf 19 = .ok (.getfield 25, 3) := by decide +kernel
theorem dX9_ownerOf_22 : decode cX9_ownerOf 22 = .ok (.iload_n 1, 1) := by decide +kernel
theorem dX9_ownerOf_23 : decode cX9_ownerOf 23 = .ok (.iaload, 1) := by decide +kernel
theorem dX9_ownerOf_24 : decode cX9_ownerOf 24 = .ok (.goto 4, 3) := by decide +kernel
theorem dX9_ownerOf_27 : decode cX9_ownerOf 27 = .ok (.iconst (-1), 1) := by decide +kernel
theorem dX9_ownerOf_28 : decode cX9_ownerOf 28 = .ok (.ireturn, 1) := by decide +kernel
set_option maxRecDepth 20000 in
theorem ggX9_countOf_X6_entryAt : GoodIn wsX9_countOf wsX6_entryAt := goodIn_r _ [8, 9, 10, 21, 22, 23, 24, 25, 26] (by decide +kernel) (by decide +kernel)
set_option maxRecDepth 20000 in
theorem gX9_countOf_X6_entryAt : GoodIn wsX9_countOf (wsV RX9 75 RX6 yX6_entryAt wsX6_entryAt) := goodIn_app (goodIn_of _ (by decide +kernel)) ggX9_countOf_X6_entryAt
theorem dX9_countOf_0 : decode cX9_countOf 0 = .ok (.iconst 0, 1) := by decide +kernel
theorem dX9_countOf_1 : decode cX9_countOf 1 = .ok (.istore_n 2, 1) := by decide +kernel
theorem dX9_countOf_2 : decode cX9_countOf 2 = .ok (.iconst 0, 1) := by decide +kernel
theorem dX9_countOf_3 : decode cX9_countOf 3 = .ok (.istore_n 3, 1) := by decide +kernel
theorem dX9_countOf_4 : decode cX9_countOf 4 = .ok (.iload_n 3, 1) := by decide +kernel
theorem dX9_countOf_5 : decode cX9_countOf 5 = .ok (.aload_n 0, 1) := by decide +kernel
theorem dX9_countOf_6 : decode cX9_countOf 6 = .ok (.getfield 61, 3) := by decide +kernel
theorem dX9_countOf_9 : decode cX9_countOf 9 = .ok (.if_icmp .ge 29, 3) := by decide +kernel
theorem dX9_countOf_12 : decode cX9_countOf 12 = .ok (.aload_n 0, 1) := by decide +kernel
theorem dX9_countOf_13 : decode cX9_countOf 13 = .ok (.getfield 32, 3) := by decide +kernel
theorem dX9_countOf_16 : decode cX9_countOf 16 = .ok (.aload_n 0, 1) := by decide +kernel
theorem dX9_countOf_17 : decode cX9_countOf 17 = .ok (.getfield 18, 3) := by decide +kernel
theorem dX9_countOf_20 : decode cX9_countOf 20 = .ok (.iload_n 3, 1) := by decide +kernel
theorem dX9_countOf_21 : decode cX9_countOf 21 = .ok (.iaload, 1) := by decide +kernel
theorem dX9_countOf_22 : decode cX9_countOf 22 = .ok (.invokevirtual 75, 3) := by decide +kernel
theorem dX9_countOf_25 : decode cX9_countOf 25 = .ok (.iload_n 1, 1) := by decide +kernel
theorem dX9_countOf_26 : decode cX9_countOf 26 = .ok (.if_icmp .ne 6, 3) := by decide +kernel
theorem dX9_countOf_29 : decode cX9_countOf 29 = .ok (.iinc 2 1, 3) := by decide +kernel
theorem dX9_countOf_32 : decode cX9_countOf 32 = .ok (.iinc 3 1, 3) := by decide +kernel
theorem dX9_countOf_35 : decode cX9_countOf 35 = .ok (.goto (-31), 3) := by decide +kernel
theorem dX9_countOf_38 : decode cX9_countOf 38 = .ok (.iload_n 2, 1) := by decide +kernel
theorem dX9_countOf_39 : decode cX9_countOf 39 = .ok (.ireturn, 1) := by decide +kernel
set_option maxRecDepth 20000 in
theorem ggX9_entryOf_X9_lastOf : GoodIn wsX9_entryOf wsX9_lastOf := goodIn_r _ [6, 7, 8, 16, 17, 18, 19, 20, 21, 22, 23, 24, 25] (by decide +kernel) (by decide +kernel)
set_option maxRecDepth 20000 in
theorem gX9_entryOf_X9_lastOf : GoodIn wsX9_entryOf (wsV RX9 79 RX9 yX9_lastOf wsX9_lastOf) := goodIn_app (goodIn_of _ (by decide +kernel)) ggX9_entryOf_X9_lastOf
set_option maxRecDepth 20000 in
theorem ggX9_entryOf_X6_entryAt : GoodIn wsX9_entryOf wsX6_entryAt := goodIn_r _ [13, 14, 15, 26, 27, 28, 29, 30, 31] (by decide +kernel) (by decide +kernel)
set_option maxRecDepth 20000 in
theorem gX9_entryOf_X6_entryAt : GoodIn wsX9_entryOf (wsV RX9 75 RX6 yX6_entryAt wsX6_entryAt) := goodIn_app (goodIn_of _ (by decide +kernel)) ggX9_entryOf_X6_entryAt
theorem dX9_entryOf_0 : decode cX9_entryOf 0 = .ok (.aload_n 0, 1) := by decide +kernel
theorem dX9_entryOf_1 : decode cX9_entryOf 1 = .ok (.getfield 32, 3) := by decide +kernel
theorem dX9_entryOf_4 : decode cX9_entryOf 4 = .ok (.aload_n 0, 1) := by decide +kernel
theorem dX9_entryOf_5 : decode cX9_entryOf 5 = .ok (.iload_n 1, 1) := by decide +kernel
theorem dX9_entryOf_6 : decode cX9_entryOf 6 = .ok (.invokevirtual 79, 3) := by decide +kernel
theorem dX9_entryOf_9 : decode cX9_entryOf 9 = .ok (.invokevirtual 75, 3) := by decide +kernel
theorem dX9_entryOf_12 : decode cX9_entryOf 12 = .ok (.ireturn, 1) := by decide +kernel
set_option maxRecDepth 20000 in
theorem ggX9_firstOf_X9_lastOf : GoodIn wsX9_firstOf wsX9_lastOf := goodIn_r _ [6, 7, 8, 16, 17, 18, 19, 20, 21, 22, 23, 24, 25] (by decide +kernel) (by decide +kernel)
set_option maxRecDepth 20000 in
theorem gX9_firstOf_X9_lastOf : GoodIn wsX9_firstOf (wsV RX9 79 RX9 yX9_lastOf wsX9_lastOf) := goodIn_app (goodIn_of _ (by decide +kernel)) ggX9_firstOf_X9_lastOf
