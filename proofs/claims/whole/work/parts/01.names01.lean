theorem dX0_takesByte_10 : decode cX0_takesByte 10 = .ok (.iload_n 1, 1) := by decide +kernel
theorem dX0_takesByte_11 : decode cX0_takesByte 11 = .ok (.invokestatic 28, 3) := by decide +kernel
theorem dX0_takesByte_14 : decode cX0_takesByte 14 = .ok (.ireturn, 1) := by decide +kernel
theorem dX0_takesByte_15 : decode cX0_takesByte 15 = .ok (.iload_n 1, 1) := by decide +kernel
theorem dX0_takesByte_16 : decode cX0_takesByte 16 = .ok (.bipush 46, 2) := by decide +kernel
theorem dX0_takesByte_18 : decode cX0_takesByte 18 = .ok (.if_icmp .eq 33, 3) := by decide +kernel
theorem dX0_takesByte_21 : decode cX0_takesByte 21 = .ok (.iload_n 1, 1) := by decide +kernel
theorem dX0_takesByte_22 : decode cX0_takesByte 22 = .ok (.bipush 44, 2) := by decide +kernel
theorem dX0_takesByte_24 : decode cX0_takesByte 24 = .ok (.if_icmp .eq 27, 3) := by decide +kernel
theorem dX0_takesByte_27 : decode cX0_takesByte 27 = .ok (.iload_n 1, 1) := by decide +kernel
theorem dX0_takesByte_28 : decode cX0_takesByte 28 = .ok (.bipush 59, 2) := by decide +kernel
theorem dX0_takesByte_30 : decode cX0_takesByte 30 = .ok (.if_icmp .eq 21, 3) := by decide +kernel
theorem dX0_takesByte_33 : decode cX0_takesByte 33 = .ok (.iload_n 1, 1) := by decide +kernel
theorem dX0_takesByte_34 : decode cX0_takesByte 34 = .ok (.bipush 58, 2) := by decide +kernel
theorem dX0_takesByte_36 : decode cX0_takesByte 36 = .ok (.if_icmp .eq 15, 3) := by decide +kernel
theorem dX0_takesByte_39 : decode cX0_takesByte 39 = .ok (.iload_n 1, 1) := by decide +kernel
theorem dX0_takesByte_40 : decode cX0_takesByte 40 = .ok (.bipush 63, 2) := by decide +kernel
theorem dX0_takesByte_42 : decode cX0_takesByte 42 = .ok (.if_icmp .eq 9, 3) := by decide +kernel
theorem dX0_takesByte_45 : decode cX0_takesByte 45 = .ok (.iload_n 1, 1) := by decide +kernel
theorem dX0_takesByte_46 : decode cX0_takesByte 46 = .ok (.bipush 33, 2) := by decide +kernel
theorem dX0_takesByte_48 : decode cX0_takesByte 48 = .ok (.if_icmp .ne 7, 3) := by decide +kernel
theorem dX0_takesByte_51 : decode cX0_takesByte 51 = .ok (.iconst 1, 1) := by decide +kernel
theorem dX0_takesByte_52 : decode cX0_takesByte 52 = .ok (.goto 4, 3) := by decide +kernel
theorem dX0_takesByte_55 : decode cX0_takesByte 55 = .ok (.iconst 0, 1) := by decide +kernel
theorem dX0_takesByte_56 : decode cX0_takesByte 56 = .ok (.ireturn, 1) := by decide +kernel
theorem dX0_size_0 : decode cX0_size 0 = .ok (.aload_n 0, 1) := by decide +kernel
theorem dX0_size_1 : decode cX0_size 1 = .ok (.getfield 32, 3) := by decide +kernel
theorem dX0_size_4 : decode cX0_size 4 = .ok (.ireturn, 1) := by decide +kernel
theorem dX0_isFull_0 : decode cX0_isFull 0 = .ok (.aload_n 0, 1) := by decide +kernel
theorem dX0_isFull_1 : decode cX0_isFull 1 = .ok (.getfield 32, 3) := by decide +kernel
theorem dX0_isFull_4 : decode cX0_isFull 4 = .ok (.bipush 60, 2) := by decide +kernel
theorem dX0_isFull_6 : decode cX0_isFull 6 = .ok (.if_icmp .lt 7, 3) := by decide +kernel
theorem dX0_isFull_9 : decode cX0_isFull 9 = .ok (.iconst 1, 1) := by decide +kernel
theorem dX0_isFull_10 : decode cX0_isFull 10 = .ok (.goto 4, 3) := by decide +kernel
theorem dX0_isFull_13 : decode cX0_isFull 13 = .ok (.iconst 0, 1) := by decide +kernel
theorem dX0_isFull_14 : decode cX0_isFull 14 = .ok (.ireturn, 1) := by decide +kernel
theorem dX0_has_0 : decode cX0_has 0 = .ok (.iload_n 1, 1) := by decide +kernel
theorem dX0_has_1 : decode cX0_has 1 = .ok (.ifCond .lt 15, 3) := by decide +kernel
theorem dX0_has_4 : decode cX0_has 4 = .ok (.iload_n 1, 1) := by decide +kernel
theorem dX0_has_5 : decode cX0_has 5 = .ok (.aload_n 0, 1) := by decide +kernel
theorem dX0_has_6 : decode cX0_has 6 = .ok (.getfield 32, 3) := by decide +kernel
theorem dX0_has_9 : decode cX0_has 9 = .ok (.if_icmp .ge 7, 3) := by decide +kernel
theorem dX0_has_12 : decode cX0_has 12 = .ok (.iconst 1, 1) := by decide +kernel
theorem dX0_has_13 : decode cX0_has 13 = .ok (.goto 4, 3) := by decide +kernel
theorem dX0_has_16 : decode cX0_has 16 = .ok (.iconst 0, 1) := by decide +kernel
theorem dX0_has_17 : decode cX0_has 17 = .ok (.ireturn, 1) := by decide +kernel
theorem dX0_kindOf_0 : decode cX0_kindOf 0 = .ok (.iload_n 1, 1) := by decide +kernel
theorem dX0_kindOf_1 : decode cX0_kindOf 1 = .ok (.ifCond .lt 20, 3) := by decide +kernel
theorem dX0_kindOf_4 : decode cX0_kindOf 4 = .ok (.iload_n 1, 1) := by decide +kernel
theorem dX0_kindOf_5 : decode cX0_kindOf 5 = .ok (.aload_n 0, 1) := by decide +kernel
theorem dX0_kindOf_6 : decode cX0_kindOf 6 = .ok (.getfield 32, 3) := by decide +kernel
theorem dX0_kindOf_9 : decode cX0_kindOf 9 = .ok (.if_icmp .ge 12, 3) := by decide +kernel
theorem dX0_kindOf_12 : decode cX0_kindOf 12 = .ok (.aload_n 0, 1) := by decide +kernel
theorem dX0_kindOf_13 : decode cX0_kindOf 13 = .ok (.getfield 9, 3) := by decide +kernel
theorem dX0_kindOf_16 : decode cX0_kindOf 16 = .ok (.iload_n 1, 1) := by decide +kernel
theorem dX0_kindOf_17 : decode cX0_kindOf 17 = .ok (.iaload, 1) := by decide +kernel
theorem dX0_kindOf_18 : decode cX0_kindOf 18 = .ok (.goto 4, 3) := by decide +kernel
theorem dX0_kindOf_21 : decode cX0_kindOf 21 = .ok (.iconst (-1), 1) := by decide +kernel
theorem dX0_kindOf_22 : decode cX0_kindOf 22 = .ok (.ireturn, 1) := by decide +kernel
theorem dX0_strokesOf_0 : decode cX0_strokesOf 0 = .ok (.iload_n 1, 1) := by decide +kernel
theorem dX0_strokesOf_1 : decode cX0_strokesOf 1 = .ok (.ifCond .lt 20, 3) := by decide +kernel
theorem dX0_strokesOf_4 : decode cX0_strokesOf 4 = .ok (.iload_n 1, 1) := by decide +kernel
theorem dX0_strokesOf_5 : decode cX0_strokesOf 5 = .ok (.aload_n 0, 1) := by decide +kernel
theorem dX0_strokesOf_6 : decode cX0_strokesOf 6 = .ok (.getfield 32, 3) := by decide +kernel
theorem dX0_strokesOf_9 : decode cX0_strokesOf 9 = .ok (.if_icmp .ge 12, 3) := by decide +kernel
theorem dX0_strokesOf_12 : decode cX0_strokesOf 12 = .ok (.aload_n 0, 1) := by decide +kernel
theorem dX0_strokesOf_13 : decode cX0_strokesOf 13 = .ok (.getfield 15, 3) := by decide +kernel
theorem dX0_strokesOf_16 : decode cX0_strokesOf 16 = .ok (.iload_n 1, 1) := by decide +kernel
theorem dX0_strokesOf_17 : decode cX0_strokesOf 17 = .ok (.iaload, 1) := by decide +kernel
theorem dX0_strokesOf_18 : decode cX0_strokesOf 18 = .ok (.goto 4, 3) := by decide +kernel
theorem dX0_strokesOf_21 : decode cX0_strokesOf 21 = .ok (.iconst 0, 1) := by decide +kernel
theorem dX0_strokesOf_22 : decode cX0_strokesOf 22 = .ok (.ireturn, 1) := by decide +kernel
theorem dX0_lengthOf_0 : decode cX0_lengthOf 0 = .ok (.iload_n 1, 1) := by decide +kernel
theorem dX0_lengthOf_1 : decode cX0_lengthOf 1 = .ok (.ifCond .lt 20, 3) := by decide +kernel
theorem dX0_lengthOf_4 : decode cX0_lengthOf 4 = .ok (.iload_n 1, 1) := by decide +kernel
theorem dX0_lengthOf_5 : decode cX0_lengthOf 5 = .ok (.aload_n 0, 1) := by decide +kernel
theorem dX0_lengthOf_6 : decode cX0_lengthOf 6 = .ok (.getfield 32, 3) := by decide +kernel
theorem dX0_lengthOf_9 : decode cX0_lengthOf 9 = .ok (.if_icmp .ge 12, 3) := by decide +kernel
theorem dX0_lengthOf_12 : decode cX0_lengthOf 12 = .ok (.aload_n 0, 1) := by decide +kernel
theorem dX0_lengthOf_13 : decode cX0_lengthOf 13 = .ok (.getfield 21, 3) := by decide +kernel
theorem dX0_lengthOf_16 : decode cX0_lengthOf 16 = .ok (.iload_n 1, 1) := by decide +kernel
theorem dX0_lengthOf_17 : decode cX0_lengthOf 17 = .ok (.iaload, 1) := by decide +kernel
theorem dX0_lengthOf_18 : decode cX0_lengthOf 18 = .ok (.goto 4, 3) := by decide +kernel
theorem dX0_lengthOf_21 : decode cX0_lengthOf 21 = .ok (.iconst 0, 1) := by decide +kernel
theorem dX0_lengthOf_22 : decode cX0_lengthOf 22 = .ok (.ireturn, 1) := by decide +kernel
theorem dX0_strokeAt_0 : decode cX0_strokeAt 0 = .ok (.iload_n 1, 1) := by decide +kernel
theorem dX0_strokeAt_1 : decode cX0_strokeAt 1 = .ok (.ifCond .lt 29, 3) := by decide +kernel
theorem dX0_strokeAt_4 : decode cX0_strokeAt 4 = .ok (.iload_n 1, 1) := by decide +kernel
theorem dX0_strokeAt_5 : decode cX0_strokeAt 5 = .ok (.aload_n 0, 1) := by decide +kernel
theorem dX0_strokeAt_6 : decode cX0_strokeAt 6 = .ok (.getfield 32, 3) := by decide +kernel
theorem dX0_strokeAt_9 : decode cX0_strokeAt 9 = .ok (.if_icmp .ge 21, 3) := by decide +kernel
theorem dX0_strokeAt_12 : decode cX0_strokeAt 12 = .ok (.iload_n 2, 1) := by decide +kernel
theorem dX0_strokeAt_13 : decode cX0_strokeAt 13 = .ok (.ifCond .lt 17, 3) := by decide +kernel
theorem dX0_strokeAt_16 : decode cX0_strokeAt 16 = .ok (.iload_n 2, 1) := by decide +kernel
theorem dX0_strokeAt_17 : decode cX0_strokeAt 17 = .ok (.aload_n 0, 1) := by decide +kernel
theorem dX0_strokeAt_18 : decode cX0_strokeAt 18 = .ok (.getfield 15, 3) := by decide +kernel
theorem dX0_strokeAt_21 : decode cX0_strokeAt 21 = .ok (.iload_n 1, 1) := by decide +kernel
theorem dX0_strokeAt_22 : decode cX0_strokeAt 22 = .ok (.iaload, 1) := by decide +kernel
theorem dX0_strokeAt_23 : decode cX0_strokeAt 23 = .ok (.if_icmp .ge 7, 3) := by decide +kernel
theorem dX0_strokeAt_26 : decode cX0_strokeAt 26 = .ok (.iconst 1, 1) := by decide +kernel
theorem dX0_strokeAt_27 : decode cX0_strokeAt 27 = .ok (.goto 4, 3) := by decide +kernel
theorem dX0_strokeAt_30 : decode cX0_strokeAt 30 = .ok (.iconst 0, 1) := by decide +kernel
theorem dX0_strokeAt_31 : decode cX0_strokeAt 31 = .ok (.istore_n 3, 1) := by decide +kernel
theorem dX0_strokeAt_32 : decode cX0_strokeAt 32 = .ok (.iload_n 3, 1) := by decide +kernel
theorem dX0_strokeAt_33 : decode cX0_strokeAt 33 = .ok (.ifCond .eq 16, 3) := by decide +kernel
theorem dX0_strokeAt_36 : decode cX0_strokeAt 36 = .ok (.aload_n 0, 1) := by decide +kernel
theorem dX0_strokeAt_37 : decode cX0_strokeAt 37 = .ok (.getfield 18, 3) := by decide +kernel
theorem dX0_strokeAt_40 : decode cX0_strokeAt 40 = .ok (.iload_n 1, 1) := by decide +kernel
theorem dX0_strokeAt_41 : decode cX0_strokeAt 41 = .ok (.iconst 5, 1) := by decide +kernel
theorem dX0_strokeAt_42 : decode cX0_strokeAt 42 = .ok (.imul, 1) := by decide +kernel
theorem dX0_strokeAt_43 : decode cX0_strokeAt 43 = .ok (.iload_n 2, 1) := by decide +kernel
theorem dX0_strokeAt_44 : decode cX0_strokeAt 44 = .ok (.iadd, 1) := by decide +kernel
theorem dX0_strokeAt_45 : decode cX0_strokeAt 45 = .ok (.iaload, 1) := by decide +kernel
theorem dX0_strokeAt_46 : decode cX0_strokeAt 46 = .ok (.goto 4, 3) := by decide +kernel
theorem dX0_strokeAt_49 : decode cX0_strokeAt 49 = .ok (.iconst (-1), 1) := by decide +kernel
theorem dX0_strokeAt_50 : decode cX0_strokeAt 50 = .ok (.ireturn, 1) := by decide +kernel
theorem dX0_letterAt_0 : decode cX0_letterAt 0 = .ok (.iload_n 1, 1) := by decide +kernel
theorem dX0_letterAt_1 : decode cX0_letterAt 1 = .ok (.ifCond .lt 29, 3) := by decide +kernel
theorem dX0_letterAt_4 : decode cX0_letterAt 4 = .ok (.iload_n 1, 1) := by decide +kernel
theorem dX0_letterAt_5 : decode cX0_letterAt 5 = .ok (.aload_n 0, 1) := by decide +kernel
theorem dX0_letterAt_6 : decode cX0_letterAt 6 = .ok (.getfield 32, 3) := by decide +kernel
theorem dX0_letterAt_9 : decode cX0_letterAt 9 = .ok (.if_icmp .ge 21, 3) := by decide +kernel
theorem dX0_letterAt_12 : decode cX0_letterAt 12 = .ok (.iload_n 2, 1) := by decide +kernel
theorem dX0_letterAt_13 : decode cX0_letterAt 13 = .ok (.ifCond .lt 17, 3) := by decide +kernel
theorem dX0_letterAt_16 : decode cX0_letterAt 16 = .ok (.iload_n 2, 1) := by decide +kernel
theorem dX0_letterAt_17 : decode cX0_letterAt 17 = .ok (.aload_n 0, 1) := by decide +kernel
theorem dX0_letterAt_18 : decode cX0_letterAt 18 = .ok (.getfield 21, 3) := by decide +kernel
theorem dX0_letterAt_21 : decode cX0_letterAt 21 = .ok (.iload_n 1, 1) := by decide +kernel
theorem dX0_letterAt_22 : decode cX0_letterAt 22 = .ok (.iaload, 1) := by decide +kernel
theorem dX0_letterAt_23 : decode cX0_letterAt 23 = .ok (.if_icmp .ge 7, 3) := by decide +kernel
theorem dX0_letterAt_26 : decode cX0_letterAt 26 = .ok (.iconst 1, 1) := by decide +kernel
theorem dX0_letterAt_27 : decode cX0_letterAt 27 = .ok (.goto 4, 3) := by decide +kernel
theorem dX0_letterAt_30 : decode cX0_letterAt 30 = .ok (.iconst 0, 1) := by decide +kernel
theorem dX0_letterAt_31 : decode cX0_letterAt 31 = .ok (.istore_n 3, 1) := by decide +kernel
theorem dX0_letterAt_32 : decode cX0_letterAt 32 = .ok (.iload_n 3, 1) := by decide +kernel
theorem dX0_letterAt_33 : decode cX0_letterAt 33 = .ok (.ifCond .eq 17, 3) := by decide +kernel
theorem dX0_letterAt_36 : decode cX0_letterAt 36 = .ok (.aload_n 0, 1) := by decide +kernel
theorem dX0_letterAt_37 : decode cX0_letterAt 37 = .ok (.getfield 24, 3) := by decide +kernel
theorem dX0_letterAt_40 : decode cX0_letterAt 40 = .ok (.iload_n 1, 1) := by decide +kernel
theorem dX0_letterAt_41 : decode cX0_letterAt 41 = .ok (.bipush 16, 2) := by decide +kernel
theorem dX0_letterAt_43 : decode cX0_letterAt 43 = .ok (.imul, 1) := by decide +kernel
theorem dX0_letterAt_44 : decode cX0_letterAt 44 = .ok (.iload_n 2, 1) := by decide +kernel
theorem dX0_letterAt_45 : decode cX0_letterAt 45 = .ok (.iadd, 1) := by decide +kernel
theorem dX0_letterAt_46 : decode cX0_letterAt 46 = .ok (.baload, 1) := by decide +kernel
theorem dX0_letterAt_47 : decode cX0_letterAt 47 = .ok (.goto 4, 3) := by decide +kernel
theorem dX0_letterAt_50 : decode cX0_letterAt 50 = .ok (.iconst (-1), 1) := by decide +kernel
theorem dX0_letterAt_51 : decode cX0_letterAt 51 = .ok (.ireturn, 1) := by decide +kernel
set_option maxRecDepth 20000 in
theorem ggX0_hasOutline_X0_isOutlineAt : GoodIn wsX0_hasOutline wsX0_isOutlineAt := goodIn_r _ [7, 8, 9, 10, 11, 6, 12, 1, 2, 13, 14, 15, 16, 17, 18] (by decide +kernel) (by decide +kernel)
set_option maxRecDepth 20000 in
theorem gX0_hasOutline_X0_isOutlineAt : GoodIn wsX0_hasOutline (wsV RX0 36 RX0 yX0_isOutlineAt wsX0_isOutlineAt) := goodIn_app (goodIn_of _ (by decide +kernel)) ggX0_hasOutline_X0_isOutlineAt
theorem dX0_hasOutline_0 : decode cX0_hasOutline 0 = .ok (.iconst 0, 1) := by decide +kernel
theorem dX0_hasOutline_1 : decode cX0_hasOutline 1 = .ok (.istore_n 3, 1) := by decide +kernel
theorem dX0_hasOutline_2 : decode cX0_hasOutline 2 = .ok (.iload_n 3, 1) := by decide +kernel
theorem dX0_hasOutline_3 : decode cX0_hasOutline 3 = .ok (.aload_n 0, 1) := by decide +kernel
theorem dX0_hasOutline_4 : decode cX0_hasOutline 4 = .ok (.getfield 32, 3) := by decide +kernel
theorem dX0_hasOutline_7 : decode cX0_hasOutline 7 = .ok (.if_icmp .ge 31, 3) := by decide +kernel
theorem dX0_hasOutline_10 : decode cX0_hasOutline 10 = .ok (.aload_n 0, 1) := by decide +kernel
theorem dX0_hasOutline_11 : decode cX0_hasOutline 11 = .ok (.getfield 15, 3) := by decide +kernel
theorem dX0_hasOutline_14 : decode cX0_hasOutline 14 = .ok (.iload_n 3, 1) := by decide +kernel
theorem dX0_hasOutline_15 : decode cX0_hasOutline 15 = .ok (.iaload, 1) := by decide +kernel
theorem dX0_hasOutline_16 : decode cX0_hasOutline 16 = .ok (.iload_n 2, 1) := by decide +kernel
theorem dX0_hasOutline_17 : decode cX0_hasOutline 17 = .ok (.if_icmp .ne 15, 3) := by decide +kernel
theorem dX0_hasOutline_20 : decode cX0_hasOutline 20 = .ok (.aload_n 0, 1) := by decide +kernel
theorem dX0_hasOutline_21 : decode cX0_hasOutline 21 = .ok (.iload_n 3, 1) := by decide +kernel
theorem dX0_hasOutline_22 : decode cX0_hasOutline 22 = .ok (.aload_n 1, 1) := by decide +kernel
theorem dX0_hasOutline_23 : decode cX0_hasOutline 23 = .ok (.iconst 0, 1) := by decide +kernel
theorem dX0_hasOutline_24 : decode cX0_hasOutline 24 = .ok (.invokevirtual 36, 3) := by decide +kernel
theorem dX0_hasOutline_27 : decode cX0_hasOutline 27 = .ok (.ifCond .eq 5, 3) := by decide +kernel
theorem dX0_hasOutline_30 : decode cX0_hasOutline 30 = .ok (.iconst 1, 1) := by decide +kernel
theorem dX0_hasOutline_31 : decode cX0_hasOutline 31 = .ok (.ireturn, 1) := by decide +kernel
theorem dX0_hasOutline_32 : decode cX0_hasOutline 32 = .ok (.iinc 3 1, 3) := by decide +kernel
theorem dX0_hasOutline_35 : decode cX0_hasOutline 35 = .ok (.goto (-33), 3) := by decide +kernel
theorem dX0_hasOutline_38 : decode cX0_hasOutline 38 = .ok (.iconst 0, 1) := by decide +kernel
theorem dX0_hasOutline_39 : decode cX0_hasOutline 39 = .ok (.ireturn, 1) := by decide +kernel
set_option maxRecDepth 20000 in
theorem ggX0_isOutlineAt_X0_strokesOf : GoodIn wsX0_isOutlineAt wsX0_strokesOf := goodIn_r _ [6, 7, 8, 9, 10, 11, 12, 13, 14] (by decide +kernel) (by decide +kernel)
set_option maxRecDepth 20000 in
theorem gX0_isOutlineAt_X0_strokesOf : GoodIn wsX0_isOutlineAt (wsV RX0 40 RX0 yX0_strokesOf wsX0_strokesOf) := goodIn_app (goodIn_of _ (by decide +kernel)) ggX0_isOutlineAt_X0_strokesOf
theorem dX0_isOutlineAt_0 : decode cX0_isOutlineAt 0 = .ok (.aload_n 0, 1) := by decide +kernel
theorem dX0_isOutlineAt_1 : decode cX0_isOutlineAt 1 = .ok (.iload_n 1, 1) := by decide +kernel
theorem dX0_isOutlineAt_2 : decode cX0_isOutlineAt 2 = .ok (.invokevirtual 40, 3) := by decide +kernel
theorem dX0_isOutlineAt_5 : decode cX0_isOutlineAt 5 = .ok (.istore 4, 2) := by decide +kernel
theorem dX0_isOutlineAt_7 : decode cX0_isOutlineAt 7 = .ok (.iload_n 3, 1) := by decide +kernel
theorem dX0_isOutlineAt_8 : decode cX0_isOutlineAt 8 = .ok (.ifCond .lt 12, 3) := by decide +kernel
theorem dX0_isOutlineAt_11 : decode cX0_isOutlineAt 11 = .ok (.iload_n 3, 1) := by decide +kernel
theorem dX0_isOutlineAt_12 : decode cX0_isOutlineAt 12 = .ok (.aload_n 2, 1) := by decide +kernel
theorem dX0_isOutlineAt_13 : decode cX0_isOutlineAt 13 = .ok (.arraylength, 1) := by decide +kernel
theorem dX0_isOutlineAt_14 : decode cX0_isOutlineAt 14 = .ok (.iload 4, 2) := by decide +kernel
theorem dX0_isOutlineAt_16 : decode cX0_isOutlineAt 16 = .ok (.isub, 1) := by decide +kernel
theorem dX0_isOutlineAt_17 : decode cX0_isOutlineAt 17 = .ok (.if_icmp .le 5, 3) := by decide +kernel
theorem dX0_isOutlineAt_20 : decode cX0_isOutlineAt 20 = .ok (.iconst 0, 1) := by decide +kernel
theorem dX0_isOutlineAt_21 : decode cX0_isOutlineAt 21 = .ok (.ireturn, 1) := by decide +kernel
theorem dX0_isOutlineAt_22 : decode cX0_isOutlineAt 22 = .ok (.iload 4, 2) := by decide +kernel
theorem dX0_isOutlineAt_24 : decode cX0_isOutlineAt 24 = .ok (.iconst 1, 1) := by decide +kernel
theorem dX0_isOutlineAt_25 : decode cX0_isOutlineAt 25 = .ok (.isub, 1) := by decide +kernel
theorem dX0_isOutlineAt_26 : decode cX0_isOutlineAt 26 = .ok (.istore 5, 2) := by decide +kernel
theorem dX0_isOutlineAt_28 : decode cX0_isOutlineAt 28 = .ok (.iload 5, 2) := by decide +kernel
theorem dX0_isOutlineAt_30 : decode cX0_isOutlineAt 30 = .ok (.ifCond .lt 31, 3) := by decide +kernel
theorem dX0_isOutlineAt_33 : decode cX0_isOutlineAt 33 = .ok (.aload_n 2, 1) := by decide +kernel
theorem dX0_isOutlineAt_34 : decode cX0_isOutlineAt 34 = .ok (.iload_n 3, 1) := by decide +kernel
theorem dX0_isOutlineAt_35 : decode cX0_isOutlineAt 35 = .ok (.iload 5, 2) := by decide +kernel
theorem dX0_isOutlineAt_37 : decode cX0_isOutlineAt 37 = .ok (.iadd, 1) := by decide +kernel
theorem dX0_isOutlineAt_38 : decode cX0_isOutlineAt 38 = .ok (.iaload, 1) := by decide +kernel
theorem dX0_isOutlineAt_39 : decode cX0_isOutlineAt 39 = .ok (.aload_n 0, 1) := by decide +kernel
theorem dX0_isOutlineAt_40 : decode cX0_isOutlineAt 40 = .ok (.getfield 18, 3) := by decide +kernel
theorem dX0_isOutlineAt_43 : decode cX0_isOutlineAt 43 = .ok (.iload_n 1, 1) := by decide +kernel
theorem dX0_isOutlineAt_44 : decode cX0_isOutlineAt 44 = .ok (.iconst 5, 1) := by decide +kernel
theorem dX0_isOutlineAt_45 : decode cX0_isOutlineAt 45 = .ok (.imul, 1) := by decide +kernel
theorem dX0_isOutlineAt_46 : decode cX0_isOutlineAt 46 = .ok (.iload 5, 2) := by decide +kernel
theorem dX0_isOutlineAt_48 : decode cX0_isOutlineAt 48 = .ok (.iadd, 1) := by decide +kernel
theorem dX0_isOutlineAt_49 : decode cX0_isOutlineAt 49 = .ok (.iaload, 1) := by decide +kernel
theorem dX0_isOutlineAt_50 : decode cX0_isOutlineAt 50 = .ok (.if_icmp .eq 5, 3) := by decide +kernel
theorem dX0_isOutlineAt_53 : decode cX0_isOutlineAt 53 = .ok (.iconst 0, 1) := by decide +kernel
theorem dX0_isOutlineAt_54 : decode cX0_isOutlineAt 54 = .ok (.ireturn, 1) := by decide +kernel
theorem dX0_isOutlineAt_55 : decode cX0_isOutlineAt 55 = .ok (.iinc 5 (-1), 3) := by decide +kernel
theorem dX0_isOutlineAt_58 : decode cX0_isOutlineAt 58 = .ok (.goto (-30), 3) := by decide +kernel
theorem dX0_isOutlineAt_61 : decode cX0_isOutlineAt 61 = .ok (.iconst 1, 1) := by decide +kernel
theorem dX0_isOutlineAt_62 : decode cX0_isOutlineAt 62 = .ok (.ireturn, 1) := by decide +kernel
set_option maxRecDepth 20000 in
theorem ggX0_areLettersAt_X0_lengthOf : GoodIn wsX0_areLettersAt wsX0_lengthOf := goodIn_r _ [6, 7, 8, 9, 10, 11, 12, 13, 14] (by decide +kernel) (by decide +kernel)
set_option maxRecDepth 20000 in
theorem gX0_areLettersAt_X0_lengthOf : GoodIn wsX0_areLettersAt (wsV RX0 44 RX0 yX0_lengthOf wsX0_lengthOf) := goodIn_app (goodIn_of _ (by decide +kernel)) ggX0_areLettersAt_X0_lengthOf
theorem dX0_areLettersAt_0 : decode cX0_areLettersAt 0 = .ok (.iload_n 2, 1) := by decide +kernel
theorem dX0_areLettersAt_1 : decode cX0_areLettersAt 1 = .ok (.aload_n 0, 1) := by decide +kernel
theorem dX0_areLettersAt_2 : decode cX0_areLettersAt 2 = .ok (.iload_n 1, 1) := by decide +kernel
theorem dX0_areLettersAt_3 : decode cX0_areLettersAt 3 = .ok (.invokevirtual 44, 3) := by decide +kernel
theorem dX0_areLettersAt_6 : decode cX0_areLettersAt 6 = .ok (.if_icmp .gt 17, 3) := by decide +kernel
theorem dX0_areLettersAt_9 : decode cX0_areLettersAt 9 = .ok (.iload 4, 2) := by decide +kernel
theorem dX0_areLettersAt_11 : decode cX0_areLettersAt 11 = .ok (.ifCond .lt 12, 3) := by decide +kernel
theorem dX0_areLettersAt_14 : decode cX0_areLettersAt 14 = .ok (.iload 4, 2) := by decide +kernel
theorem dX0_areLettersAt_16 : decode cX0_areLettersAt 16 = .ok (.aload_n 3, 1) := by decide +kernel
theorem dX0_areLettersAt_17 : decode cX0_areLettersAt 17 = .ok (.arraylength, 1) := by decide +kernel
theorem dX0_areLettersAt_18 : decode cX0_areLettersAt 18 = .ok (.iload_n 2, 1) := by decide +kernel
theorem dX0_areLettersAt_19 : decode cX0_areLettersAt 19 = .ok (.isub, 1) := by decide +kernel
theorem dX0_areLettersAt_20 : decode cX0_areLettersAt 20 = .ok (.if_icmp .le 5, 3) := by decide +kernel
theorem dX0_areLettersAt_23 : decode cX0_areLettersAt 23 = .ok (.iconst 0, 1) := by decide +kernel
theorem dX0_areLettersAt_24 : decode cX0_areLettersAt 24 = .ok (.ireturn, 1) := by decide +kernel
theorem dX0_areLettersAt_25 : decode cX0_areLettersAt 25 = .ok (.iconst 0, 1) := by decide +kernel
theorem dX0_areLettersAt_26 : decode cX0_areLettersAt 26 = .ok (.istore 5, 2) := by decide +kernel
theorem dX0_areLettersAt_28 : decode cX0_areLettersAt 28 = .ok (.iload 5, 2) := by decide +kernel
theorem dX0_areLettersAt_30 : decode cX0_areLettersAt 30 = .ok (.iload_n 2, 1) := by decide +kernel
theorem dX0_areLettersAt_31 : decode cX0_areLettersAt 31 = .ok (.if_icmp .ge 33, 3) := by decide +kernel
theorem dX0_areLettersAt_34 : decode cX0_areLettersAt 34 = .ok (.aload_n 3, 1) := by decide +kernel
theorem dX0_areLettersAt_35 : decode cX0_areLettersAt 35 = .ok (.iload 4, 2) := by decide +kernel
theorem dX0_areLettersAt_37 : decode cX0_areLettersAt 37 = .ok (.iload 5, 2) := by decide +kernel
theorem dX0_areLettersAt_39 : decode cX0_areLettersAt 39 = .ok (.iadd, 1) := by decide +kernel
theorem dX0_areLettersAt_40 : decode cX0_areLettersAt 40 = .ok (.baload, 1) := by decide +kernel
theorem dX0_areLettersAt_41 : decode cX0_areLettersAt 41 = .ok (.aload_n 0, 1) := by decide +kernel
theorem dX0_areLettersAt_42 : decode cX0_areLettersAt 42 = .ok (.getfield 24, 3) := by decide +kernel
theorem dX0_areLettersAt_45 : decode cX0_areLettersAt 45 = .ok (.iload_n 1, 1) := by decide +kernel
theorem dX0_areLettersAt_46 : decode cX0_areLettersAt 46 = .ok (.bipush 16, 2) := by decide +kernel
theorem dX0_areLettersAt_48 : decode cX0_areLettersAt 48 = .ok (.imul, 1) := by decide +kernel
theorem dX0_areLettersAt_49 : decode cX0_areLettersAt 49 = .ok (.iload 5, 2) := by decide +kernel
theorem dX0_areLettersAt_51 : decode cX0_areLettersAt 51 = .ok (.iadd, 1) := by decide +kernel
theorem dX0_areLettersAt_52 : decode cX0_areLettersAt 52 = .ok (.baload, 1) := by decide +kernel
theorem dX0_areLettersAt_53 : decode cX0_areLettersAt 53 = .ok (.if_icmp .eq 5, 3) := by decide +kernel
theorem dX0_areLettersAt_56 : decode cX0_areLettersAt 56 = .ok (.iconst 0, 1) := by decide +kernel
theorem dX0_areLettersAt_57 : decode cX0_areLettersAt 57 = .ok (.ireturn, 1) := by decide +kernel
theorem dX0_areLettersAt_58 : decode cX0_areLettersAt 58 = .ok (.iinc 5 1, 3) := by decide +kernel
theorem dX0_areLettersAt_61 : decode cX0_areLettersAt 61 = .ok (.goto (-33), 3) := by decide +kernel
theorem dX0_areLettersAt_64 : decode cX0_areLettersAt 64 = .ok (.iconst 1, 1) := by decide +kernel
theorem dX0_areLettersAt_65 : decode cX0_areLettersAt 65 = .ok (.ireturn, 1) := by decide +kernel
set_option maxRecDepth 20000 in
theorem ggX0_add_X8_byteAt : GoodIn wsX0_add wsX8_byteAt := goodIn_r _ [11, 12, 13, 20, 21] (by decide +kernel) (by decide +kernel)
set_option maxRecDepth 20000 in
theorem gX0_add_X8_byteAt : GoodIn wsX0_add (wsV RX0 47 RX8 yX8_byteAt wsX8_byteAt) := goodIn_app (goodIn_of _ (by decide +kernel)) ggX0_add_X8_byteAt
theorem dX0_add_0 : decode cX0_add 0 = .ok (.aload_n 0, 1) := by decide +kernel
theorem dX0_add_1 : decode cX0_add 1 = .ok (.getfield 32, 3) := by decide +kernel
theorem dX0_add_4 : decode cX0_add 4 = .ok (.bipush 60, 2) := by decide +kernel
theorem dX0_add_6 : decode cX0_add 6 = .ok (.if_icmp .ge 21, 3) := by decide +kernel
theorem dX0_add_9 : decode cX0_add 9 = .ok (.iload_n 2, 1) := by decide +kernel
theorem dX0_add_10 : decode cX0_add 10 = .ok (.aload_n 1, 1) := by decide +kernel
theorem dX0_add_11 : decode cX0_add 11 = .ok (.arraylength, 1) := by decide +kernel
theorem dX0_add_12 : decode cX0_add 12 = .ok (.if_icmp .gt 15, 3) := by decide +kernel
theorem dX0_add_15 : decode cX0_add 15 = .ok (.iload_n 2, 1) := by decide +kernel
theorem dX0_add_16 : decode cX0_add 16 = .ok (.iconst 5, 1) := by decide +kernel
theorem dX0_add_17 : decode cX0_add 17 = .ok (.if_icmp .gt 10, 3) := by decide +kernel
theorem dX0_add_20 : decode cX0_add 20 = .ok (.iload 5, 2) := by decide +kernel
theorem dX0_add_22 : decode cX0_add 22 = .ok (.bipush 16, 2) := by decide +kernel
theorem dX0_add_24 : decode cX0_add 24 = .ok (.if_icmp .le 4, 3) := by decide +kernel
theorem dX0_add_27 : decode cX0_add 27 = .ok (.return_, 1) := by decide +kernel
theorem dX0_add_28 : decode cX0_add 28 = .ok (.iconst 0, 1) := by decide +kernel
theorem dX0_add_29 : decode cX0_add 29 = .ok (.istore 6, 2) := by decide +kernel
theorem dX0_add_31 : decode cX0_add 31 = .ok (.iload 6, 2) := by decide +kernel
theorem dX0_add_33 : decode cX0_add 33 = .ok (.iload_n 2, 1) := by decide +kernel
theorem dX0_add_34 : decode cX0_add 34 = .ok (.if_icmp .ge 27, 3) := by decide +kernel
theorem dX0_add_37 : decode cX0_add 37 = .ok (.aload_n 0, 1) := by decide +kernel
theorem dX0_add_38 : decode cX0_add 38 = .ok (.getfield 18, 3) := by decide +kernel
theorem dX0_add_41 : decode cX0_add 41 = .ok (.aload_n 0, 1) := by decide +kernel
theorem dX0_add_42 : decode cX0_add 42 = .ok (.getfield 32, 3) := by decide +kernel
theorem dX0_add_45 : decode cX0_add 45 = .ok (.iconst 5, 1) := by decide +kernel
theorem dX0_add_46 : decode cX0_add 46 = .ok (.imul, 1) := by decide +kernel
theorem dX0_add_47 : decode cX0_add 47 = .ok (.iload 6, 2) := by decide +kernel
theorem dX0_add_49 : decode cX0_add 49 = .ok (.iadd, 1) := by decide +kernel
theorem dX0_add_50 : decode cX0_add 50 = .ok (.aload_n 1, 1) := by decide +kernel
theorem dX0_add_51 : decode cX0_add 51 = .ok (.iload 6, 2) := by decide +kernel
theorem dX0_add_53 : decode cX0_add 53 = .ok (.iaload, 1) := by decide +kernel
theorem dX0_add_54 : decode cX0_add 54 = .ok (.iastore, 1) := by decide +kernel
theorem dX0_add_55 : decode cX0_add 55 = .ok (.iinc 6 1, 3) := by decide +kernel
theorem dX0_add_58 : decode cX0_add 58 = .ok (.goto (-27), 3) := by decide +kernel
theorem dX0_add_61 : decode cX0_add 61 = .ok (.iconst 0, 1) := by decide +kernel
theorem dX0_add_62 : decode cX0_add 62 = .ok (.istore 6, 2) := by decide +kernel
theorem dX0_add_64 : decode cX0_add 64 = .ok (.iload 6, 2) := by decide +kernel
theorem dX0_add_66 : decode cX0_add 66 = .ok (.iload 5, 2) := by decide +kernel
theorem dX0_add_68 : decode cX0_add 68 = .ok (.if_icmp .ge 32, 3) := by decide +kernel
theorem dX0_add_71 : decode cX0_add 71 = .ok (.aload_n 0, 1) := by decide +kernel
theorem dX0_add_72 : decode cX0_add 72 = .ok (.getfield 24, 3) := by decide +kernel
theorem dX0_add_75 : decode cX0_add 75 = .ok (.aload_n 0, 1) := by decide +kernel
theorem dX0_add_76 : decode cX0_add 76 = .ok (.getfield 32, 3) := by decide +kernel
theorem dX0_add_79 : decode cX0_add 79 = .ok (.bipush 16, 2) := by decide +kernel
theorem dX0_add_81 : decode cX0_add 81 = .ok (.imul, 1) := by decide +kernel
theorem dX0_add_82 : decode cX0_add 82 = .ok (.iload 6, 2) := by decide +kernel
theorem dX0_add_84 : decode cX0_add 84 = .ok (.iadd, 1) := by decide +kernel
theorem dX0_add_85 : decode cX0_add 85 = .ok (.aload 4, 2) := by decide +kernel
theorem dX0_add_87 : decode cX0_add 87 = .ok (.iload 6, 2) := by decide +kernel
theorem dX0_add_89 : decode cX0_add 89 = .ok (.invokevirtual 47, 3) := by decide +kernel
theorem dX0_add_92 : decode cX0_add 92 = .ok (.i2b, 1) := by decide +kernel
theorem dX0_add_93 : decode cX0_add 93 = .ok (.bastore, 1) := by decide +kernel
theorem dX0_add_94 : decode cX0_add 94 = .ok (.iinc 6 1, 3) := by decide +kernel
theorem dX0_add_97 : decode cX0_add 97 = .ok (.goto (-33), 3) := by decide +kernel
theorem dX0_add_100 : decode cX0_add 100 = .ok (.aload_n 0, 1) := by decide +kernel
theorem dX0_add_101 : decode cX0_add 101 = .ok (.getfield 9, 3) := by decide +kernel
theorem dX0_add_104 : decode cX0_add 104 = .ok (.aload_n 0, 1) := by decide +kernel
theorem dX0_add_105 : decode cX0_add 105 = .ok (.getfield 32, 3) := by decide +kernel
theorem dX0_add_108 : decode cX0_add 108 = .ok (.iload_n 3, 1) := by decide +kernel
theorem dX0_add_109 : decode cX0_add 109 = .ok (.iastore, 1) := by decide +kernel
theorem dX0_add_110 : decode cX0_add 110 = .ok (.aload_n 0, 1) := by decide +kernel
theorem dX0_add_111 : decode cX0_add 111 = .ok (.getfield 15, 3) := by decide +kernel
theorem dX0_add_114 : decode cX0_add 114 = .ok (.aload_n 0, 1) := by decide +kernel
theorem dX0_add_115 : decode cX0_add 115 = .ok (.getfield 32, 3) := by decide +kernel
theorem dX0_add_118 : decode cX0_add 118 = .ok (.iload_n 2, 1) := by decide +kernel
theorem dX0_add_119 : decode cX0_add 119 = .ok (.iastore, 1) := by decide +kernel
theorem dX0_add_120 : decode cX0_add 120 = .ok (.aload_n 0, 1) := by decide +kernel
theorem dX0_add_121 : decode cX0_add 121 = .ok (.getfield 21, 3) := by decide +kernel
theorem dX0_add_124 : decode cX0_add 124 = .ok (.aload_n 0, 1) := by decide +kernel
theorem dX0_add_125 : decode cX0_add 125 = .ok (.getfield 32, 3) := by decide +kernel
theorem dX0_add_128 : decode cX0_add 128 = .ok (.iload 5, 2) := by decide +kernel
theorem dX0_add_130 : decode cX0_add 130 = .ok (.iastore, 1) := by decide +kernel
theorem dX0_add_131 : decode cX0_add 131 = .ok (.aload_n 0, 1) := by decide +kernel
theorem dX0_add_132 : decode cX0_add 132 = .ok (.dup, 1) := by decide +kernel
theorem dX0_add_133 : decode cX0_add 133 = .ok (.getfield 32, 3) := by decide +kernel
theorem dX0_add_136 : decode cX0_add 136 = .ok (.iconst 1, 1) := by decide +kernel
theorem dX0_add_137 : decode cX0_add 137 = .ok (.iadd, 1) := by decide +kernel
theorem dX0_add_138 : decode cX0_add 138 = .ok (.putfield 32, 3) := by decide +kernel
theorem dX0_add_141 : decode cX0_add 141 = .ok (.return_, 1) := by decide +kernel
theorem dX0_remove_0 : decode cX0_remove 0 = .ok (.iload_n 1, 1) := by decide +kernel
theorem dX0_remove_1 : decode cX0_remove 1 = .ok (.ifCond .lt 11, 3) := by decide +kernel
theorem dX0_remove_4 : decode cX0_remove 4 = .ok (.iload_n 1, 1) := by decide +kernel
theorem dX0_remove_5 : decode cX0_remove 5 = .ok (.aload_n 0, 1) := by decide +kernel
theorem dX0_remove_6 : decode cX0_remove 6 = .ok (.getfield 32, 3) := by decide +kernel
theorem dX0_remove_9 : decode cX0_remove 9 = .ok (.if_icmp .lt 4, 3) := by decide +kernel
theorem dX0_remove_12 : decode cX0_remove 12 = .ok (.return_, 1) := by decide +kernel
theorem dX0_remove_13 : decode cX0_remove 13 = .ok (.iload_n 1, 1) := by decide +kernel
theorem dX0_remove_14 : decode cX0_remove 14 = .ok (.iconst 1, 1) := by decide +kernel
theorem dX0_remove_15 : decode cX0_remove 15 = .ok (.iadd, 1) := by decide +kernel
theorem dX0_remove_16 : decode cX0_remove 16 = .ok (.istore_n 2, 1) := by decide +kernel
theorem dX0_remove_17 : decode cX0_remove 17 = .ok (.aload_n 0, 1) := by decide +kernel
theorem dX0_remove_18 : decode cX0_remove 18 = .ok (.getfield 32, 3) := by decide +kernel
theorem dX0_remove_21 : decode cX0_remove 21 = .ok (.iload_n 2, 1) := by decide +kernel
theorem dX0_remove_22 : decode cX0_remove 22 = .ok (.isub, 1) := by decide +kernel
theorem dX0_remove_23 : decode cX0_remove 23 = .ok (.istore_n 3, 1) := by decide +kernel
theorem dX0_remove_24 : decode cX0_remove 24 = .ok (.aload_n 0, 1) := by decide +kernel
theorem dX0_remove_25 : decode cX0_remove 25 = .ok (.getfield 9, 3) := by decide +kernel
theorem dX0_remove_28 : decode cX0_remove 28 = .ok (.iload_n 2, 1) := by decide +kernel
theorem dX0_remove_29 : decode cX0_remove 29 = .ok (.aload_n 0, 1) := by decide +kernel
theorem dX0_remove_30 : decode cX0_remove 30 = .ok (.getfield 9, 3) := by decide +kernel
theorem dX0_remove_33 : decode cX0_remove 33 = .ok (.iload_n 1, 1) := by decide +kernel
theorem dX0_remove_34 : decode cX0_remove 34 = .ok (.iload_n 3, 1) := by decide +kernel
theorem dX0_remove_35 : decode cX0_remove 35 = .ok (.invokestatic 52, 3) := by decide +kernel
theorem dX0_remove_38 : decode cX0_remove 38 = .ok (.aload_n 0, 1) := by decide +kernel
theorem dX0_remove_39 : decode cX0_remove 39 = .ok (.getfield 15, 3) := by decide +kernel
theorem dX0_remove_42 : decode cX0_remove 42 = .ok (.iload_n 2, 1) := by decide +kernel
theorem dX0_remove_43 : decode cX0_remove 43 = .ok (.aload_n 0, 1) := by decide +kernel
theorem dX0_remove_44 : decode cX0_remove 44 = .ok (.getfield 15, 3) := by decide +kernel
theorem dX0_remove_47 : decode cX0_remove 47 = .ok (.iload_n 1, 1) := by decide +kernel
theorem dX0_remove_48 : decode cX0_remove 48 = .ok (.iload_n 3, 1) := by decide +kernel
theorem dX0_remove_49 : decode cX0_remove 49 = .ok (.invokestatic 52, 3) := by decide +kernel
theorem dX0_remove_52 : decode cX0_remove 52 = .ok (.aload_n 0, 1) := by decide +kernel
theorem dX0_remove_53 : decode cX0_remove 53 = .ok (.getfield 21, 3) := by decide +kernel
theorem dX0_remove_56 : decode cX0_remove 56 = .ok (.iload_n 2, 1) := by decide +kernel
theorem dX0_remove_57 : decode cX0_remove 57 = .ok (.aload_n 0, 1) := by decide +kernel
theorem dX0_remove_58 : decode cX0_remove 58 = .ok (.getfield 21, 3) := by decide +kernel
theorem dX0_remove_61 : decode cX0_remove 61 = .ok (.iload_n 1, 1) := by decide +kernel
theorem dX0_remove_62 : decode cX0_remove 62 = .ok (.iload_n 3, 1) := by decide +kernel
theorem dX0_remove_63 : decode cX0_remove 63 = .ok (.invokestatic 52, 3) := by decide +kernel
theorem dX0_remove_66 : decode cX0_remove 66 = .ok (.aload_n 0, 1) := by decide +kernel
theorem dX0_remove_67 : decode cX0_remove 67 = .ok (.getfield 18, 3) := by decide +kernel
theorem dX0_remove_70 : decode cX0_remove 70 = .ok (.iload_n 2, 1) := by decide +kernel
theorem dX0_remove_71 : decode cX0_remove 71 = .ok (.iconst 5, 1) := by decide +kernel
theorem dX0_remove_72 : decode cX0_remove 72 = .ok (.imul, 1) := by decide +kernel
theorem dX0_remove_73 : decode cX0_remove 73 = .ok (.aload_n 0, 1) := by decide +kernel
theorem dX0_remove_74 : decode cX0_remove 74 = .ok (.getfield 18, 3) := by decide +kernel
theorem dX0_remove_77 : decode cX0_remove 77 = .ok (.iload_n 1, 1) := by decide +kernel
theorem dX0_remove_78 : decode cX0_remove 78 = .ok (.iconst 5, 1) := by decide +kernel
theorem dX0_remove_79 : decode cX0_remove 79 = .ok (.imul, 1) := by decide +kernel
theorem dX0_remove_80 : decode cX0_remove 80 = .ok (.iload_n 3, 1) := by decide +kernel
theorem dX0_remove_81 : decode cX0_remove 81 = .ok (.iconst 5, 1) := by decide +kernel
theorem dX0_remove_82 : decode cX0_remove 82 = .ok (.imul, 1) := by decide +kernel
theorem dX0_remove_83 : decode cX0_remove 83 = .ok (.invokestatic 52, 3) := by decide +kernel
theorem dX0_remove_86 : decode cX0_remove 86 = .ok (.aload_n 0, 1) := by decide +kernel
theorem dX0_remove_87 : decode cX0_remove 87 = .ok (.getfield 24, 3) := by decide +kernel
theorem dX0_remove_90 : decode cX0_remove 90 = .ok (.iload_n 2, 1) := by decide +kernel
theorem dX0_remove_91 : decode cX0_remove 91 = .ok (.bipush 16, 2) := by decide +kernel
theorem dX0_remove_93 : decode cX0_remove 93 = .ok (.imul, 1) := by decide +kernel
theorem dX0_remove_94 : decode cX0_remove 94 = .ok (.aload_n 0, 1) := by decide +kernel
theorem dX0_remove_95 : decode cX0_remove 95 = .ok (.getfield 24, 3) := by decide +kernel
theorem dX0_remove_98 : decode cX0_remove 98 = .ok (.iload_n 1, 1) := by decide +kernel
theorem dX0_remove_99 : decode cX0_remove 99 = .ok (.bipush 16, 2) := by decide +kernel
theorem dX0_remove_101 : decode cX0_remove 101 = .ok (.imul, 1) := by decide +kernel
theorem dX0_remove_102 : decode cX0_remove 102 = .ok (.iload_n 3, 1) := by decide +kernel
theorem dX0_remove_103 : decode cX0_remove 103 = .ok (.bipush 16, 2) := by decide +kernel
theorem dX0_remove_105 : decode cX0_remove 105 = .ok (.imul, 1) := by decide +kernel
theorem dX0_remove_106 : decode cX0_remove 106 = .ok (.invokestatic 52, 3) := by decide +kernel
theorem dX0_remove_109 : decode cX0_remove 109 = .ok (.aload_n 0, 1) := by decide +kernel
theorem dX0_remove_110 : decode cX0_remove 110 = .ok (.dup, 1) := by decide +kernel
theorem dX0_remove_111 : decode cX0_remove 111 = .ok (.getfield 32, 3) := by decide +kernel
theorem dX0_remove_114 : decode cX0_remove 114 = .ok (.iconst 1, 1) := by decide +kernel
theorem dX0_remove_115 : decode cX0_remove 115 = .ok (.isub, 1) := by decide +kernel
theorem dX0_remove_116 : decode cX0_remove 116 = .ok (.putfield 32, 3) := by decide +kernel
theorem dX0_remove_119 : decode cX0_remove 119 = .ok (.return_, 1) := by decide +kernel
theorem dX1_init_0 : decode cX1_init 0 = .ok (.aload_n 0, 1) := by decide +kernel
theorem dX1_init_1 : decode cX1_init 1 = .ok (.invokespecial 3, 3) := by decide +kernel
theorem dX1_init_4 : decode cX1_init 4 = .ok (.aload_n 0, 1) := by decide +kernel
theorem dX1_init_5 : decode cX1_init 5 = .ok (.bipush 60, 2) := by decide +kernel
theorem dX1_init_7 : decode cX1_init 7 = .ok (.newarray .int, 2) := by decide +kernel
theorem dX1_init_9 : decode cX1_init 9 = .ok (.putfield 9, 3) := by decide +kernel
theorem dX1_init_12 : decode cX1_init 12 = .ok (.aload_n 0, 1) := by decide +kernel
theorem dX1_init_13 : decode cX1_init 13 = .ok (.bipush 60, 2) := by decide +kernel
theorem dX1_init_15 : decode cX1_init 15 = .ok (.newarray .int, 2) := by decide +kernel
theorem dX1_init_17 : decode cX1_init 17 = .ok (.putfield 15, 3) := by decide +kernel
theorem dX1_init_20 : decode cX1_init 20 = .ok (.aload_n 0, 1) := by decide +kernel
theorem dX1_init_21 : decode cX1_init 21 = .ok (.aload_n 1, 1) := by decide +kernel
theorem dX1_init_22 : decode cX1_init 22 = .ok (.putfield 18, 3) := by decide +kernel
theorem dX1_init_25 : decode cX1_init 25 = .ok (.aload_n 0, 1) := by decide +kernel
theorem dX1_init_26 : decode cX1_init 26 = .ok (.iload_n 2, 1) := by decide +kernel
theorem dX1_init_27 : decode cX1_init 27 = .ok (.putfield 22, 3) := by decide +kernel
theorem dX1_init_30 : decode cX1_init 30 = .ok (.aload_n 0, 1) := by decide +kernel
theorem dX1_init_31 : decode cX1_init 31 = .ok (.iload_n 3, 1) := by decide +kernel
theorem dX1_init_32 : decode cX1_init 32 = .ok (.putfield 26, 3) := by decide +kernel
theorem dX1_init_35 : decode cX1_init 35 = .ok (.return_, 1) := by decide +kernel
theorem dX1_costOf_0 : decode cX1_costOf 0 = .ok (.iload_n 0, 1) := by decide +kernel
theorem dX1_costOf_1 : decode cX1_costOf 1 = .ok (.bipush 64, 2) := by decide +kernel
theorem dX1_costOf_3 : decode cX1_costOf 3 = .ok (.imul, 1) := by decide +kernel
theorem dX1_costOf_4 : decode cX1_costOf 4 = .ok (.iload_n 1, 1) := by decide +kernel
theorem dX1_costOf_5 : decode cX1_costOf 5 = .ok (.iadd, 1) := by decide +kernel
theorem dX1_costOf_6 : decode cX1_costOf 6 = .ok (.bipush 64, 2) := by decide +kernel
theorem dX1_costOf_8 : decode cX1_costOf 8 = .ok (.imul, 1) := by decide +kernel
theorem dX1_costOf_9 : decode cX1_costOf 9 = .ok (.iload_n 2, 1) := by decide +kernel
theorem dX1_costOf_10 : decode cX1_costOf 10 = .ok (.iadd, 1) := by decide +kernel
theorem dX1_costOf_11 : decode cX1_costOf 11 = .ok (.ireturn, 1) := by decide +kernel
set_option maxRecDepth 20000 in
theorem ggX1_solve_X1_pickFor : GoodIn wsX1_solve wsX1_pickFor := goodIn_r _ [7, 2, 1, 8, 9, 10, 11, 12, 13, 14, 15, 16, 17, 18, 19, 20, 21, 22, 23, 6, 24, 25, 26, 27, 28, 29, 30, 31, 32, 33, 34, 35, 36, 37, 38, 39, 40, 41, 42, 43, 44, 45, 46, 47, 48, 49, 50, 51, 52, 53, 54, 55, 56] (by decide +kernel) (by decide +kernel)
set_option maxRecDepth 20000 in
theorem gX1_solve_X1_pickFor : GoodIn wsX1_solve (wsV RX1 30 RX1 yX1_pickFor wsX1_pickFor) := goodIn_app (goodIn_of _ (by decide +kernel)) ggX1_solve_X1_pickFor
theorem dX1_solve_0 : decode cX1_solve 0 = .ok (.iload_n 2, 1) := by decide +kernel
theorem dX1_solve_1 : decode cX1_solve 1 = .ok (.ifCond .lt 14, 3) := by decide +kernel
theorem dX1_solve_4 : decode cX1_solve 4 = .ok (.iload_n 2, 1) := by decide +kernel
theorem dX1_solve_5 : decode cX1_solve 5 = .ok (.iload_n 3, 1) := by decide +kernel
theorem dX1_solve_6 : decode cX1_solve 6 = .ok (.if_icmp .ge 9, 3) := by decide +kernel
theorem dX1_solve_9 : decode cX1_solve 9 = .ok (.iload_n 3, 1) := by decide +kernel
theorem dX1_solve_10 : decode cX1_solve 10 = .ok (.bipush 60, 2) := by decide +kernel
theorem dX1_solve_12 : decode cX1_solve 12 = .ok (.if_icmp .le 6, 3) := by decide +kernel
theorem dX1_solve_15 : decode cX1_solve 15 = .ok (.ldc 29, 2) := by decide +kernel
theorem dX1_solve_17 : decode cX1_solve 17 = .ok (.ireturn, 1) := by decide +kernel
theorem dX1_solve_18 : decode cX1_solve 18 = .ok (.iload_n 3, 1) := by decide +kernel
theorem dX1_solve_19 : decode cX1_solve 19 = .ok (.iconst 1, 1) := by decide +kernel
theorem dX1_solve_20 : decode cX1_solve 20 = .ok (.isub, 1) := by decide +kernel
theorem dX1_solve_21 : decode cX1_solve 21 = .ok (.istore 4, 2) := by decide +kernel
theorem dX1_solve_23 : decode cX1_solve 23 = .ok (.iload 4, 2) := by decide +kernel
theorem dX1_solve_25 : decode cX1_solve 25 = .ok (.iload_n 2, 1) := by decide +kernel
theorem dX1_solve_26 : decode cX1_solve 26 = .ok (.if_icmp .lt 17, 3) := by decide +kernel
theorem dX1_solve_29 : decode cX1_solve 29 = .ok (.aload_n 0, 1) := by decide +kernel
theorem dX1_solve_30 : decode cX1_solve 30 = .ok (.aload_n 1, 1) := by decide +kernel
theorem dX1_solve_31 : decode cX1_solve 31 = .ok (.iload 4, 2) := by decide +kernel
theorem dX1_solve_33 : decode cX1_solve 33 = .ok (.iload_n 3, 1) := by decide +kernel
theorem dX1_solve_34 : decode cX1_solve 34 = .ok (.invokevirtual 30, 3) := by decide +kernel
theorem dX1_solve_37 : decode cX1_solve 37 = .ok (.iinc 4 (-1), 3) := by decide +kernel
theorem dX1_solve_40 : decode cX1_solve 40 = .ok (.goto (-17), 3) := by decide +kernel
theorem dX1_solve_43 : decode cX1_solve 43 = .ok (.aload_n 0, 1) := by decide +kernel
theorem dX1_solve_44 : decode cX1_solve 44 = .ok (.getfield 9, 3) := by decide +kernel
theorem dX1_solve_47 : decode cX1_solve 47 = .ok (.iload_n 2, 1) := by decide +kernel
theorem dX1_solve_48 : decode cX1_solve 48 = .ok (.iaload, 1) := by decide +kernel
theorem dX1_solve_49 : decode cX1_solve 49 = .ok (.ireturn, 1) := by decide +kernel
theorem dX1_pickAt_0 : decode cX1_pickAt 0 = .ok (.iload_n 1, 1) := by decide +kernel
theorem dX1_pickAt_1 : decode cX1_pickAt 1 = .ok (.ifCond .lt 18, 3) := by decide +kernel
theorem dX1_pickAt_4 : decode cX1_pickAt 4 = .ok (.iload_n 1, 1) := by decide +kernel
theorem dX1_pickAt_5 : decode cX1_pickAt 5 = .ok (.bipush 60, 2) := by decide +kernel
theorem dX1_pickAt_7 : decode cX1_pickAt 7 = .ok (.if_icmp .ge 12, 3) := by decide +kernel
theorem dX1_pickAt_10 : decode cX1_pickAt 10 = .ok (.aload_n 0, 1) := by decide +kernel
theorem dX1_pickAt_11 : decode cX1_pickAt 11 = .ok (.getfield 15, 3) := by decide +kernel
theorem dX1_pickAt_14 : decode cX1_pickAt 14 = .ok (.iload_n 1, 1) := by decide +kernel
theorem dX1_pickAt_15 : decode cX1_pickAt 15 = .ok (.iaload, 1) := by decide +kernel
theorem dX1_pickAt_16 : decode cX1_pickAt 16 = .ok (.goto 4, 3) := by decide +kernel
theorem dX1_pickAt_19 : decode cX1_pickAt 19 = .ok (.iconst (-1), 1) := by decide +kernel
theorem dX1_pickAt_20 : decode cX1_pickAt 20 = .ok (.ireturn, 1) := by decide +kernel
set_option maxRecDepth 20000 in
theorem ggX1_pickFor_X0_size : GoodIn wsX1_pickFor wsX0_size := goodIn_r _ [9, 10, 47, 48, 49, 50, 51, 52] (by decide +kernel) (by decide +kernel)
set_option maxRecDepth 20000 in
theorem gX1_pickFor_X0_size : GoodIn wsX1_pickFor (wsV RX1 34 RX0 yX0_size wsX0_size) := goodIn_app (goodIn_of _ (by decide +kernel)) ggX1_pickFor_X0_size
set_option maxRecDepth 20000 in
theorem ggX1_pickFor_X0_lengthOf : GoodIn wsX1_pickFor wsX0_lengthOf := goodIn_r _ [14, 10, 15, 47, 48, 49, 50, 51, 52] (by decide +kernel) (by decide +kernel)
set_option maxRecDepth 20000 in
theorem gX1_pickFor_X0_lengthOf : GoodIn wsX1_pickFor (wsV RX1 40 RX0 yX0_lengthOf wsX0_lengthOf) := goodIn_app (goodIn_of _ (by decide +kernel)) ggX1_pickFor_X0_lengthOf
set_option maxRecDepth 20000 in
theorem ggX1_pickFor_X1_costThrough : GoodIn wsX1_pickFor wsX1_costThrough := goodIn_r _ [20, 4, 21, 2, 22, 1, 23, 24, 25, 8, 26, 10, 27, 28, 29, 30, 31, 32, 33, 34, 19, 35, 42, 43, 44, 45, 46, 47, 48, 49, 50, 51, 52] (by decide +kernel) (by decide +kernel)
set_option maxRecDepth 20000 in
theorem gX1_pickFor_X1_costThrough : GoodIn wsX1_pickFor (wsV RX1 44 RX1 yX1_costThrough wsX1_costThrough) := goodIn_app (goodIn_of _ (by decide +kernel)) ggX1_pickFor_X1_costThrough
set_option maxRecDepth 20000 in
theorem ggX1_pickFor_X0_areLettersAt : GoodIn wsX1_pickFor wsX0_areLettersAt := goodIn_r _ [39, 40, 41, 12, 13, 8, 14, 10, 15, 47, 48, 49, 50, 51, 52] (by decide +kernel) (by decide +kernel)
set_option maxRecDepth 20000 in
theorem gX1_pickFor_X0_areLettersAt : GoodIn wsX1_pickFor (wsV RX1 48 RX0 yX0_areLettersAt wsX0_areLettersAt) := goodIn_app (goodIn_of _ (by decide +kernel)) ggX1_pickFor_X0_areLettersAt
theorem dX1_pickFor_0 : decode cX1_pickFor 0 = .ok (.aload_n 0, 1) := by decide +kernel
theorem dX1_pickFor_1 : decode cX1_pickFor 1 = .ok (.getfield 9, 3) := by decide +kernel
theorem dX1_pickFor_4 : decode cX1_pickFor 4 = .ok (.iload_n 2, 1) := by decide +kernel
theorem dX1_pickFor_5 : decode cX1_pickFor 5 = .ok (.ldc 29, 2) := by decide +kernel
theorem dX1_pickFor_7 : decode cX1_pickFor 7 = .ok (.iastore, 1) := by decide +kernel
theorem dX1_pickFor_8 : decode cX1_pickFor 8 = .ok (.aload_n 0, 1) := by decide +kernel
theorem dX1_pickFor_9 : decode cX1_pickFor 9 = .ok (.getfield 15, 3) := by decide +kernel
theorem dX1_pickFor_12 : decode cX1_pickFor 12 = .ok (.iload_n 2, 1) := by decide +kernel
theorem dX1_pickFor_13 : decode cX1_pickFor 13 = .ok (.iconst (-1), 1) := by decide +kernel
theorem dX1_pickFor_14 : decode cX1_pickFor 14 = .ok (.iastore, 1) := by decide +kernel
theorem dX1_pickFor_15 : decode cX1_pickFor 15 = .ok (.iconst 0, 1) := by decide +kernel
theorem dX1_pickFor_16 : decode cX1_pickFor 16 = .ok (.istore 4, 2) := by decide +kernel
theorem dX1_pickFor_18 : decode cX1_pickFor 18 = .ok (.iload 4, 2) := by decide +kernel
theorem dX1_pickFor_20 : decode cX1_pickFor 20 = .ok (.aload_n 0, 1) := by decide +kernel
theorem dX1_pickFor_21 : decode cX1_pickFor 21 = .ok (.getfield 18, 3) := by decide +kernel
theorem dX1_pickFor_24 : decode cX1_pickFor 24 = .ok (.invokevirtual 34, 3) := by decide +kernel
theorem dX1_pickFor_27 : decode cX1_pickFor 27 = .ok (.if_icmp .ge 79, 3) := by decide +kernel
theorem dX1_pickFor_30 : decode cX1_pickFor 30 = .ok (.aload_n 0, 1) := by decide +kernel
theorem dX1_pickFor_31 : decode cX1_pickFor 31 = .ok (.iload 4, 2) := by decide +kernel
theorem dX1_pickFor_33 : decode cX1_pickFor 33 = .ok (.iload_n 2, 1) := by decide +kernel
theorem dX1_pickFor_34 : decode cX1_pickFor 34 = .ok (.aload_n 0, 1) := by decide +kernel
theorem dX1_pickFor_35 : decode cX1_pickFor 35 = .ok (.getfield 18, 3) := by decide +kernel
theorem dX1_pickFor_38 : decode cX1_pickFor 38 = .ok (.iload 4, 2) := by decide +kernel
theorem dX1_pickFor_40 : decode cX1_pickFor 40 = .ok (.invokevirtual 40, 3) := by decide +kernel
theorem dX1_pickFor_43 : decode cX1_pickFor 43 = .ok (.iadd, 1) := by decide +kernel
theorem dX1_pickFor_44 : decode cX1_pickFor 44 = .ok (.iload_n 3, 1) := by decide +kernel
theorem dX1_pickFor_45 : decode cX1_pickFor 45 = .ok (.invokevirtual 44, 3) := by decide +kernel
theorem dX1_pickFor_48 : decode cX1_pickFor 48 = .ok (.istore 5, 2) := by decide +kernel
theorem dX1_pickFor_50 : decode cX1_pickFor 50 = .ok (.iload 5, 2) := by decide +kernel
theorem dX1_pickFor_52 : decode cX1_pickFor 52 = .ok (.aload_n 0, 1) := by decide +kernel
theorem dX1_pickFor_53 : decode cX1_pickFor 53 = .ok (.getfield 9, 3) := by decide +kernel
theorem dX1_pickFor_56 : decode cX1_pickFor 56 = .ok (.iload_n 2, 1) := by decide +kernel
theorem dX1_pickFor_57 : decode cX1_pickFor 57 = .ok (.iaload, 1) := by decide +kernel
theorem dX1_pickFor_58 : decode cX1_pickFor 58 = .ok (.if_icmp .ge 42, 3) := by decide +kernel
theorem dX1_pickFor_61 : decode cX1_pickFor 61 = .ok (.aload_n 0, 1) := by decide +kernel
theorem dX1_pickFor_62 : decode cX1_pickFor 62 = .ok (.getfield 18, 3) := by decide +kernel
theorem dX1_pickFor_65 : decode cX1_pickFor 65 = .ok (.iload 4, 2) := by decide +kernel
theorem dX1_pickFor_67 : decode cX1_pickFor 67 = .ok (.aload_n 0, 1) := by decide +kernel
theorem dX1_pickFor_68 : decode cX1_pickFor 68 = .ok (.getfield 18, 3) := by decide +kernel
theorem dX1_pickFor_71 : decode cX1_pickFor 71 = .ok (.iload 4, 2) := by decide +kernel
theorem dX1_pickFor_73 : decode cX1_pickFor 73 = .ok (.invokevirtual 40, 3) := by decide +kernel
theorem dX1_pickFor_76 : decode cX1_pickFor 76 = .ok (.aload_n 1, 1) := by decide +kernel
theorem dX1_pickFor_77 : decode cX1_pickFor 77 = .ok (.iload_n 2, 1) := by decide +kernel
theorem dX1_pickFor_78 : decode cX1_pickFor 78 = .ok (.invokevirtual 48, 3) := by decide +kernel
theorem dX1_pickFor_81 : decode cX1_pickFor 81 = .ok (.ifCond .eq 19, 3) := by decide +kernel
theorem dX1_pickFor_84 : decode cX1_pickFor 84 = .ok (.aload_n 0, 1) := by decide +kernel
theorem dX1_pickFor_85 : decode cX1_pickFor 85 = .ok (.getfield 9, 3) := by decide +kernel
theorem dX1_pickFor_88 : decode cX1_pickFor 88 = .ok (.iload_n 2, 1) := by decide +kernel
theorem dX1_pickFor_89 : decode cX1_pickFor 89 = .ok (.iload 5, 2) := by decide +kernel
theorem dX1_pickFor_91 : decode cX1_pickFor 91 = .ok (.iastore, 1) := by decide +kernel
theorem dX1_pickFor_92 : decode cX1_pickFor 92 = .ok (.aload_n 0, 1) := by decide +kernel
theorem dX1_pickFor_93 : decode cX1_pickFor 93 = .ok (.getfield 15, 3) := by decide +kernel
theorem dX1_pickFor_96 : decode cX1_pickFor 96 = .ok (.iload_n 2, 1) := by decide +kernel
theorem dX1_pickFor_97 : decode cX1_pickFor 97 = .ok (.iload 4, 2) := by decide +kernel
theorem dX1_pickFor_99 : decode cX1_pickFor 99 = .ok (.iastore, 1) := by decide +kernel
theorem dX1_pickFor_100 : decode cX1_pickFor 100 = .ok (.iinc 4 1, 3) := by decide +kernel
theorem dX1_pickFor_103 : decode cX1_pickFor 103 = .ok (.goto (-85), 3) := by decide +kernel
theorem dX1_pickFor_106 : decode cX1_pickFor 106 = .ok (.return_, 1) := by decide +kernel
set_option maxRecDepth 20000 in
theorem ggX1_costThrough_X0_kindOf : GoodIn wsX1_costThrough wsX0_kindOf := goodIn_r _ [10, 11, 12, 27, 28, 29, 30, 31, 32] (by decide +kernel) (by decide +kernel)
set_option maxRecDepth 20000 in
theorem gX1_costThrough_X0_kindOf : GoodIn wsX1_costThrough (wsV RX1 52 RX0 yX0_kindOf wsX0_kindOf) := goodIn_app (goodIn_of _ (by decide +kernel)) ggX1_costThrough_X0_kindOf
set_option maxRecDepth 20000 in
theorem ggX1_costThrough_X0_strokesOf : GoodIn wsX1_costThrough wsX0_strokesOf := goodIn_r _ [16, 11, 17, 27, 28, 29, 30, 31, 32] (by decide +kernel) (by decide +kernel)
set_option maxRecDepth 20000 in
theorem gX1_costThrough_X0_strokesOf : GoodIn wsX1_costThrough (wsV RX1 55 RX0 yX0_strokesOf wsX0_strokesOf) := goodIn_app (goodIn_of _ (by decide +kernel)) ggX1_costThrough_X0_strokesOf
set_option maxRecDepth 20000 in
theorem ggX1_costThrough_X1_costOf : GoodIn wsX1_costThrough wsX1_costOf := goodIn_r _ [21] (by decide +kernel) (by decide +kernel)
set_option maxRecDepth 20000 in
theorem gX1_costThrough_X1_costOf : GoodIn wsX1_costThrough (va_wsS RX1 58 yX1_costOf wsX1_costOf) := goodIn_app (goodIn_of _ (by decide +kernel)) ggX1_costThrough_X1_costOf
theorem dX1_costThrough_0 : decode cX1_costThrough 0 = .ok (.aload_n 0, 1) := by decide +kernel
theorem dX1_costThrough_1 : decode cX1_costThrough 1 = .ok (.getfield 18, 3) := by decide +kernel
theorem dX1_costThrough_4 : decode cX1_costThrough 4 = .ok (.iload_n 1, 1) := by decide +kernel
theorem dX1_costThrough_5 : decode cX1_costThrough 5 = .ok (.invokevirtual 52, 3) := by decide +kernel
theorem dX1_costThrough_8 : decode cX1_costThrough 8 = .ok (.istore 4, 2) := by decide +kernel
theorem dX1_costThrough_10 : decode cX1_costThrough 10 = .ok (.aload_n 0, 1) := by decide +kernel
theorem dX1_costThrough_11 : decode cX1_costThrough 11 = .ok (.getfield 18, 3) := by decide +kernel
theorem dX1_costThrough_14 : decode cX1_costThrough 14 = .ok (.iload_n 1, 1) := by decide +kernel
theorem dX1_costThrough_15 : decode cX1_costThrough 15 = .ok (.invokevirtual 55, 3) := by decide +kernel
theorem dX1_costThrough_18 : decode cX1_costThrough 18 = .ok (.iconst 1, 1) := by decide +kernel
theorem dX1_costThrough_19 : decode cX1_costThrough 19 = .ok (.iload_n 1, 1) := by decide +kernel
theorem dX1_costThrough_20 : decode cX1_costThrough 20 = .ok (.invokestatic 58, 3) := by decide +kernel
theorem dX1_costThrough_23 : decode cX1_costThrough 23 = .ok (.istore 5, 2) := by decide +kernel
theorem dX1_costThrough_25 : decode cX1_costThrough 25 = .ok (.iload_n 2, 1) := by decide +kernel
theorem dX1_costThrough_26 : decode cX1_costThrough 26 = .ok (.iload_n 3, 1) := by decide +kernel
theorem dX1_costThrough_27 : decode cX1_costThrough 27 = .ok (.if_icmp .ne 20, 3) := by decide +kernel
theorem dX1_costThrough_30 : decode cX1_costThrough 30 = .ok (.iload 4, 2) := by decide +kernel
theorem dX1_costThrough_32 : decode cX1_costThrough 32 = .ok (.aload_n 0, 1) := by decide +kernel
theorem dX1_costThrough_33 : decode cX1_costThrough 33 = .ok (.getfield 26, 3) := by decide +kernel
theorem dX1_costThrough_36 : decode cX1_costThrough 36 = .ok (.if_icmp .ne 8, 3) := by decide +kernel
theorem dX1_costThrough_39 : decode cX1_costThrough 39 = .ok (.iload 5, 2) := by decide +kernel
theorem dX1_costThrough_41 : decode cX1_costThrough 41 = .ok (.goto 5, 3) := by decide +kernel
theorem dX1_costThrough_44 : decode cX1_costThrough 44 = .ok (.ldc 29, 2) := by decide +kernel
theorem dX1_costThrough_46 : decode cX1_costThrough 46 = .ok (.ireturn, 1) := by decide +kernel
theorem dX1_costThrough_47 : decode cX1_costThrough 47 = .ok (.iload_n 2, 1) := by decide +kernel
theorem dX1_costThrough_48 : decode cX1_costThrough 48 = .ok (.iload_n 3, 1) := by decide +kernel
theorem dX1_costThrough_49 : decode cX1_costThrough 49 = .ok (.if_icmp .gt 23, 3) := by decide +kernel
theorem dX1_costThrough_52 : decode cX1_costThrough 52 = .ok (.iload 4, 2) := by decide +kernel
theorem dX1_costThrough_54 : decode cX1_costThrough 54 = .ok (.aload_n 0, 1) := by decide +kernel
theorem dX1_costThrough_55 : decode cX1_costThrough 55 = .ok (.getfield 22, 3) := by decide +kernel
theorem dX1_costThrough_58 : decode cX1_costThrough 58 = .ok (.if_icmp .ne 14, 3) := by decide +kernel
theorem dX1_costThrough_61 : decode cX1_costThrough 61 = .ok (.aload_n 0, 1) := by decide +kernel
theorem dX1_costThrough_62 : decode cX1_costThrough 62 = .ok (.getfield 9, 3) := by decide +kernel
theorem dX1_costThrough_65 : decode cX1_costThrough 65 = .ok (.iload_n 2, 1) := by decide +kernel
theorem dX1_costThrough_66 : decode cX1_costThrough 66 = .ok (.iaload, 1) := by decide +kernel
theorem dX1_costThrough_67 : decode cX1_costThrough 67 = .ok (.ldc 29, 2) := by decide +kernel
theorem dX1_costThrough_69 : decode cX1_costThrough 69 = .ok (.if_icmp .ne 6, 3) := by decide +kernel
theorem dX1_costThrough_72 : decode cX1_costThrough 72 = .ok (.ldc 29, 2) := by decide +kernel
theorem dX1_costThrough_74 : decode cX1_costThrough 74 = .ok (.ireturn, 1) := by decide +kernel
theorem dX1_costThrough_75 : decode cX1_costThrough 75 = .ok (.iload 5, 2) := by decide +kernel
theorem dX1_costThrough_77 : decode cX1_costThrough 77 = .ok (.aload_n 0, 1) := by decide +kernel
theorem dX1_costThrough_78 : decode cX1_costThrough 78 = .ok (.getfield 9, 3) := by decide +kernel
theorem dX1_costThrough_81 : decode cX1_costThrough 81 = .ok (.iload_n 2, 1) := by decide +kernel
theorem dX1_costThrough_82 : decode cX1_costThrough 82 = .ok (.iaload, 1) := by decide +kernel
theorem dX1_costThrough_83 : decode cX1_costThrough 83 = .ok (.iadd, 1) := by decide +kernel
theorem dX1_costThrough_84 : decode cX1_costThrough 84 = .ok (.aload_n 0, 1) := by decide +kernel
theorem dX1_costThrough_85 : decode cX1_costThrough 85 = .ok (.getfield 9, 3) := by decide +kernel
theorem dX1_costThrough_88 : decode cX1_costThrough 88 = .ok (.iload_n 2, 1) := by decide +kernel
theorem dX1_costThrough_89 : decode cX1_costThrough 89 = .ok (.iaload, 1) := by decide +kernel
theorem dX1_costThrough_90 : decode cX1_costThrough 90 = .ok (.bipush 64, 2) := by decide +kernel
theorem dX1_costThrough_92 : decode cX1_costThrough 92 = .ok (.irem, 1) := by decide +kernel
theorem dX1_costThrough_93 : decode cX1_costThrough 93 = .ok (.isub, 1) := by decide +kernel
theorem dX1_costThrough_94 : decode cX1_costThrough 94 = .ok (.ireturn, 1) := by decide +kernel
theorem dX2_init_0 : decode cX2_init 0 = .ok (.aload_n 0, 1) := by decide +kernel
theorem dX2_init_1 : decode cX2_init 1 = .ok (.invokespecial 3, 3) := by decide +kernel
theorem dX2_init_4 : decode cX2_init 4 = .ok (.aload_n 0, 1) := by decide +kernel
theorem dX2_init_5 : decode cX2_init 5 = .ok (.bipush 22, 2) := by decide +kernel
theorem dX2_init_7 : decode cX2_init 7 = .ok (.newarray .byte, 2) := by decide +kernel
theorem dX2_init_9 : decode cX2_init 9 = .ok (.putfield 9, 3) := by decide +kernel
theorem dX2_init_12 : decode cX2_init 12 = .ok (.return_, 1) := by decide +kernel
set_option maxRecDepth 20000 in
theorem ggX2_spell_J0_length_8abf5 : GoodIn wsX2_spell wsJ0_length_8abf5 := goodIn_r _ [6, 7, 8, 9, 10, 5, 11, 12, 13] (by decide +kernel) (by decide +kernel)
set_option maxRecDepth 20000 in
theorem gX2_spell_J0_length_8abf5 : GoodIn wsX2_spell (wsV RX2 21 RJ0 yJ0_length_8abf5 wsJ0_length_8abf5) := goodIn_app (goodIn_of _ (by decide +kernel)) ggX2_spell_J0_length_8abf5
set_option maxRecDepth 20000 in
theorem ggX2_spell_X2_put : GoodIn wsX2_spell wsX2_put := goodIn_r _ [18, 1, 19, 57, 58] (by decide +kernel) (by decide +kernel)
set_option maxRecDepth 20000 in
theorem gX2_spell_X2_put : GoodIn wsX2_spell (wsV RX2 27 RX2 yX2_put wsX2_put) := goodIn_app (goodIn_of _ (by decide +kernel)) ggX2_spell_X2_put
set_option maxRecDepth 20000 in
theorem ggX2_spell_J0_charAt_5068e : GoodIn wsX2_spell wsJ0_charAt_5068e := goodIn_r _ [23, 7, 24, 25, 26, 5, 27, 12, 13, 28, 29, 30, 31, 32, 33, 34, 35, 36, 37, 38, 39, 40, 41, 42, 43, 44, 45, 46, 47, 48, 49, 50, 51, 52, 53, 54, 55, 56] (by decide +kernel) (by decide +kernel)
set_option maxRecDepth 20000 in
theorem gX2_spell_J0_charAt_5068e : GoodIn wsX2_spell (wsV RX2 31 RJ0 yJ0_charAt_5068e wsJ0_charAt_5068e) := goodIn_app (goodIn_of _ (by decide +kernel)) ggX2_spell_J0_charAt_5068e
theorem dX2_spell_0 : decode cX2_spell 0 = .ok (.aload_n 0, 1) := by decide +kernel
theorem dX2_spell_1 : decode cX2_spell 1 = .ok (.iconst 0, 1) := by decide +kernel
theorem dX2_spell_2 : decode cX2_spell 2 = .ok (.putfield 15, 3) := by decide +kernel
theorem dX2_spell_5 : decode cX2_spell 5 = .ok (.iload_n 1, 1) := by decide +kernel
theorem dX2_spell_6 : decode cX2_spell 6 = .ok (.sipush 3968, 3) := by decide +kernel
theorem dX2_spell_9 : decode cX2_spell 9 = .ok (.iand, 1) := by decide +kernel
theorem dX2_spell_10 : decode cX2_spell 10 = .ok (.ifCond .ne 7, 3) := by decide +kernel
theorem dX2_spell_13 : decode cX2_spell 13 = .ok (.iconst 1, 1) := by decide +kernel
theorem dX2_spell_14 : decode cX2_spell 14 = .ok (.goto 4, 3) := by decide +kernel
theorem dX2_spell_17 : decode cX2_spell 17 = .ok (.iconst 0, 1) := by decide +kernel
theorem dX2_spell_18 : decode cX2_spell 18 = .ok (.istore_n 2, 1) := by decide +kernel
theorem dX2_spell_19 : decode cX2_spell 19 = .ok (.iconst 0, 1) := by decide +kernel
theorem dX2_spell_20 : decode cX2_spell 20 = .ok (.istore_n 3, 1) := by decide +kernel
theorem dX2_spell_21 : decode cX2_spell 21 = .ok (.iload_n 3, 1) := by decide +kernel
theorem dX2_spell_22 : decode cX2_spell 22 = .ok (.ldc 19, 2) := by decide +kernel
theorem dX2_spell_24 : decode cX2_spell 24 = .ok (.invokevirtual 21, 3) := by decide +kernel
theorem dX2_spell_27 : decode cX2_spell 27 = .ok (.if_icmp .ge 46, 3) := by decide +kernel
theorem dX2_spell_30 : decode cX2_spell 30 = .ok (.iload_n 1, 1) := by decide +kernel
theorem dX2_spell_31 : decode cX2_spell 31 = .ok (.iload_n 3, 1) := by decide +kernel
theorem dX2_spell_32 : decode cX2_spell 32 = .ok (.ishr, 1) := by decide +kernel
theorem dX2_spell_33 : decode cX2_spell 33 = .ok (.iconst 1, 1) := by decide +kernel
theorem dX2_spell_34 : decode cX2_spell 34 = .ok (.iand, 1) := by decide +kernel
theorem dX2_spell_35 : decode cX2_spell 35 = .ok (.iconst 1, 1) := by decide +kernel
theorem dX2_spell_36 : decode cX2_spell 36 = .ok (.if_icmp .ne 31, 3) := by decide +kernel
theorem dX2_spell_39 : decode cX2_spell 39 = .ok (.iload_n 2, 1) := by decide +kernel
theorem dX2_spell_40 : decode cX2_spell 40 = .ok (.ifCond .eq 17, 3) := by decide +kernel
theorem dX2_spell_43 : decode cX2_spell 43 = .ok (.iload_n 3, 1) := by decide +kernel
theorem dX2_spell_44 : decode cX2_spell 44 = .ok (.bipush 12, 2) := by decide +kernel
theorem dX2_spell_46 : decode cX2_spell 46 = .ok (.if_icmp .lt 11, 3) := by decide +kernel
theorem dX2_spell_49 : decode cX2_spell 49 = .ok (.aload_n 0, 1) := by decide +kernel
theorem dX2_spell_50 : decode cX2_spell 50 = .ok (.bipush 45, 2) := by decide +kernel
theorem dX2_spell_52 : decode cX2_spell 52 = .ok (.invokevirtual 27, 3) := by decide +kernel
theorem dX2_spell_55 : decode cX2_spell 55 = .ok (.iconst 0, 1) := by decide +kernel
theorem dX2_spell_56 : decode cX2_spell 56 = .ok (.istore_n 2, 1) := by decide +kernel
theorem dX2_spell_57 : decode cX2_spell 57 = .ok (.aload_n 0, 1) := by decide +kernel
theorem dX2_spell_58 : decode cX2_spell 58 = .ok (.ldc 19, 2) := by decide +kernel
theorem dX2_spell_60 : decode cX2_spell 60 = .ok (.iload_n 3, 1) := by decide +kernel
theorem dX2_spell_61 : decode cX2_spell 61 = .ok (.invokevirtual 31, 3) := by decide +kernel
theorem dX2_spell_64 : decode cX2_spell 64 = .ok (.invokevirtual 27, 3) := by decide +kernel
theorem dX2_spell_67 : decode cX2_spell 67 = .ok (.iinc 3 1, 3) := by decide +kernel
theorem dX2_spell_70 : decode cX2_spell 70 = .ok (.goto (-49), 3) := by decide +kernel
theorem dX2_spell_73 : decode cX2_spell 73 = .ok (.return_, 1) := by decide +kernel
theorem dX2_size_0 : decode cX2_size 0 = .ok (.aload_n 0, 1) := by decide +kernel
theorem dX2_size_1 : decode cX2_size 1 = .ok (.getfield 15, 3) := by decide +kernel
theorem dX2_size_4 : decode cX2_size 4 = .ok (.ireturn, 1) := by decide +kernel
theorem dX2_byteAt_0 : decode cX2_byteAt 0 = .ok (.iload_n 1, 1) := by decide +kernel
theorem dX2_byteAt_1 : decode cX2_byteAt 1 = .ok (.ifCond .lt 20, 3) := by decide +kernel
theorem dX2_byteAt_4 : decode cX2_byteAt 4 = .ok (.iload_n 1, 1) := by decide +kernel
theorem dX2_byteAt_5 : decode cX2_byteAt 5 = .ok (.aload_n 0, 1) := by decide +kernel
theorem dX2_byteAt_6 : decode cX2_byteAt 6 = .ok (.getfield 15, 3) := by decide +kernel
theorem dX2_byteAt_9 : decode cX2_byteAt 9 = .ok (.if_icmp .ge 12, 3) := by decide +kernel
theorem dX2_byteAt_12 : decode cX2_byteAt 12 = .ok (.aload_n 0, 1) := by decide +kernel
theorem dX2_byteAt_13 : decode cX2_byteAt 13 = .ok (.getfield 9, 3) := by decide +kernel
theorem dX2_byteAt_16 : decode cX2_byteAt 16 = .ok (.iload_n 1, 1) := by decide +kernel
theorem dX2_byteAt_17 : decode cX2_byteAt 17 = .ok (.baload, 1) := by decide +kernel
theorem dX2_byteAt_18 : decode cX2_byteAt 18 = .ok (.goto 4, 3) := by decide +kernel
theorem dX2_byteAt_21 : decode cX2_byteAt 21 = .ok (.iconst (-1), 1) := by decide +kernel
theorem dX2_byteAt_22 : decode cX2_byteAt 22 = .ok (.ireturn, 1) := by decide +kernel
theorem dX2_put_0 : decode cX2_put 0 = .ok (.aload_n 0, 1) := by decide +kernel
theorem dX2_put_1 : decode cX2_put 1 = .ok (.getfield 15, 3) := by decide +kernel
theorem dX2_put_4 : decode cX2_put 4 = .ok (.bipush 22, 2) := by decide +kernel
theorem dX2_put_6 : decode cX2_put 6 = .ok (.if_icmp .ge 24, 3) := by decide +kernel
theorem dX2_put_9 : decode cX2_put 9 = .ok (.aload_n 0, 1) := by decide +kernel
theorem dX2_put_10 : decode cX2_put 10 = .ok (.getfield 9, 3) := by decide +kernel
theorem dX2_put_13 : decode cX2_put 13 = .ok (.aload_n 0, 1) := by decide +kernel
theorem dX2_put_14 : decode cX2_put 14 = .ok (.getfield 15, 3) := by decide +kernel
theorem dX2_put_17 : decode cX2_put 17 = .ok (.iload_n 1, 1) := by decide +kernel
theorem dX2_put_18 : decode cX2_put 18 = .ok (.i2b, 1) := by decide +kernel
theorem dX2_put_19 : decode cX2_put 19 = .ok (.bastore, 1) := by decide +kernel
theorem dX2_put_20 : decode cX2_put 20 = .ok (.aload_n 0, 1) := by decide +kernel
theorem dX2_put_21 : decode cX2_put 21 = .ok (.dup, 1) := by decide +kernel
theorem dX2_put_22 : decode cX2_put 22 = .ok (.getfield 15, 3) := by decide +kernel
theorem dX2_put_25 : decode cX2_put 25 = .ok (.iconst 1, 1) := by decide +kernel
theorem dX2_put_26 : decode cX2_put 26 = .ok (.iadd, 1) := by decide +kernel
theorem dX2_put_27 : decode cX2_put 27 = .ok (.putfield 15, 3) := by decide +kernel
theorem dX2_put_30 : decode cX2_put 30 = .ok (.return_, 1) := by decide +kernel
set_option maxRecDepth 20000 in
theorem ggX3_init_X4_init : GoodIn wsX3_init wsX4_init := goodIn_r _ [11, 12, 2, 3, 13, 14, 15, 16, 17, 18, 19, 24, 25, 26, 27, 28, 29, 30] (by decide +kernel) (by decide +kernel)
set_option maxRecDepth 20000 in
theorem gX3_init_X4_init : GoodIn wsX3_init (wsX4_init) := ggX3_init_X4_init
theorem dX3_init_0 : decode cX3_init 0 = .ok (.aload_n 0, 1) := by decide +kernel
theorem dX3_init_1 : decode cX3_init 1 = .ok (.invokespecial 3, 3) := by decide +kernel
theorem dX3_init_4 : decode cX3_init 4 = .ok (.aload_n 0, 1) := by decide +kernel
theorem dX3_init_5 : decode cX3_init 5 = .ok (.aload_n 1, 1) := by decide +kernel
theorem dX3_init_6 : decode cX3_init 6 = .ok (.putfield 9, 3) := by decide +kernel
theorem dX3_init_9 : decode cX3_init 9 = .ok (.aload_n 0, 1) := by decide +kernel
theorem dX3_init_10 : decode cX3_init 10 = .ok (.new 15, 3) := by decide +kernel
theorem dX3_init_13 : decode cX3_init 13 = .ok (.dup, 1) := by decide +kernel
theorem dX3_init_14 : decode cX3_init 14 = .ok (.aload_n 1, 1) := by decide +kernel
theorem dX3_init_15 : decode cX3_init 15 = .ok (.bipush 33, 2) := by decide +kernel
theorem dX3_init_17 : decode cX3_init 17 = .ok (.invokespecial 17, 3) := by decide +kernel
theorem dX3_init_20 : decode cX3_init 20 = .ok (.putfield 20, 3) := by decide +kernel
theorem dX3_init_23 : decode cX3_init 23 = .ok (.return_, 1) := by decide +kernel
theorem dX3_word_0 : decode cX3_word 0 = .ok (.aload_n 0, 1) := by decide +kernel
theorem dX3_word_1 : decode cX3_word 1 = .ok (.getfield 24, 3) := by decide +kernel
theorem dX3_word_4 : decode cX3_word 4 = .ok (.ireturn, 1) := by decide +kernel
theorem dX3_suffix_0 : decode cX3_suffix 0 = .ok (.aload_n 0, 1) := by decide +kernel
theorem dX3_suffix_1 : decode cX3_suffix 1 = .ok (.getfield 28, 3) := by decide +kernel
theorem dX3_suffix_4 : decode cX3_suffix 4 = .ok (.ireturn, 1) := by decide +kernel
set_option maxRecDepth 20000 in
theorem ggX3_solve_X0_size : GoodIn wsX3_solve wsX0_size := goodIn_r _ [9, 10, 111, 112, 113, 114, 115, 116] (by decide +kernel) (by decide +kernel)
set_option maxRecDepth 20000 in
theorem gX3_solve_X0_size : GoodIn wsX3_solve (wsV RX3 32 RX0 yX0_size wsX0_size) := goodIn_app (goodIn_of _ (by decide +kernel)) ggX3_solve_X0_size
set_option maxRecDepth 20000 in
theorem ggX3_solve_X3_mayBegin : GoodIn wsX3_solve wsX3_mayBegin := goodIn_r _ [15, 2, 16, 17, 18, 8, 19, 10, 20, 21, 22, 23, 24, 25, 26, 27, 28, 29, 30, 31, 107, 108, 109, 110, 111, 112, 113, 114, 115, 116] (by decide +kernel) (by decide +kernel)
set_option maxRecDepth 20000 in
theorem gX3_solve_X3_mayBegin : GoodIn wsX3_solve (wsV RX3 38 RX3 yX3_mayBegin wsX3_mayBegin) := goodIn_app (goodIn_of _ (by decide +kernel)) ggX3_solve_X3_mayBegin
set_option maxRecDepth 20000 in
theorem ggX3_solve_X0_strokesOf : GoodIn wsX3_solve wsX0_strokesOf := goodIn_r _ [35, 10, 36, 111, 112, 113, 114, 115, 116] (by decide +kernel) (by decide +kernel)
set_option maxRecDepth 20000 in
theorem gX3_solve_X0_strokesOf : GoodIn wsX3_solve (wsV RX3 42 RX0 yX0_strokesOf wsX0_strokesOf) := goodIn_app (goodIn_of _ (by decide +kernel)) ggX3_solve_X0_strokesOf
set_option maxRecDepth 20000 in
theorem ggX3_solve_X1_costOf : GoodIn wsX3_solve wsX1_costOf := goodIn_r _ [40] (by decide +kernel) (by decide +kernel)
set_option maxRecDepth 20000 in
theorem gX3_solve_X1_costOf : GoodIn wsX3_solve (va_wsS RX3 46 yX1_costOf wsX1_costOf) := goodIn_app (goodIn_of _ (by decide +kernel)) ggX3_solve_X1_costOf
set_option maxRecDepth 20000 in
theorem ggX3_solve_X0_kindOf : GoodIn wsX3_solve wsX0_kindOf := goodIn_r _ [24, 10, 25, 111, 112, 113, 114, 115, 116] (by decide +kernel) (by decide +kernel)
set_option maxRecDepth 20000 in
theorem gX3_solve_X0_kindOf : GoodIn wsX3_solve (wsV RX3 52 RX0 yX0_kindOf wsX0_kindOf) := goodIn_app (goodIn_of _ (by decide +kernel)) ggX3_solve_X0_kindOf
set_option maxRecDepth 20000 in
theorem ggX3_solve_X3_isJoined : GoodIn wsX3_solve wsX3_isJoined := goodIn_r _ [44, 2, 45, 16, 17, 18, 8, 19, 10, 20, 26, 27, 28, 29, 30, 31, 46, 47, 48, 49, 50, 51, 52, 53, 54, 55, 56, 57, 58, 59, 60, 61, 62, 63, 64, 65, 66, 67, 68, 69, 70, 71, 72, 73, 74, 75, 76, 77, 78, 79, 80, 81, 82, 83, 84, 85, 86, 87, 88, 89, 90, 91, 92, 93, 94, 95, 96, 97, 98, 99, 100, 101, 102, 103, 104, 105, 106, 107, 108, 109, 110, 111, 112, 113, 114, 115, 116, 117, 118, 119, 120, 121, 122, 123] (by decide +kernel) (by decide +kernel)
set_option maxRecDepth 20000 in
theorem gX3_solve_X3_isJoined : GoodIn wsX3_solve (wsV RX3 55 RX3 yX3_isJoined wsX3_isJoined) := goodIn_app (goodIn_of _ (by decide +kernel)) ggX3_solve_X3_isJoined
theorem dX3_solve_0 : decode cX3_solve 0 = .ok (.ldc 31, 2) := by decide +kernel
theorem dX3_solve_2 : decode cX3_solve 2 = .ok (.istore 4, 2) := by decide +kernel
theorem dX3_solve_4 : decode cX3_solve 4 = .ok (.iconst 0, 1) := by decide +kernel
theorem dX3_solve_5 : decode cX3_solve 5 = .ok (.istore 5, 2) := by decide +kernel
theorem dX3_solve_7 : decode cX3_solve 7 = .ok (.iload 5, 2) := by decide +kernel
theorem dX3_solve_9 : decode cX3_solve 9 = .ok (.aload_n 0, 1) := by decide +kernel
theorem dX3_solve_10 : decode cX3_solve 10 = .ok (.getfield 9, 3) := by decide +kernel
theorem dX3_solve_13 : decode cX3_solve 13 = .ok (.invokevirtual 32, 3) := by decide +kernel
theorem dX3_solve_16 : decode cX3_solve 16 = .ok (.if_icmp .ge 126, 3) := by decide +kernel
theorem dX3_solve_19 : decode cX3_solve 19 = .ok (.aload_n 0, 1) := by decide +kernel
theorem dX3_solve_20 : decode cX3_solve 20 = .ok (.iload 5, 2) := by decide +kernel
theorem dX3_solve_22 : decode cX3_solve 22 = .ok (.aload_n 1, 1) := by decide +kernel
theorem dX3_solve_23 : decode cX3_solve 23 = .ok (.iload_n 2, 1) := by decide +kernel
theorem dX3_solve_24 : decode cX3_solve 24 = .ok (.iload_n 3, 1) := by decide +kernel
theorem dX3_solve_25 : decode cX3_solve 25 = .ok (.invokevirtual 38, 3) := by decide +kernel
theorem dX3_solve_28 : decode cX3_solve 28 = .ok (.ifCond .ne 6, 3) := by decide +kernel
theorem dX3_solve_31 : decode cX3_solve 31 = .ok (.goto 105, 3) := by decide +kernel
theorem dX3_solve_34 : decode cX3_solve 34 = .ok (.iconst 0, 1) := by decide +kernel
theorem dX3_solve_35 : decode cX3_solve 35 = .ok (.istore 6, 2) := by decide +kernel
theorem dX3_solve_37 : decode cX3_solve 37 = .ok (.iload 6, 2) := by decide +kernel
theorem dX3_solve_39 : decode cX3_solve 39 = .ok (.aload_n 0, 1) := by decide +kernel
theorem dX3_solve_40 : decode cX3_solve 40 = .ok (.getfield 9, 3) := by decide +kernel
theorem dX3_solve_43 : decode cX3_solve 43 = .ok (.invokevirtual 32, 3) := by decide +kernel
theorem dX3_solve_46 : decode cX3_solve 46 = .ok (.if_icmp .ge 90, 3) := by decide +kernel
theorem dX3_solve_49 : decode cX3_solve 49 = .ok (.aload_n 0, 1) := by decide +kernel
theorem dX3_solve_50 : decode cX3_solve 50 = .ok (.getfield 9, 3) := by decide +kernel
theorem dX3_solve_53 : decode cX3_solve 53 = .ok (.iload 5, 2) := by decide +kernel
theorem dX3_solve_55 : decode cX3_solve 55 = .ok (.invokevirtual 42, 3) := by decide +kernel
theorem dX3_solve_58 : decode cX3_solve 58 = .ok (.aload_n 0, 1) := by decide +kernel
theorem dX3_solve_59 : decode cX3_solve 59 = .ok (.getfield 9, 3) := by decide +kernel
theorem dX3_solve_62 : decode cX3_solve 62 = .ok (.iload 6, 2) := by decide +kernel
theorem dX3_solve_64 : decode cX3_solve 64 = .ok (.invokevirtual 42, 3) := by decide +kernel
theorem dX3_solve_67 : decode cX3_solve 67 = .ok (.iadd, 1) := by decide +kernel
theorem dX3_solve_68 : decode cX3_solve 68 = .ok (.istore 7, 2) := by decide +kernel
theorem dX3_solve_70 : decode cX3_solve 70 = .ok (.iload 7, 2) := by decide +kernel
theorem dX3_solve_72 : decode cX3_solve 72 = .ok (.iconst 2, 1) := by decide +kernel
theorem dX3_solve_73 : decode cX3_solve 73 = .ok (.iload 5, 2) := by decide +kernel
theorem dX3_solve_75 : decode cX3_solve 75 = .ok (.invokestatic 46, 3) := by decide +kernel
theorem dX3_solve_78 : decode cX3_solve 78 = .ok (.istore 8, 2) := by decide +kernel
theorem dX3_solve_80 : decode cX3_solve 80 = .ok (.aload_n 0, 1) := by decide +kernel
theorem dX3_solve_81 : decode cX3_solve 81 = .ok (.getfield 9, 3) := by decide +kernel
theorem dX3_solve_84 : decode cX3_solve 84 = .ok (.iload 6, 2) := by decide +kernel
theorem dX3_solve_86 : decode cX3_solve 86 = .ok (.invokevirtual 52, 3) := by decide +kernel
theorem dX3_solve_89 : decode cX3_solve 89 = .ok (.iconst 2, 1) := by decide +kernel
theorem dX3_solve_90 : decode cX3_solve 90 = .ok (.if_icmp .ne 40, 3) := by decide +kernel
theorem dX3_solve_93 : decode cX3_solve 93 = .ok (.iload 8, 2) := by decide +kernel
theorem dX3_solve_95 : decode cX3_solve 95 = .ok (.iload 4, 2) := by decide +kernel
theorem dX3_solve_97 : decode cX3_solve 97 = .ok (.if_icmp .ge 33, 3) := by decide +kernel
theorem dX3_solve_100 : decode cX3_solve 100 = .ok (.aload_n 0, 1) := by decide +kernel
theorem dX3_solve_101 : decode cX3_solve 101 = .ok (.iload 5, 2) := by decide +kernel
theorem dX3_solve_103 : decode cX3_solve 103 = .ok (.iload 6, 2) := by decide +kernel
theorem dX3_solve_105 : decode cX3_solve 105 = .ok (.aload_n 1, 1) := by decide +kernel
theorem dX3_solve_106 : decode cX3_solve 106 = .ok (.iload_n 2, 1) := by decide +kernel
theorem dX3_solve_107 : decode cX3_solve 107 = .ok (.iload_n 3, 1) := by decide +kernel
theorem dX3_solve_108 : decode cX3_solve 108 = .ok (.invokevirtual 55, 3) := by decide +kernel
theorem dX3_solve_111 : decode cX3_solve 111 = .ok (.ifCond .eq 19, 3) := by decide +kernel
theorem dX3_solve_114 : decode cX3_solve 114 = .ok (.iload 8, 2) := by decide +kernel
theorem dX3_solve_116 : decode cX3_solve 116 = .ok (.istore 4, 2) := by decide +kernel
theorem dX3_solve_118 : decode cX3_solve 118 = .ok (.aload_n 0, 1) := by decide +kernel
theorem dX3_solve_119 : decode cX3_solve 119 = .ok (.iload 5, 2) := by decide +kernel
theorem dX3_solve_121 : decode cX3_solve 121 = .ok (.putfield 24, 3) := by decide +kernel
theorem dX3_solve_124 : decode cX3_solve 124 = .ok (.aload_n 0, 1) := by decide +kernel
theorem dX3_solve_125 : decode cX3_solve 125 = .ok (.iload 6, 2) := by decide +kernel
theorem dX3_solve_127 : decode cX3_solve 127 = .ok (.putfield 28, 3) := by decide +kernel
theorem dX3_solve_130 : decode cX3_solve 130 = .ok (.iinc 6 1, 3) := by decide +kernel
theorem dX3_solve_133 : decode cX3_solve 133 = .ok (.goto (-96), 3) := by decide +kernel
theorem dX3_solve_136 : decode cX3_solve 136 = .ok (.iinc 5 1, 3) := by decide +kernel
theorem dX3_solve_139 : decode cX3_solve 139 = .ok (.goto (-132), 3) := by decide +kernel
theorem dX3_solve_142 : decode cX3_solve 142 = .ok (.iload 4, 2) := by decide +kernel
theorem dX3_solve_144 : decode cX3_solve 144 = .ok (.ireturn, 1) := by decide +kernel
set_option maxRecDepth 20000 in
theorem ggX3_mayBegin_X0_lengthOf : GoodIn wsX3_mayBegin wsX0_lengthOf := goodIn_r _ [6, 7, 8, 24, 25, 26, 27, 28, 29] (by decide +kernel) (by decide +kernel)
set_option maxRecDepth 20000 in
theorem gX3_mayBegin_X0_lengthOf : GoodIn wsX3_mayBegin (wsV RX3 59 RX0 yX0_lengthOf wsX0_lengthOf) := goodIn_app (goodIn_of _ (by decide +kernel)) ggX3_mayBegin_X0_lengthOf
set_option maxRecDepth 20000 in
theorem ggX3_mayBegin_X0_kindOf : GoodIn wsX3_mayBegin wsX0_kindOf := goodIn_r _ [12, 7, 13, 24, 25, 26, 27, 28, 29] (by decide +kernel) (by decide +kernel)
set_option maxRecDepth 20000 in
theorem gX3_mayBegin_X0_kindOf : GoodIn wsX3_mayBegin (wsV RX3 52 RX0 yX0_kindOf wsX0_kindOf) := goodIn_app (goodIn_of _ (by decide +kernel)) ggX3_mayBegin_X0_kindOf
set_option maxRecDepth 20000 in
theorem ggX3_mayBegin_X0_areLettersAt : GoodIn wsX3_mayBegin wsX0_areLettersAt := goodIn_r _ [17, 18, 19, 3, 4, 5, 6, 7, 8, 24, 25, 26, 27, 28, 29] (by decide +kernel) (by decide +kernel)
set_option maxRecDepth 20000 in
theorem gX3_mayBegin_X0_areLettersAt : GoodIn wsX3_mayBegin (wsV RX3 62 RX0 yX0_areLettersAt wsX0_areLettersAt) := goodIn_app (goodIn_of _ (by decide +kernel)) ggX3_mayBegin_X0_areLettersAt
theorem dX3_mayBegin_0 : decode cX3_mayBegin 0 = .ok (.aload_n 0, 1) := by decide +kernel
theorem dX3_mayBegin_1 : decode cX3_mayBegin 1 = .ok (.getfield 9, 3) := by decide +kernel
theorem dX3_mayBegin_4 : decode cX3_mayBegin 4 = .ok (.iload_n 1, 1) := by decide +kernel
theorem dX3_mayBegin_5 : decode cX3_mayBegin 5 = .ok (.invokevirtual 59, 3) := by decide +kernel
theorem dX3_mayBegin_8 : decode cX3_mayBegin 8 = .ok (.iconst 1, 1) := by decide +kernel
theorem dX3_mayBegin_9 : decode cX3_mayBegin 9 = .ok (.isub, 1) := by decide +kernel
theorem dX3_mayBegin_10 : decode cX3_mayBegin 10 = .ok (.istore 5, 2) := by decide +kernel
theorem dX3_mayBegin_12 : decode cX3_mayBegin 12 = .ok (.aload_n 0, 1) := by decide +kernel
theorem dX3_mayBegin_13 : decode cX3_mayBegin 13 = .ok (.getfield 9, 3) := by decide +kernel
theorem dX3_mayBegin_16 : decode cX3_mayBegin 16 = .ok (.iload_n 1, 1) := by decide +kernel
theorem dX3_mayBegin_17 : decode cX3_mayBegin 17 = .ok (.invokevirtual 52, 3) := by decide +kernel
theorem dX3_mayBegin_20 : decode cX3_mayBegin 20 = .ok (.ifCond .ne 31, 3) := by decide +kernel
theorem dX3_mayBegin_23 : decode cX3_mayBegin 23 = .ok (.iload 5, 2) := by decide +kernel
theorem dX3_mayBegin_25 : decode cX3_mayBegin 25 = .ok (.iload 4, 2) := by decide +kernel
theorem dX3_mayBegin_27 : decode cX3_mayBegin 27 = .ok (.iload_n 3, 1) := by decide +kernel
theorem dX3_mayBegin_28 : decode cX3_mayBegin 28 = .ok (.isub, 1) := by decide +kernel
theorem dX3_mayBegin_29 : decode cX3_mayBegin 29 = .ok (.if_icmp .ge 22, 3) := by decide +kernel
theorem dX3_mayBegin_32 : decode cX3_mayBegin 32 = .ok (.aload_n 0, 1) := by decide +kernel
theorem dX3_mayBegin_33 : decode cX3_mayBegin 33 = .ok (.getfield 9, 3) := by decide +kernel
theorem dX3_mayBegin_36 : decode cX3_mayBegin 36 = .ok (.iload_n 1, 1) := by decide +kernel
theorem dX3_mayBegin_37 : decode cX3_mayBegin 37 = .ok (.iload 5, 2) := by decide +kernel
theorem dX3_mayBegin_39 : decode cX3_mayBegin 39 = .ok (.aload_n 2, 1) := by decide +kernel
theorem dX3_mayBegin_40 : decode cX3_mayBegin 40 = .ok (.iload_n 3, 1) := by decide +kernel
theorem dX3_mayBegin_41 : decode cX3_mayBegin 41 = .ok (.invokevirtual 62, 3) := by decide +kernel
theorem dX3_mayBegin_44 : decode cX3_mayBegin 44 = .ok (.ifCond .eq 7, 3) := by decide +kernel
theorem dX3_mayBegin_47 : decode cX3_mayBegin 47 = .ok (.iconst 1, 1) := by decide +kernel
theorem dX3_mayBegin_48 : decode cX3_mayBegin 48 = .ok (.goto 4, 3) := by decide +kernel
theorem dX3_mayBegin_51 : decode cX3_mayBegin 51 = .ok (.iconst 0, 1) := by decide +kernel
theorem dX3_mayBegin_52 : decode cX3_mayBegin 52 = .ok (.ireturn, 1) := by decide +kernel
set_option maxRecDepth 20000 in
theorem ggX3_isJoined_X0_lengthOf : GoodIn wsX3_isJoined wsX0_lengthOf := goodIn_r _ [7, 8, 9, 81, 82, 83, 84, 85, 86] (by decide +kernel) (by decide +kernel)
set_option maxRecDepth 20000 in
theorem gX3_isJoined_X0_lengthOf : GoodIn wsX3_isJoined (wsV RX3 59 RX0 yX0_lengthOf wsX0_lengthOf) := goodIn_app (goodIn_of _ (by decide +kernel)) ggX3_isJoined_X0_lengthOf
set_option maxRecDepth 20000 in
theorem ggX3_isJoined_X0_areLettersAt : GoodIn wsX3_isJoined wsX0_areLettersAt := goodIn_r _ [13, 14, 15, 4, 5, 6, 7, 8, 9, 81, 82, 83, 84, 85, 86] (by decide +kernel) (by decide +kernel)
set_option maxRecDepth 20000 in
theorem gX3_isJoined_X0_areLettersAt : GoodIn wsX3_isJoined (wsV RX3 62 RX0 yX0_areLettersAt wsX0_areLettersAt) := goodIn_app (goodIn_of _ (by decide +kernel)) ggX3_isJoined_X0_areLettersAt
set_option maxRecDepth 20000 in
theorem ggX3_isJoined_X4_empty : GoodIn wsX3_isJoined wsX4_empty := goodIn_r _ [20, 21, 22, 23, 87, 88, 89, 90, 91, 92, 93] (by decide +kernel) (by decide +kernel)
set_option maxRecDepth 20000 in
theorem gX3_isJoined_X4_empty : GoodIn wsX3_isJoined (wsV RX3 66 RX4 yX4_empty wsX4_empty) := goodIn_app (goodIn_of _ (by decide +kernel)) ggX3_isJoined_X4_empty
set_option maxRecDepth 20000 in
theorem ggX3_isJoined_X4_writeText : GoodIn wsX3_isJoined wsX4_writeText := goodIn_r _ [27, 28, 22, 29, 30, 31, 19, 32, 21, 23, 33, 34, 35, 36, 37, 38, 4, 5, 6, 7, 8, 9, 39, 40, 41, 42, 14, 43, 44, 45, 87, 88, 89, 90, 91, 92, 93, 81, 82, 83, 84, 85, 86] (by decide +kernel) (by decide +kernel)
set_option maxRecDepth 20000 in
theorem gX3_isJoined_X4_writeText : GoodIn wsX3_isJoined (wsV RX3 69 RX4 yX4_writeText wsX4_writeText) := goodIn_app (goodIn_of _ (by decide +kernel)) ggX3_isJoined_X4_writeText
set_option maxRecDepth 20000 in
theorem ggX3_isJoined_X4_joinSuffix : GoodIn wsX3_isJoined wsX4_joinSuffix := goodIn_r _ [49, 28, 21, 23, 39, 40, 41, 6, 42, 8, 9, 14, 38, 4, 5, 7, 50, 44, 51, 52, 53, 54, 19, 55, 56, 57, 37, 58, 59, 60, 61, 62, 63, 64, 65, 66, 67, 68, 69, 70, 71, 72, 33, 34, 35, 36, 87, 88, 89, 90, 91, 92, 93, 81, 82, 83, 84, 85, 86] (by decide +kernel) (by decide +kernel)
set_option maxRecDepth 20000 in
theorem gX3_isJoined_X4_joinSuffix : GoodIn wsX3_isJoined (wsV RX3 73 RX4 yX4_joinSuffix wsX4_joinSuffix) := goodIn_app (goodIn_of _ (by decide +kernel)) ggX3_isJoined_X4_joinSuffix
set_option maxRecDepth 20000 in
theorem ggX3_isJoined_X4_isAt : GoodIn wsX3_isJoined wsX4_isAt := goodIn_r _ [76, 21, 37, 87, 88, 89, 90, 91, 92, 93] (by decide +kernel) (by decide +kernel)
set_option maxRecDepth 20000 in
theorem gX3_isJoined_X4_isAt : GoodIn wsX3_isJoined (wsV RX3 76 RX4 yX4_isAt wsX4_isAt) := goodIn_app (goodIn_of _ (by decide +kernel)) ggX3_isJoined_X4_isAt
theorem dX3_isJoined_0 : decode cX3_isJoined 0 = .ok (.aload_n 0, 1) := by decide +kernel
theorem dX3_isJoined_1 : decode cX3_isJoined 1 = .ok (.getfield 9, 3) := by decide +kernel
theorem dX3_isJoined_4 : decode cX3_isJoined 4 = .ok (.iload_n 2, 1) := by decide +kernel
theorem dX3_isJoined_5 : decode cX3_isJoined 5 = .ok (.invokevirtual 59, 3) := by decide +kernel
theorem dX3_isJoined_8 : decode cX3_isJoined 8 = .ok (.istore 6, 2) := by decide +kernel
theorem dX3_isJoined_10 : decode cX3_isJoined 10 = .ok (.iload 6, 2) := by decide +kernel
theorem dX3_isJoined_12 : decode cX3_isJoined 12 = .ok (.iload 5, 2) := by decide +kernel
theorem dX3_isJoined_14 : decode cX3_isJoined 14 = .ok (.iload 4, 2) := by decide +kernel
theorem dX3_isJoined_16 : decode cX3_isJoined 16 = .ok (.isub, 1) := by decide +kernel
theorem dX3_isJoined_17 : decode cX3_isJoined 17 = .ok (.if_icmp .gt 22, 3) := by decide +kernel
theorem dX3_isJoined_20 : decode cX3_isJoined 20 = .ok (.aload_n 0, 1) := by decide +kernel
theorem dX3_isJoined_21 : decode cX3_isJoined 21 = .ok (.getfield 9, 3) := by decide +kernel
theorem dX3_isJoined_24 : decode cX3_isJoined 24 = .ok (.iload_n 2, 1) := by decide +kernel
theorem dX3_isJoined_25 : decode cX3_isJoined 25 = .ok (.iload 6, 2) := by decide +kernel
theorem dX3_isJoined_27 : decode cX3_isJoined 27 = .ok (.aload_n 3, 1) := by decide +kernel
theorem dX3_isJoined_28 : decode cX3_isJoined 28 = .ok (.iload 5, 2) := by decide +kernel
theorem dX3_isJoined_30 : decode cX3_isJoined 30 = .ok (.iload 6, 2) := by decide +kernel
theorem dX3_isJoined_32 : decode cX3_isJoined 32 = .ok (.isub, 1) := by decide +kernel
theorem dX3_isJoined_33 : decode cX3_isJoined 33 = .ok (.invokevirtual 62, 3) := by decide +kernel
theorem dX3_isJoined_36 : decode cX3_isJoined 36 = .ok (.ifCond .ne 5, 3) := by decide +kernel
theorem dX3_isJoined_39 : decode cX3_isJoined 39 = .ok (.iconst 0, 1) := by decide +kernel
theorem dX3_isJoined_40 : decode cX3_isJoined 40 = .ok (.ireturn, 1) := by decide +kernel
theorem dX3_isJoined_41 : decode cX3_isJoined 41 = .ok (.aload_n 0, 1) := by decide +kernel
theorem dX3_isJoined_42 : decode cX3_isJoined 42 = .ok (.getfield 20, 3) := by decide +kernel
theorem dX3_isJoined_45 : decode cX3_isJoined 45 = .ok (.invokevirtual 66, 3) := by decide +kernel
theorem dX3_isJoined_48 : decode cX3_isJoined 48 = .ok (.aload_n 0, 1) := by decide +kernel
theorem dX3_isJoined_49 : decode cX3_isJoined 49 = .ok (.getfield 20, 3) := by decide +kernel
theorem dX3_isJoined_52 : decode cX3_isJoined 52 = .ok (.iload_n 1, 1) := by decide +kernel
theorem dX3_isJoined_53 : decode cX3_isJoined 53 = .ok (.invokevirtual 69, 3) := by decide +kernel
theorem dX3_isJoined_56 : decode cX3_isJoined 56 = .ok (.aload_n 0, 1) := by decide +kernel
theorem dX3_isJoined_57 : decode cX3_isJoined 57 = .ok (.getfield 20, 3) := by decide +kernel
theorem dX3_isJoined_60 : decode cX3_isJoined 60 = .ok (.iload_n 2, 1) := by decide +kernel
theorem dX3_isJoined_61 : decode cX3_isJoined 61 = .ok (.invokevirtual 73, 3) := by decide +kernel
theorem dX3_isJoined_64 : decode cX3_isJoined 64 = .ok (.aload_n 0, 1) := by decide +kernel
theorem dX3_isJoined_65 : decode cX3_isJoined 65 = .ok (.getfield 20, 3) := by decide +kernel
theorem dX3_isJoined_68 : decode cX3_isJoined 68 = .ok (.aload_n 3, 1) := by decide +kernel
theorem dX3_isJoined_69 : decode cX3_isJoined 69 = .ok (.iload 4, 2) := by decide +kernel
theorem dX3_isJoined_71 : decode cX3_isJoined 71 = .ok (.iload 5, 2) := by decide +kernel
theorem dX3_isJoined_73 : decode cX3_isJoined 73 = .ok (.invokevirtual 76, 3) := by decide +kernel
theorem dX3_isJoined_76 : decode cX3_isJoined 76 = .ok (.ireturn, 1) := by decide +kernel
theorem dX4_init_0 : decode cX4_init 0 = .ok (.aload_n 0, 1) := by decide +kernel
theorem dX4_init_1 : decode cX4_init 1 = .ok (.invokespecial 3, 3) := by decide +kernel
theorem dX4_init_4 : decode cX4_init 4 = .ok (.aload_n 0, 1) := by decide +kernel
theorem dX4_init_5 : decode cX4_init 5 = .ok (.aload_n 1, 1) := by decide +kernel
theorem dX4_init_6 : decode cX4_init 6 = .ok (.putfield 9, 3) := by decide +kernel
theorem dX4_init_9 : decode cX4_init 9 = .ok (.aload_n 0, 1) := by decide +kernel
theorem dX4_init_10 : decode cX4_init 10 = .ok (.iload_n 2, 1) := by decide +kernel
theorem dX4_init_11 : decode cX4_init 11 = .ok (.iconst 0, 1) := by decide +kernel
theorem dX4_init_12 : decode cX4_init 12 = .ok (.invokestatic 15, 3) := by decide +kernel
theorem dX4_init_15 : decode cX4_init 15 = .ok (.newarray .byte, 2) := by decide +kernel
theorem dX4_init_17 : decode cX4_init 17 = .ok (.putfield 21, 3) := by decide +kernel
theorem dX4_init_20 : decode cX4_init 20 = .ok (.return_, 1) := by decide +kernel
theorem dX4_size_0 : decode cX4_size 0 = .ok (.aload_n 0, 1) := by decide +kernel
theorem dX4_size_1 : decode cX4_size 1 = .ok (.getfield 25, 3) := by decide +kernel
theorem dX4_size_4 : decode cX4_size 4 = .ok (.ireturn, 1) := by decide +kernel
theorem dX4_shift_0 : decode cX4_shift 0 = .ok (.aload_n 0, 1) := by decide +kernel
theorem dX4_shift_1 : decode cX4_shift 1 = .ok (.getfield 29, 3) := by decide +kernel
theorem dX4_shift_4 : decode cX4_shift 4 = .ok (.ireturn, 1) := by decide +kernel
theorem dX4_link_0 : decode cX4_link 0 = .ok (.aload_n 0, 1) := by decide +kernel
theorem dX4_link_1 : decode cX4_link 1 = .ok (.getfield 32, 3) := by decide +kernel
theorem dX4_link_4 : decode cX4_link 4 = .ok (.ireturn, 1) := by decide +kernel
theorem dX4_byteAt_0 : decode cX4_byteAt 0 = .ok (.iload_n 1, 1) := by decide +kernel
theorem dX4_byteAt_1 : decode cX4_byteAt 1 = .ok (.ifCond .lt 20, 3) := by decide +kernel
theorem dX4_byteAt_4 : decode cX4_byteAt 4 = .ok (.iload_n 1, 1) := by decide +kernel
theorem dX4_byteAt_5 : decode cX4_byteAt 5 = .ok (.aload_n 0, 1) := by decide +kernel
theorem dX4_byteAt_6 : decode cX4_byteAt 6 = .ok (.getfield 25, 3) := by decide +kernel
theorem dX4_byteAt_9 : decode cX4_byteAt 9 = .ok (.if_icmp .ge 12, 3) := by decide +kernel
theorem dX4_byteAt_12 : decode cX4_byteAt 12 = .ok (.aload_n 0, 1) := by decide +kernel
