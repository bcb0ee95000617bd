theorem dX8_rankNow_0 : decode cX8_rankNow 0 = .ok (.iconst 0, 1) := by decide +kernel
theorem dX8_rankNow_1 : decode cX8_rankNow 1 = .ok (.istore_n 1, 1) := by decide +kernel
theorem dX8_rankNow_2 : decode cX8_rankNow 2 = .ok (.iconst 0, 1) := by decide +kernel
theorem dX8_rankNow_3 : decode cX8_rankNow 3 = .ok (.istore_n 2, 1) := by decide +kernel
theorem dX8_rankNow_4 : decode cX8_rankNow 4 = .ok (.iload_n 2, 1) := by decide +kernel
theorem dX8_rankNow_5 : decode cX8_rankNow 5 = .ok (.bipush 16, 2) := by decide +kernel
theorem dX8_rankNow_7 : decode cX8_rankNow 7 = .ok (.if_icmp .ge 56, 3) := by decide +kernel
theorem dX8_rankNow_10 : decode cX8_rankNow 10 = .ok (.iconst 0, 1) := by decide +kernel
theorem dX8_rankNow_11 : decode cX8_rankNow 11 = .ok (.istore_n 3, 1) := by decide +kernel
theorem dX8_rankNow_12 : decode cX8_rankNow 12 = .ok (.iload_n 3, 1) := by decide +kernel
theorem dX8_rankNow_13 : decode cX8_rankNow 13 = .ok (.bipush 16, 2) := by decide +kernel
theorem dX8_rankNow_15 : decode cX8_rankNow 15 = .ok (.if_icmp .ge 42, 3) := by decide +kernel
theorem dX8_rankNow_18 : decode cX8_rankNow 18 = .ok (.iload_n 2, 1) := by decide +kernel
theorem dX8_rankNow_19 : decode cX8_rankNow 19 = .ok (.invokestatic 91, 3) := by decide +kernel
theorem dX8_rankNow_22 : decode cX8_rankNow 22 = .ok (.iload_n 3, 1) := by decide +kernel
theorem dX8_rankNow_23 : decode cX8_rankNow 23 = .ok (.invokestatic 91, 3) := by decide +kernel
theorem dX8_rankNow_26 : decode cX8_rankNow 26 = .ok (.if_icmp .ne 25, 3) := by decide +kernel
theorem dX8_rankNow_29 : decode cX8_rankNow 29 = .ok (.iload_n 2, 1) := by decide +kernel
theorem dX8_rankNow_30 : decode cX8_rankNow 30 = .ok (.invokestatic 91, 3) := by decide +kernel
theorem dX8_rankNow_33 : decode cX8_rankNow 33 = .ok (.iload_n 1, 1) := by decide +kernel
theorem dX8_rankNow_34 : decode cX8_rankNow 34 = .ok (.if_icmp .le 17, 3) := by decide +kernel
theorem dX8_rankNow_37 : decode cX8_rankNow 37 = .ok (.aload_n 0, 1) := by decide +kernel
theorem dX8_rankNow_38 : decode cX8_rankNow 38 = .ok (.iload_n 2, 1) := by decide +kernel
theorem dX8_rankNow_39 : decode cX8_rankNow 39 = .ok (.iload_n 3, 1) := by decide +kernel
theorem dX8_rankNow_40 : decode cX8_rankNow 40 = .ok (.invokevirtual 102, 3) := by decide +kernel
theorem dX8_rankNow_43 : decode cX8_rankNow 43 = .ok (.ifCond .eq 8, 3) := by decide +kernel
theorem dX8_rankNow_46 : decode cX8_rankNow 46 = .ok (.iload_n 2, 1) := by decide +kernel
theorem dX8_rankNow_47 : decode cX8_rankNow 47 = .ok (.invokestatic 91, 3) := by decide +kernel
theorem dX8_rankNow_50 : decode cX8_rankNow 50 = .ok (.istore_n 1, 1) := by decide +kernel
theorem dX8_rankNow_51 : decode cX8_rankNow 51 = .ok (.iinc 3 1, 3) := by decide +kernel
theorem dX8_rankNow_54 : decode cX8_rankNow 54 = .ok (.goto (-42), 3) := by decide +kernel
theorem dX8_rankNow_57 : decode cX8_rankNow 57 = .ok (.iinc 2 1, 3) := by decide +kernel
theorem dX8_rankNow_60 : decode cX8_rankNow 60 = .ok (.goto (-56), 3) := by decide +kernel
theorem dX8_rankNow_63 : decode cX8_rankNow 63 = .ok (.iload_n 1, 1) := by decide +kernel
theorem dX8_rankNow_64 : decode cX8_rankNow 64 = .ok (.ireturn, 1) := by decide +kernel
set_option maxRecDepth 20000 in
theorem ggX8_rank_X8_loadEntries : GoodIn wsX8_rank wsX8_loadEntries := goodIn_r _ [6, 7, 8, 9, 10, 11, 5, 12, 13, 14, 15, 16, 17, 18, 19, 20, 21, 22, 23, 24, 33, 34, 35, 36, 37, 38, 39, 40, 41, 42, 43, 44, 45, 46, 47, 48, 49, 50, 51, 52, 53] (by decide +kernel) (by decide +kernel)
set_option maxRecDepth 20000 in
theorem gX8_rank_X8_loadEntries : GoodIn wsX8_rank (wsV RX8 106 RX8 yX8_loadEntries wsX8_loadEntries) := goodIn_app (goodIn_of _ (by decide +kernel)) ggX8_rank_X8_loadEntries
set_option maxRecDepth 20000 in
theorem ggX8_rank_X8_rankNow : GoodIn wsX8_rank wsX8_rankNow := goodIn_r _ [28, 14, 15, 5, 16, 29, 30, 31, 32, 13, 33, 34, 35, 36, 37, 38, 39, 40, 41, 42, 43, 44, 45, 46, 47, 48, 49, 50, 51, 52, 53] (by decide +kernel) (by decide +kernel)
set_option maxRecDepth 20000 in
theorem gX8_rank_X8_rankNow : GoodIn wsX8_rank (wsV RX8 109 RX8 yX8_rankNow wsX8_rankNow) := goodIn_app (goodIn_of _ (by decide +kernel)) ggX8_rank_X8_rankNow
theorem dX8_rank_0 : decode cX8_rank 0 = .ok (.aload_n 0, 1) := by decide +kernel
theorem dX8_rank_1 : decode cX8_rank 1 = .ok (.iconst 0, 1) := by decide +kernel
theorem dX8_rank_2 : decode cX8_rank 2 = .ok (.putfield 65, 3) := by decide +kernel
theorem dX8_rank_5 : decode cX8_rank 5 = .ok (.aload_n 0, 1) := by decide +kernel
theorem dX8_rank_6 : decode cX8_rank 6 = .ok (.invokevirtual 106, 3) := by decide +kernel
theorem dX8_rank_9 : decode cX8_rank 9 = .ok (.aload_n 0, 1) := by decide +kernel
theorem dX8_rank_10 : decode cX8_rank 10 = .ok (.invokevirtual 109, 3) := by decide +kernel
theorem dX8_rank_13 : decode cX8_rank 13 = .ok (.ireturn, 1) := by decide +kernel
theorem dX8_isSquare_0 : decode cX8_isSquare 0 = .ok (.aload_n 0, 1) := by decide +kernel
theorem dX8_isSquare_1 : decode cX8_isSquare 1 = .ok (.aload_n 0, 1) := by decide +kernel
theorem dX8_isSquare_2 : decode cX8_isSquare 2 = .ok (.getfield 71, 3) := by decide +kernel
theorem dX8_isSquare_5 : decode cX8_isSquare 5 = .ok (.aload_n 0, 1) := by decide +kernel
theorem dX8_isSquare_6 : decode cX8_isSquare 6 = .ok (.getfield 74, 3) := by decide +kernel
theorem dX8_isSquare_9 : decode cX8_isSquare 9 = .ok (.if_icmp .ne 7, 3) := by decide +kernel
theorem dX8_isSquare_12 : decode cX8_isSquare 12 = .ok (.iconst 0, 1) := by decide +kernel
theorem dX8_isSquare_13 : decode cX8_isSquare 13 = .ok (.goto 4, 3) := by decide +kernel
theorem dX8_isSquare_16 : decode cX8_isSquare 16 = .ok (.iconst 1, 1) := by decide +kernel
theorem dX8_isSquare_17 : decode cX8_isSquare 17 = .ok (.putfield 65, 3) := by decide +kernel
theorem dX8_isSquare_20 : decode cX8_isSquare 20 = .ok (.aload_n 0, 1) := by decide +kernel
theorem dX8_isSquare_21 : decode cX8_isSquare 21 = .ok (.getfield 65, 3) := by decide +kernel
theorem dX8_isSquare_24 : decode cX8_isSquare 24 = .ok (.ifCond .ne 7, 3) := by decide +kernel
theorem dX8_isSquare_27 : decode cX8_isSquare 27 = .ok (.iconst 1, 1) := by decide +kernel
theorem dX8_isSquare_28 : decode cX8_isSquare 28 = .ok (.goto 4, 3) := by decide +kernel
theorem dX8_isSquare_31 : decode cX8_isSquare 31 = .ok (.iconst 0, 1) := by decide +kernel
theorem dX8_isSquare_32 : decode cX8_isSquare 32 = .ok (.ireturn, 1) := by decide +kernel
theorem dX8_whole_0 : decode cX8_whole 0 = .ok (.iconst 1, 1) := by decide +kernel
theorem dX8_whole_1 : decode cX8_whole 1 = .ok (.aload_n 0, 1) := by decide +kernel
theorem dX8_whole_2 : decode cX8_whole 2 = .ok (.getfield 71, 3) := by decide +kernel
theorem dX8_whole_5 : decode cX8_whole 5 = .ok (.ishl, 1) := by decide +kernel
theorem dX8_whole_6 : decode cX8_whole 6 = .ok (.iconst 1, 1) := by decide +kernel
theorem dX8_whole_7 : decode cX8_whole 7 = .ok (.isub, 1) := by decide +kernel
theorem dX8_whole_8 : decode cX8_whole 8 = .ok (.istore_n 1, 1) := by decide +kernel
theorem dX8_whole_9 : decode cX8_whole 9 = .ok (.bipush 13, 2) := by decide +kernel
theorem dX8_whole_11 : decode cX8_whole 11 = .ok (.bipush 16, 2) := by decide +kernel
theorem dX8_whole_13 : decode cX8_whole 13 = .ok (.iload_n 1, 1) := by decide +kernel
theorem dX8_whole_14 : decode cX8_whole 14 = .ok (.imul, 1) := by decide +kernel
theorem dX8_whole_15 : decode cX8_whole 15 = .ok (.iload_n 1, 1) := by decide +kernel
theorem dX8_whole_16 : decode cX8_whole 16 = .ok (.iadd, 1) := by decide +kernel
theorem dX8_whole_17 : decode cX8_whole 17 = .ok (.imul, 1) := by decide +kernel
theorem dX8_whole_18 : decode cX8_whole 18 = .ok (.ireturn, 1) := by decide +kernel
set_option maxRecDepth 20000 in
theorem ggX8_determinant_X8_isSquare : GoodIn wsX8_determinant wsX8_isSquare := goodIn_r _ [7, 8, 9, 10, 39, 40, 41, 42, 43, 44, 45, 46, 47, 48, 49, 50, 51, 52, 53, 54, 55, 56, 57, 58, 59] (by decide +kernel) (by decide +kernel)
set_option maxRecDepth 20000 in
theorem gX8_determinant_X8_isSquare : GoodIn wsX8_determinant (wsV RX8 113 RX8 yX8_isSquare wsX8_isSquare) := goodIn_app (goodIn_of _ (by decide +kernel)) ggX8_determinant_X8_isSquare
set_option maxRecDepth 20000 in
theorem ggX8_determinant_X8_loadEntries : GoodIn wsX8_determinant wsX8_loadEntries := goodIn_r _ [14, 15, 16, 17, 18, 19, 6, 20, 2, 21, 22, 23, 24, 25, 26, 27, 28, 29, 30, 31, 39, 40, 41, 42, 43, 44, 45, 46, 47, 48, 49, 50, 51, 52, 53, 54, 55, 56, 57, 58, 59] (by decide +kernel) (by decide +kernel)
set_option maxRecDepth 20000 in
theorem gX8_determinant_X8_loadEntries : GoodIn wsX8_determinant (wsV RX8 106 RX8 yX8_loadEntries wsX8_loadEntries) := goodIn_app (goodIn_of _ (by decide +kernel)) ggX8_determinant_X8_loadEntries
set_option maxRecDepth 20000 in
theorem ggX8_determinant_X8_in : GoodIn wsX8_determinant wsX8_in := goodIn_r _ [34] (by decide +kernel) (by decide +kernel)
set_option maxRecDepth 20000 in
theorem gX8_determinant_X8_in : GoodIn wsX8_determinant (va_wsS RX8 77 yX8_in wsX8_in) := goodIn_app (goodIn_of _ (by decide +kernel)) ggX8_determinant_X8_in
set_option maxRecDepth 20000 in
theorem ggX8_determinant_X8_whole : GoodIn wsX8_determinant wsX8_whole := goodIn_r _ [38, 8, 39, 40, 41, 42, 43, 44, 45, 46, 47, 48, 49, 50, 51, 52, 53, 54, 55, 56, 57, 58, 59] (by decide +kernel) (by decide +kernel)
set_option maxRecDepth 20000 in
theorem gX8_determinant_X8_whole : GoodIn wsX8_determinant (wsV RX8 119 RX8 yX8_whole wsX8_whole) := goodIn_app (goodIn_of _ (by decide +kernel)) ggX8_determinant_X8_whole
theorem dX8_determinant_0 : decode cX8_determinant 0 = .ok (.aload_n 0, 1) := by decide +kernel
theorem dX8_determinant_1 : decode cX8_determinant 1 = .ok (.invokevirtual 113, 3) := by decide +kernel
theorem dX8_determinant_4 : decode cX8_determinant 4 = .ok (.ifCond .ne 5, 3) := by decide +kernel
theorem dX8_determinant_7 : decode cX8_determinant 7 = .ok (.iconst 0, 1) := by decide +kernel
theorem dX8_determinant_8 : decode cX8_determinant 8 = .ok (.ireturn, 1) := by decide +kernel
theorem dX8_determinant_9 : decode cX8_determinant 9 = .ok (.aload_n 0, 1) := by decide +kernel
theorem dX8_determinant_10 : decode cX8_determinant 10 = .ok (.invokevirtual 106, 3) := by decide +kernel
theorem dX8_determinant_13 : decode cX8_determinant 13 = .ok (.iload_n 1, 1) := by decide +kernel
theorem dX8_determinant_14 : decode cX8_determinant 14 = .ok (.i2l, 1) := by decide +kernel
theorem dX8_determinant_15 : decode cX8_determinant 15 = .ok (.lconst 0, 1) := by decide +kernel
theorem dX8_determinant_16 : decode cX8_determinant 16 = .ok (.ldc2_w 117, 3) := by decide +kernel
theorem dX8_determinant_19 : decode cX8_determinant 19 = .ok (.invokestatic 77, 3) := by decide +kernel
theorem dX8_determinant_22 : decode cX8_determinant 22 = .ok (.ifCond .eq 17, 3) := by decide +kernel
theorem dX8_determinant_25 : decode cX8_determinant 25 = .ok (.aload_n 0, 1) := by decide +kernel
theorem dX8_determinant_26 : decode cX8_determinant 26 = .ok (.getfield 20, 3) := by decide +kernel
theorem dX8_determinant_29 : decode cX8_determinant 29 = .ok (.aload_n 0, 1) := by decide +kernel
theorem dX8_determinant_30 : decode cX8_determinant 30 = .ok (.invokevirtual 119, 3) := by decide +kernel
theorem dX8_determinant_33 : decode cX8_determinant 33 = .ok (.iload_n 1, 1) := by decide +kernel
theorem dX8_determinant_34 : decode cX8_determinant 34 = .ok (.iadd, 1) := by decide +kernel
theorem dX8_determinant_35 : decode cX8_determinant 35 = .ok (.iaload, 1) := by decide +kernel
theorem dX8_determinant_36 : decode cX8_determinant 36 = .ok (.goto 4, 3) := by decide +kernel
theorem dX8_determinant_39 : decode cX8_determinant 39 = .ok (.iconst 0, 1) := by decide +kernel
theorem dX8_determinant_40 : decode cX8_determinant 40 = .ok (.ireturn, 1) := by decide +kernel
theorem dX8_high_0 : decode cX8_high 0 = .ok (.sipush 255, 3) := by decide +kernel
theorem dX8_high_3 : decode cX8_high 3 = .ok (.istore_n 1, 1) := by decide +kernel
theorem dX8_high_4 : decode cX8_high 4 = .ok (.iload_n 1, 1) := by decide +kernel
theorem dX8_high_5 : decode cX8_high 5 = .ok (.ifCond .lt 15, 3) := by decide +kernel
theorem dX8_high_8 : decode cX8_high 8 = .ok (.aload_n 0, 1) := by decide +kernel
theorem dX8_high_9 : decode cX8_high 9 = .ok (.iload_n 1, 1) := by decide +kernel
theorem dX8_high_10 : decode cX8_high 10 = .ok (.iaload, 1) := by decide +kernel
theorem dX8_high_11 : decode cX8_high 11 = .ok (.ifCond .ne 9, 3) := by decide +kernel
theorem dX8_high_14 : decode cX8_high 14 = .ok (.iinc 1 (-1), 3) := by decide +kernel
theorem dX8_high_17 : decode cX8_high 17 = .ok (.goto (-13), 3) := by decide +kernel
theorem dX8_high_20 : decode cX8_high 20 = .ok (.iload_n 1, 1) := by decide +kernel
theorem dX8_high_21 : decode cX8_high 21 = .ok (.ireturn, 1) := by decide +kernel
theorem dX8_empty_0 : decode cX8_empty 0 = .ok (.iconst 0, 1) := by decide +kernel
theorem dX8_empty_1 : decode cX8_empty 1 = .ok (.istore_n 1, 1) := by decide +kernel
theorem dX8_empty_2 : decode cX8_empty 2 = .ok (.iload_n 1, 1) := by decide +kernel
theorem dX8_empty_3 : decode cX8_empty 3 = .ok (.sipush 256, 3) := by decide +kernel
theorem dX8_empty_6 : decode cX8_empty 6 = .ok (.if_icmp .ge 13, 3) := by decide +kernel
theorem dX8_empty_9 : decode cX8_empty 9 = .ok (.aload_n 0, 1) := by decide +kernel
theorem dX8_empty_10 : decode cX8_empty 10 = .ok (.iload_n 1, 1) := by decide +kernel
theorem dX8_empty_11 : decode cX8_empty 11 = .ok (.iconst 0, 1) := by decide +kernel
theorem dX8_empty_12 : decode cX8_empty 12 = .ok (.iastore, 1) := by decide +kernel
theorem dX8_empty_13 : decode cX8_empty 13 = .ok (.iinc 1 1, 3) := by decide +kernel
theorem dX8_empty_16 : decode cX8_empty 16 = .ok (.goto (-14), 3) := by decide +kernel
theorem dX8_empty_19 : decode cX8_empty 19 = .ok (.return_, 1) := by decide +kernel
set_option maxRecDepth 20000 in
theorem ggX8_makeMonic_X8_high : GoodIn wsX8_makeMonic wsX8_high := goodIn_r _ [5] (by decide +kernel) (by decide +kernel)
set_option maxRecDepth 20000 in
theorem gX8_makeMonic_X8_high : GoodIn wsX8_makeMonic (va_wsS RX8 122 yX8_high wsX8_high) := goodIn_app (goodIn_of _ (by decide +kernel)) ggX8_makeMonic_X8_high
set_option maxRecDepth 20000 in
theorem ggX8_makeMonic_X8_inverse : GoodIn wsX8_makeMonic wsX8_inverse := goodIn_r _ [8, 1] (by decide +kernel) (by decide +kernel)
set_option maxRecDepth 20000 in
theorem gX8_makeMonic_X8_inverse : GoodIn wsX8_makeMonic (va_wsS RX8 126 yX8_inverse wsX8_inverse) := goodIn_app (goodIn_of _ (by decide +kernel)) ggX8_makeMonic_X8_inverse
theorem dX8_makeMonic_0 : decode cX8_makeMonic 0 = .ok (.aload_n 0, 1) := by decide +kernel
theorem dX8_makeMonic_1 : decode cX8_makeMonic 1 = .ok (.invokestatic 122, 3) := by decide +kernel
theorem dX8_makeMonic_4 : decode cX8_makeMonic 4 = .ok (.istore_n 1, 1) := by decide +kernel
theorem dX8_makeMonic_5 : decode cX8_makeMonic 5 = .ok (.iload_n 1, 1) := by decide +kernel
theorem dX8_makeMonic_6 : decode cX8_makeMonic 6 = .ok (.ifCond .ge 7, 3) := by decide +kernel
theorem dX8_makeMonic_9 : decode cX8_makeMonic 9 = .ok (.lconst 1, 1) := by decide +kernel
theorem dX8_makeMonic_10 : decode cX8_makeMonic 10 = .ok (.goto 10, 3) := by decide +kernel
theorem dX8_makeMonic_13 : decode cX8_makeMonic 13 = .ok (.aload_n 0, 1) := by decide +kernel
theorem dX8_makeMonic_14 : decode cX8_makeMonic 14 = .ok (.iload_n 1, 1) := by decide +kernel
theorem dX8_makeMonic_15 : decode cX8_makeMonic 15 = .ok (.iaload, 1) := by decide +kernel
theorem dX8_makeMonic_16 : decode cX8_makeMonic 16 = .ok (.invokestatic 126, 3) := by decide +kernel
theorem dX8_makeMonic_19 : decode cX8_makeMonic 19 = .ok (.i2l, 1) := by decide +kernel
theorem dX8_makeMonic_20 : decode cX8_makeMonic 20 = .ok (.lstore_n 2, 1) := by decide +kernel
theorem dX8_makeMonic_21 : decode cX8_makeMonic 21 = .ok (.iconst 0, 1) := by decide +kernel
theorem dX8_makeMonic_22 : decode cX8_makeMonic 22 = .ok (.istore 4, 2) := by decide +kernel
theorem dX8_makeMonic_24 : decode cX8_makeMonic 24 = .ok (.iload 4, 2) := by decide +kernel
theorem dX8_makeMonic_26 : decode cX8_makeMonic 26 = .ok (.iload_n 1, 1) := by decide +kernel
theorem dX8_makeMonic_27 : decode cX8_makeMonic 27 = .ok (.if_icmp .gt 25, 3) := by decide +kernel
theorem dX8_makeMonic_30 : decode cX8_makeMonic 30 = .ok (.aload_n 0, 1) := by decide +kernel
theorem dX8_makeMonic_31 : decode cX8_makeMonic 31 = .ok (.iload 4, 2) := by decide +kernel
theorem dX8_makeMonic_33 : decode cX8_makeMonic 33 = .ok (.aload_n 0, 1) := by decide +kernel
theorem dX8_makeMonic_34 : decode cX8_makeMonic 34 = .ok (.iload 4, 2) := by decide +kernel
theorem dX8_makeMonic_36 : decode cX8_makeMonic 36 = .ok (.iaload, 1) := by decide +kernel
theorem dX8_makeMonic_37 : decode cX8_makeMonic 37 = .ok (.i2l, 1) := by decide +kernel
theorem dX8_makeMonic_38 : decode cX8_makeMonic 38 = .ok (.lload_n 2, 1) := by decide +kernel
theorem dX8_makeMonic_39 : decode cX8_makeMonic 39 = .ok (.lmul, 1) := by decide +kernel
theorem dX8_makeMonic_40 : decode cX8_makeMonic 40 = .ok (.ldc2_w 69, 3) := by decide +kernel
theorem dX8_makeMonic_43 : decode cX8_makeMonic 43 = .ok (.lrem, 1) := by decide +kernel
theorem dX8_makeMonic_44 : decode cX8_makeMonic 44 = .ok (.l2i, 1) := by decide +kernel
theorem dX8_makeMonic_45 : decode cX8_makeMonic 45 = .ok (.iastore, 1) := by decide +kernel
theorem dX8_makeMonic_46 : decode cX8_makeMonic 46 = .ok (.iinc 4 1, 3) := by decide +kernel
theorem dX8_makeMonic_49 : decode cX8_makeMonic 49 = .ok (.goto (-25), 3) := by decide +kernel
theorem dX8_makeMonic_52 : decode cX8_makeMonic 52 = .ok (.return_, 1) := by decide +kernel
set_option maxRecDepth 20000 in
theorem ggX8_divide_X8_high : GoodIn wsX8_divide wsX8_high := goodIn_r _ [6] (by decide +kernel) (by decide +kernel)
set_option maxRecDepth 20000 in
theorem gX8_divide_X8_high : GoodIn wsX8_divide (va_wsS RX8 122 yX8_high wsX8_high) := goodIn_app (goodIn_of _ (by decide +kernel)) ggX8_divide_X8_high
set_option maxRecDepth 20000 in
theorem ggX8_divide_X8_inverse : GoodIn wsX8_divide wsX8_inverse := goodIn_r _ [9, 2] (by decide +kernel) (by decide +kernel)
set_option maxRecDepth 20000 in
theorem gX8_divide_X8_inverse : GoodIn wsX8_divide (va_wsS RX8 126 yX8_inverse wsX8_inverse) := goodIn_app (goodIn_of _ (by decide +kernel)) ggX8_divide_X8_inverse
set_option maxRecDepth 20000 in
theorem ggX8_divide_X8_empty : GoodIn wsX8_divide wsX8_empty := goodIn_r _ [12] (by decide +kernel) (by decide +kernel)
set_option maxRecDepth 20000 in
theorem gX8_divide_X8_empty : GoodIn wsX8_divide (va_wsS RX8 129 yX8_empty wsX8_empty) := goodIn_app (goodIn_of _ (by decide +kernel)) ggX8_divide_X8_empty
set_option maxRecDepth 20000 in
theorem ggX8_divide_X8_modulo : GoodIn wsX8_divide wsX8_modulo := goodIn_r _ [15, 2] (by decide +kernel) (by decide +kernel)
set_option maxRecDepth 20000 in
theorem gX8_divide_X8_modulo : GoodIn wsX8_divide (va_wsS RX8 87 yX8_modulo wsX8_modulo) := goodIn_app (goodIn_of _ (by decide +kernel)) ggX8_divide_X8_modulo
theorem dX8_divide_0 : decode cX8_divide 0 = .ok (.aload_n 2, 1) := by decide +kernel
theorem dX8_divide_1 : decode cX8_divide 1 = .ok (.invokestatic 122, 3) := by decide +kernel
theorem dX8_divide_4 : decode cX8_divide 4 = .ok (.istore_n 3, 1) := by decide +kernel
theorem dX8_divide_5 : decode cX8_divide 5 = .ok (.aload_n 2, 1) := by decide +kernel
theorem dX8_divide_6 : decode cX8_divide 6 = .ok (.iload_n 3, 1) := by decide +kernel
theorem dX8_divide_7 : decode cX8_divide 7 = .ok (.iaload, 1) := by decide +kernel
theorem dX8_divide_8 : decode cX8_divide 8 = .ok (.invokestatic 126, 3) := by decide +kernel
theorem dX8_divide_11 : decode cX8_divide 11 = .ok (.i2l, 1) := by decide +kernel
theorem dX8_divide_12 : decode cX8_divide 12 = .ok (.lstore 4, 2) := by decide +kernel
theorem dX8_divide_14 : decode cX8_divide 14 = .ok (.aload_n 0, 1) := by decide +kernel
theorem dX8_divide_15 : decode cX8_divide 15 = .ok (.getfield 38, 3) := by decide +kernel
theorem dX8_divide_18 : decode cX8_divide 18 = .ok (.invokestatic 129, 3) := by decide +kernel
theorem dX8_divide_21 : decode cX8_divide 21 = .ok (.sipush 255, 3) := by decide +kernel
theorem dX8_divide_24 : decode cX8_divide 24 = .ok (.istore 6, 2) := by decide +kernel
theorem dX8_divide_26 : decode cX8_divide 26 = .ok (.iload 6, 2) := by decide +kernel
theorem dX8_divide_28 : decode cX8_divide 28 = .ok (.iload_n 3, 1) := by decide +kernel
theorem dX8_divide_29 : decode cX8_divide 29 = .ok (.if_icmp .lt 91, 3) := by decide +kernel
theorem dX8_divide_32 : decode cX8_divide 32 = .ok (.aload_n 1, 1) := by decide +kernel
theorem dX8_divide_33 : decode cX8_divide 33 = .ok (.iload 6, 2) := by decide +kernel
theorem dX8_divide_35 : decode cX8_divide 35 = .ok (.iaload, 1) := by decide +kernel
theorem dX8_divide_36 : decode cX8_divide 36 = .ok (.ifCond .ne 6, 3) := by decide +kernel
theorem dX8_divide_39 : decode cX8_divide 39 = .ok (.goto 75, 3) := by decide +kernel
theorem dX8_divide_42 : decode cX8_divide 42 = .ok (.aload_n 1, 1) := by decide +kernel
theorem dX8_divide_43 : decode cX8_divide 43 = .ok (.iload 6, 2) := by decide +kernel
theorem dX8_divide_45 : decode cX8_divide 45 = .ok (.iaload, 1) := by decide +kernel
theorem dX8_divide_46 : decode cX8_divide 46 = .ok (.i2l, 1) := by decide +kernel
theorem dX8_divide_47 : decode cX8_divide 47 = .ok (.lload 4, 2) := by decide +kernel
theorem dX8_divide_49 : decode cX8_divide 49 = .ok (.lmul, 1) := by decide +kernel
theorem dX8_divide_50 : decode cX8_divide 50 = .ok (.ldc2_w 69, 3) := by decide +kernel
theorem dX8_divide_53 : decode cX8_divide 53 = .ok (.lrem, 1) := by decide +kernel
theorem dX8_divide_54 : decode cX8_divide 54 = .ok (.lstore 7, 2) := by decide +kernel
theorem dX8_divide_56 : decode cX8_divide 56 = .ok (.aload_n 0, 1) := by decide +kernel
theorem dX8_divide_57 : decode cX8_divide 57 = .ok (.getfield 38, 3) := by decide +kernel
theorem dX8_divide_60 : decode cX8_divide 60 = .ok (.iload 6, 2) := by decide +kernel
theorem dX8_divide_62 : decode cX8_divide 62 = .ok (.iload_n 3, 1) := by decide +kernel
theorem dX8_divide_63 : decode cX8_divide 63 = .ok (.isub, 1) := by decide +kernel
theorem dX8_divide_64 : decode cX8_divide 64 = .ok (.lload 7, 2) := by decide +kernel
theorem dX8_divide_66 : decode cX8_divide 66 = .ok (.l2i, 1) := by decide +kernel
theorem dX8_divide_67 : decode cX8_divide 67 = .ok (.iastore, 1) := by decide +kernel
theorem dX8_divide_68 : decode cX8_divide 68 = .ok (.iconst 0, 1) := by decide +kernel
theorem dX8_divide_69 : decode cX8_divide 69 = .ok (.istore 9, 2) := by decide +kernel
theorem dX8_divide_71 : decode cX8_divide 71 = .ok (.iload 9, 2) := by decide +kernel
theorem dX8_divide_73 : decode cX8_divide 73 = .ok (.iload_n 3, 1) := by decide +kernel
theorem dX8_divide_74 : decode cX8_divide 74 = .ok (.if_icmp .gt 40, 3) := by decide +kernel
theorem dX8_divide_77 : decode cX8_divide 77 = .ok (.aload_n 1, 1) := by decide +kernel
theorem dX8_divide_78 : decode cX8_divide 78 = .ok (.iload 6, 2) := by decide +kernel
theorem dX8_divide_80 : decode cX8_divide 80 = .ok (.iload_n 3, 1) := by decide +kernel
theorem dX8_divide_81 : decode cX8_divide 81 = .ok (.isub, 1) := by decide +kernel
theorem dX8_divide_82 : decode cX8_divide 82 = .ok (.iload 9, 2) := by decide +kernel
theorem dX8_divide_84 : decode cX8_divide 84 = .ok (.iadd, 1) := by decide +kernel
theorem dX8_divide_85 : decode cX8_divide 85 = .ok (.aload_n 1, 1) := by decide +kernel
theorem dX8_divide_86 : decode cX8_divide 86 = .ok (.iload 6, 2) := by decide +kernel
theorem dX8_divide_88 : decode cX8_divide 88 = .ok (.iload_n 3, 1) := by decide +kernel
theorem dX8_divide_89 : decode cX8_divide 89 = .ok (.isub, 1) := by decide +kernel
theorem dX8_divide_90 : decode cX8_divide 90 = .ok (.iload 9, 2) := by decide +kernel
theorem dX8_divide_92 : decode cX8_divide 92 = .ok (.iadd, 1) := by decide +kernel
theorem dX8_divide_93 : decode cX8_divide 93 = .ok (.iaload, 1) := by decide +kernel
theorem dX8_divide_94 : decode cX8_divide 94 = .ok (.i2l, 1) := by decide +kernel
theorem dX8_divide_95 : decode cX8_divide 95 = .ok (.lload 7, 2) := by decide +kernel
theorem dX8_divide_97 : decode cX8_divide 97 = .ok (.aload_n 2, 1) := by decide +kernel
theorem dX8_divide_98 : decode cX8_divide 98 = .ok (.iload 9, 2) := by decide +kernel
theorem dX8_divide_100 : decode cX8_divide 100 = .ok (.iaload, 1) := by decide +kernel
theorem dX8_divide_101 : decode cX8_divide 101 = .ok (.i2l, 1) := by decide +kernel
theorem dX8_divide_102 : decode cX8_divide 102 = .ok (.lmul, 1) := by decide +kernel
theorem dX8_divide_103 : decode cX8_divide 103 = .ok (.lsub, 1) := by decide +kernel
theorem dX8_divide_104 : decode cX8_divide 104 = .ok (.invokestatic 87, 3) := by decide +kernel
theorem dX8_divide_107 : decode cX8_divide 107 = .ok (.iastore, 1) := by decide +kernel
theorem dX8_divide_108 : decode cX8_divide 108 = .ok (.iinc 9 1, 3) := by decide +kernel
theorem dX8_divide_111 : decode cX8_divide 111 = .ok (.goto (-40), 3) := by decide +kernel
theorem dX8_divide_114 : decode cX8_divide 114 = .ok (.iinc 6 (-1), 3) := by decide +kernel
theorem dX8_divide_117 : decode cX8_divide 117 = .ok (.goto (-91), 3) := by decide +kernel
theorem dX8_divide_120 : decode cX8_divide 120 = .ok (.return_, 1) := by decide +kernel
set_option maxRecDepth 20000 in
theorem ggX8_common_X8_high : GoodIn wsX8_common wsX8_high := goodIn_r _ [6] (by decide +kernel) (by decide +kernel)
set_option maxRecDepth 20000 in
theorem gX8_common_X8_high : GoodIn wsX8_common (va_wsS RX8 122 yX8_high wsX8_high) := goodIn_app (goodIn_of _ (by decide +kernel)) ggX8_common_X8_high
set_option maxRecDepth 20000 in
theorem ggX8_common_X8_divide : GoodIn wsX8_common wsX8_divide := goodIn_r _ [10, 11, 12, 3, 4, 5, 6, 13, 14, 15, 16, 17, 18, 19, 20, 21, 25, 26, 27, 28, 29, 30, 31, 32, 33, 34, 35, 36, 37, 38, 39, 40, 41, 42, 43, 44, 45] (by decide +kernel) (by decide +kernel)
set_option maxRecDepth 20000 in
theorem gX8_common_X8_divide : GoodIn wsX8_common (wsV RX8 133 RX8 yX8_divide wsX8_divide) := goodIn_app (goodIn_of _ (by decide +kernel)) ggX8_common_X8_divide
set_option maxRecDepth 20000 in
theorem ggX8_common_X8_makeMonic : GoodIn wsX8_common wsX8_makeMonic := goodIn_r _ [24, 12, 3, 4, 5, 6, 13, 14, 15] (by decide +kernel) (by decide +kernel)
set_option maxRecDepth 20000 in
theorem gX8_common_X8_makeMonic : GoodIn wsX8_common (va_wsS RX8 137 yX8_makeMonic wsX8_makeMonic) := goodIn_app (goodIn_of _ (by decide +kernel)) ggX8_common_X8_makeMonic
theorem dX8_common_0 : decode cX8_common 0 = .ok (.aload_n 0, 1) := by decide +kernel
theorem dX8_common_1 : decode cX8_common 1 = .ok (.getfield 35, 3) := by decide +kernel
theorem dX8_common_4 : decode cX8_common 4 = .ok (.invokestatic 122, 3) := by decide +kernel
theorem dX8_common_7 : decode cX8_common 7 = .ok (.ifCond .lt 59, 3) := by decide +kernel
theorem dX8_common_10 : decode cX8_common 10 = .ok (.aload_n 0, 1) := by decide +kernel
theorem dX8_common_11 : decode cX8_common 11 = .ok (.aload_n 0, 1) := by decide +kernel
theorem dX8_common_12 : decode cX8_common 12 = .ok (.getfield 32, 3) := by decide +kernel
theorem dX8_common_15 : decode cX8_common 15 = .ok (.aload_n 0, 1) := by decide +kernel
theorem dX8_common_16 : decode cX8_common 16 = .ok (.getfield 35, 3) := by decide +kernel
theorem dX8_common_19 : decode cX8_common 19 = .ok (.invokevirtual 133, 3) := by decide +kernel
theorem dX8_common_22 : decode cX8_common 22 = .ok (.iconst 0, 1) := by decide +kernel
theorem dX8_common_23 : decode cX8_common 23 = .ok (.istore_n 1, 1) := by decide +kernel
theorem dX8_common_24 : decode cX8_common 24 = .ok (.iload_n 1, 1) := by decide +kernel
theorem dX8_common_25 : decode cX8_common 25 = .ok (.sipush 256, 3) := by decide +kernel
theorem dX8_common_28 : decode cX8_common 28 = .ok (.if_icmp .ge 35, 3) := by decide +kernel
theorem dX8_common_31 : decode cX8_common 31 = .ok (.aload_n 0, 1) := by decide +kernel
theorem dX8_common_32 : decode cX8_common 32 = .ok (.getfield 32, 3) := by decide +kernel
theorem dX8_common_35 : decode cX8_common 35 = .ok (.iload_n 1, 1) := by decide +kernel
theorem dX8_common_36 : decode cX8_common 36 = .ok (.iaload, 1) := by decide +kernel
theorem dX8_common_37 : decode cX8_common 37 = .ok (.istore_n 2, 1) := by decide +kernel
theorem dX8_common_38 : decode cX8_common 38 = .ok (.aload_n 0, 1) := by decide +kernel
theorem dX8_common_39 : decode cX8_common 39 = .ok (.getfield 32, 3) := by decide +kernel
theorem dX8_common_42 : decode cX8_common 42 = .ok (.iload_n 1, 1) := by decide +kernel
theorem dX8_common_43 : decode cX8_common 43 = .ok (.aload_n 0, 1) := by decide +kernel
theorem dX8_common_44 : decode cX8_common 44 = .ok (.getfield 35, 3) := by decide +kernel
theorem dX8_common_47 : decode cX8_common 47 = .ok (.iload_n 1, 1) := by decide +kernel
theorem dX8_common_48 : decode cX8_common 48 = .ok (.iaload, 1) := by decide +kernel
theorem dX8_common_49 : decode cX8_common 49 = .ok (.iastore, 1) := by decide +kernel
theorem dX8_common_50 : decode cX8_common 50 = .ok (.aload_n 0, 1) := by decide +kernel
theorem dX8_common_51 : decode cX8_common 51 = .ok (.getfield 35, 3) := by decide +kernel
theorem dX8_common_54 : decode cX8_common 54 = .ok (.iload_n 1, 1) := by decide +kernel
theorem dX8_common_55 : decode cX8_common 55 = .ok (.iload_n 2, 1) := by decide +kernel
theorem dX8_common_56 : decode cX8_common 56 = .ok (.iastore, 1) := by decide +kernel
theorem dX8_common_57 : decode cX8_common 57 = .ok (.iinc 1 1, 3) := by decide +kernel
theorem dX8_common_60 : decode cX8_common 60 = .ok (.goto (-36), 3) := by decide +kernel
theorem dX8_common_63 : decode cX8_common 63 = .ok (.goto (-63), 3) := by decide +kernel
theorem dX8_common_66 : decode cX8_common 66 = .ok (.aload_n 0, 1) := by decide +kernel
theorem dX8_common_67 : decode cX8_common 67 = .ok (.getfield 32, 3) := by decide +kernel
theorem dX8_common_70 : decode cX8_common 70 = .ok (.invokestatic 137, 3) := by decide +kernel
theorem dX8_common_73 : decode cX8_common 73 = .ok (.return_, 1) := by decide +kernel
theorem dX8_put0_0 : decode cX8_put0 0 = .ok (.iconst 0, 1) := by decide +kernel
theorem dX8_put0_1 : decode cX8_put0 1 = .ok (.istore 5, 2) := by decide +kernel
theorem dX8_put0_3 : decode cX8_put0 3 = .ok (.iload 5, 2) := by decide +kernel
theorem dX8_put0_5 : decode cX8_put0 5 = .ok (.bipush 40, 2) := by decide +kernel
theorem dX8_put0_7 : decode cX8_put0 7 = .ok (.if_icmp .ge 35, 3) := by decide +kernel
theorem dX8_put0_10 : decode cX8_put0 10 = .ok (.aload_n 0, 1) := by decide +kernel
theorem dX8_put0_11 : decode cX8_put0 11 = .ok (.getfield 17, 3) := by decide +kernel
theorem dX8_put0_14 : decode cX8_put0 14 = .ok (.bipush 40, 2) := by decide +kernel
theorem dX8_put0_16 : decode cX8_put0 16 = .ok (.bipush 16, 2) := by decide +kernel
theorem dX8_put0_18 : decode cX8_put0 18 = .ok (.iload_n 1, 1) := by decide +kernel
theorem dX8_put0_19 : decode cX8_put0 19 = .ok (.imul, 1) := by decide +kernel
theorem dX8_put0_20 : decode cX8_put0 20 = .ok (.iconst 4, 1) := by decide +kernel
theorem dX8_put0_21 : decode cX8_put0 21 = .ok (.iload_n 2, 1) := by decide +kernel
theorem dX8_put0_22 : decode cX8_put0 22 = .ok (.imul, 1) := by decide +kernel
theorem dX8_put0_23 : decode cX8_put0 23 = .ok (.iadd, 1) := by decide +kernel
theorem dX8_put0_24 : decode cX8_put0 24 = .ok (.iload_n 3, 1) := by decide +kernel
theorem dX8_put0_25 : decode cX8_put0 25 = .ok (.iadd, 1) := by decide +kernel
theorem dX8_put0_26 : decode cX8_put0 26 = .ok (.imul, 1) := by decide +kernel
theorem dX8_put0_27 : decode cX8_put0 27 = .ok (.iload 5, 2) := by decide +kernel
theorem dX8_put0_29 : decode cX8_put0 29 = .ok (.iadd, 1) := by decide +kernel
theorem dX8_put0_30 : decode cX8_put0 30 = .ok (.aload 4, 2) := by decide +kernel
theorem dX8_put0_32 : decode cX8_put0 32 = .ok (.iload 5, 2) := by decide +kernel
theorem dX8_put0_34 : decode cX8_put0 34 = .ok (.iaload, 1) := by decide +kernel
theorem dX8_put0_35 : decode cX8_put0 35 = .ok (.iastore, 1) := by decide +kernel
theorem dX8_put0_36 : decode cX8_put0 36 = .ok (.iinc 5 1, 3) := by decide +kernel
theorem dX8_put0_39 : decode cX8_put0 39 = .ok (.goto (-36), 3) := by decide +kernel
theorem dX8_put0_42 : decode cX8_put0 42 = .ok (.return_, 1) := by decide +kernel
theorem dX8_clearForm_0 : decode cX8_clearForm 0 = .ok (.iconst 0, 1) := by decide +kernel
theorem dX8_clearForm_1 : decode cX8_clearForm 1 = .ok (.istore_n 2, 1) := by decide +kernel
theorem dX8_clearForm_2 : decode cX8_clearForm 2 = .ok (.iload_n 2, 1) := by decide +kernel
theorem dX8_clearForm_3 : decode cX8_clearForm 3 = .ok (.sipush 640, 3) := by decide +kernel
theorem dX8_clearForm_6 : decode cX8_clearForm 6 = .ok (.if_icmp .ge 22, 3) := by decide +kernel
theorem dX8_clearForm_9 : decode cX8_clearForm 9 = .ok (.aload_n 0, 1) := by decide +kernel
theorem dX8_clearForm_10 : decode cX8_clearForm 10 = .ok (.getfield 17, 3) := by decide +kernel
theorem dX8_clearForm_13 : decode cX8_clearForm 13 = .ok (.sipush 640, 3) := by decide +kernel
theorem dX8_clearForm_16 : decode cX8_clearForm 16 = .ok (.iload_n 1, 1) := by decide +kernel
theorem dX8_clearForm_17 : decode cX8_clearForm 17 = .ok (.imul, 1) := by decide +kernel
theorem dX8_clearForm_18 : decode cX8_clearForm 18 = .ok (.iload_n 2, 1) := by decide +kernel
theorem dX8_clearForm_19 : decode cX8_clearForm 19 = .ok (.iadd, 1) := by decide +kernel
theorem dX8_clearForm_20 : decode cX8_clearForm 20 = .ok (.iconst 0, 1) := by decide +kernel
theorem dX8_clearForm_21 : decode cX8_clearForm 21 = .ok (.iastore, 1) := by decide +kernel
theorem dX8_clearForm_22 : decode cX8_clearForm 22 = .ok (.iinc 2 1, 3) := by decide +kernel
theorem dX8_clearForm_25 : decode cX8_clearForm 25 = .ok (.goto (-23), 3) := by decide +kernel
theorem dX8_clearForm_28 : decode cX8_clearForm 28 = .ok (.return_, 1) := by decide +kernel
set_option maxRecDepth 20000 in
theorem ggX8_make_X8_in : GoodIn wsX8_make wsX8_in := goodIn_r _ [9] (by decide +kernel) (by decide +kernel)
set_option maxRecDepth 20000 in
theorem gX8_make_X8_in : GoodIn wsX8_make (va_wsS RX8 77 yX8_in wsX8_in) := goodIn_app (goodIn_of _ (by decide +kernel)) ggX8_make_X8_in
set_option maxRecDepth 20000 in
theorem ggX8_make_X8_loadEntries : GoodIn wsX8_make wsX8_loadEntries := goodIn_r _ [13, 14, 15, 16, 17, 18, 8, 19, 20, 21, 22, 23, 24, 25, 26, 27, 28, 29, 30, 31, 123, 124, 125, 126, 127, 128, 129, 130, 131, 132, 133, 134, 135, 136, 137, 138, 139, 140, 141, 142, 143] (by decide +kernel) (by decide +kernel)
set_option maxRecDepth 20000 in
theorem gX8_make_X8_loadEntries : GoodIn wsX8_make (wsV RX8 106 RX8 yX8_loadEntries wsX8_loadEntries) := goodIn_app (goodIn_of _ (by decide +kernel)) ggX8_make_X8_loadEntries
set_option maxRecDepth 20000 in
theorem ggX8_make_X8_clearForm : GoodIn wsX8_make wsX8_clearForm := goodIn_r _ [35, 36, 123, 124, 125, 126, 127, 128, 129, 130, 131, 132, 133, 134, 135, 136, 137, 138, 139, 140, 141, 142, 143] (by decide +kernel) (by decide +kernel)
set_option maxRecDepth 20000 in
theorem gX8_make_X8_clearForm : GoodIn wsX8_make (wsV RX8 142 RX8 yX8_clearForm wsX8_clearForm) := goodIn_app (goodIn_of _ (by decide +kernel)) ggX8_make_X8_clearForm
set_option maxRecDepth 20000 in
theorem ggX8_make_X8_makeHermite : GoodIn wsX8_make wsX8_makeHermite := goodIn_r _ [40, 41, 42, 4, 43, 15, 5, 44, 45, 8, 46, 47, 48, 49, 50, 51, 52, 53, 54, 55, 56, 57, 58, 59, 60, 61, 62, 63, 64, 65, 66, 67, 68, 69, 70, 71, 72, 73, 74, 28, 75, 76, 77, 78, 79, 80, 81, 82, 83, 84, 85, 86, 29, 30, 31, 87, 88, 89, 90, 91, 92, 93, 94, 36, 123, 124, 125, 126, 127, 128, 129, 130, 131, 132, 133, 134, 135, 136, 137, 138, 139, 140, 141, 142, 143] (by decide +kernel) (by decide +kernel)
set_option maxRecDepth 20000 in
theorem gX8_make_X8_makeHermite : GoodIn wsX8_make (wsV RX8 146 RX8 yX8_makeHermite wsX8_makeHermite) := goodIn_app (goodIn_of _ (by decide +kernel)) ggX8_make_X8_makeHermite
set_option maxRecDepth 20000 in
theorem ggX8_make_X8_makeSmith : GoodIn wsX8_make wsX8_makeSmith := goodIn_r _ [98, 99, 43, 55, 20, 86, 100, 101, 102, 8, 103, 21, 22, 23, 104, 105, 106, 107, 44, 45, 46, 108, 109, 110, 111, 64, 65, 66, 82, 83, 84, 85, 28, 75, 76, 77, 29, 30, 31, 112, 113, 114, 91, 92, 93, 94, 36, 123, 124, 125, 126, 127, 128, 129, 130, 131, 132, 133, 134, 135, 136, 137, 138, 139, 140, 141, 142, 143] (by decide +kernel) (by decide +kernel)
set_option maxRecDepth 20000 in
theorem gX8_make_X8_makeSmith : GoodIn wsX8_make (wsV RX8 149 RX8 yX8_makeSmith wsX8_makeSmith) := goodIn_app (goodIn_of _ (by decide +kernel)) ggX8_make_X8_makeSmith
set_option maxRecDepth 20000 in
theorem ggX8_make_X8_rankNow : GoodIn wsX8_make wsX8_rankNow := goodIn_r _ [103, 21, 22, 8, 23, 104, 105, 106, 107, 20, 123, 124, 125, 126, 127, 128, 129, 130, 131, 132, 133, 134, 135, 136, 137, 138, 139, 140, 141, 142, 143] (by decide +kernel) (by decide +kernel)
set_option maxRecDepth 20000 in
theorem gX8_make_X8_rankNow : GoodIn wsX8_make (wsV RX8 109 RX8 yX8_rankNow wsX8_rankNow) := goodIn_app (goodIn_of _ (by decide +kernel)) ggX8_make_X8_rankNow
set_option maxRecDepth 20000 in
theorem ggX8_make_X8_makeInverse : GoodIn wsX8_make wsX8_makeInverse := goodIn_r _ [118, 20, 4, 43, 119, 120, 121, 8, 122, 75, 76, 77, 28, 44, 45, 46, 29, 30, 31, 91, 92, 93, 94, 36, 123, 124, 125, 126, 127, 128, 129, 130, 131, 132, 133, 134, 135, 136, 137, 138, 139, 140, 141, 142, 143] (by decide +kernel) (by decide +kernel)
set_option maxRecDepth 20000 in
theorem gX8_make_X8_makeInverse : GoodIn wsX8_make (wsV RX8 152 RX8 yX8_makeInverse wsX8_makeInverse) := goodIn_app (goodIn_of _ (by decide +kernel)) ggX8_make_X8_makeInverse
theorem dX8_make_0 : decode cX8_make 0 = .ok (.aload_n 0, 1) := by decide +kernel
theorem dX8_make_1 : decode cX8_make 1 = .ok (.iload_n 1, 1) := by decide +kernel
theorem dX8_make_2 : decode cX8_make 2 = .ok (.i2l, 1) := by decide +kernel
theorem dX8_make_3 : decode cX8_make 3 = .ok (.lconst 0, 1) := by decide +kernel
theorem dX8_make_4 : decode cX8_make 4 = .ok (.ldc2_w 140, 3) := by decide +kernel
theorem dX8_make_7 : decode cX8_make 7 = .ok (.invokestatic 77, 3) := by decide +kernel
theorem dX8_make_10 : decode cX8_make 10 = .ok (.ifCond .eq 7, 3) := by decide +kernel
theorem dX8_make_13 : decode cX8_make 13 = .ok (.iconst 0, 1) := by decide +kernel
theorem dX8_make_14 : decode cX8_make 14 = .ok (.goto 4, 3) := by decide +kernel
theorem dX8_make_17 : decode cX8_make 17 = .ok (.iconst 1, 1) := by decide +kernel
theorem dX8_make_18 : decode cX8_make 18 = .ok (.putfield 65, 3) := by decide +kernel
theorem dX8_make_21 : decode cX8_make 21 = .ok (.aload_n 0, 1) := by decide +kernel
theorem dX8_make_22 : decode cX8_make 22 = .ok (.getfield 65, 3) := by decide +kernel
theorem dX8_make_25 : decode cX8_make 25 = .ok (.ifCond .le 5, 3) := by decide +kernel
theorem dX8_make_28 : decode cX8_make 28 = .ok (.iconst 0, 1) := by decide +kernel
theorem dX8_make_29 : decode cX8_make 29 = .ok (.ireturn, 1) := by decide +kernel
theorem dX8_make_30 : decode cX8_make 30 = .ok (.aload_n 0, 1) := by decide +kernel
theorem dX8_make_31 : decode cX8_make 31 = .ok (.invokevirtual 106, 3) := by decide +kernel
theorem dX8_make_34 : decode cX8_make 34 = .ok (.aload_n 0, 1) := by decide +kernel
theorem dX8_make_35 : decode cX8_make 35 = .ok (.iload_n 1, 1) := by decide +kernel
theorem dX8_make_36 : decode cX8_make 36 = .ok (.invokevirtual 142, 3) := by decide +kernel
theorem dX8_make_39 : decode cX8_make 39 = .ok (.aload_n 0, 1) := by decide +kernel
theorem dX8_make_40 : decode cX8_make 40 = .ok (.getfield 13, 3) := by decide +kernel
theorem dX8_make_43 : decode cX8_make 43 = .ok (.iload_n 1, 1) := by decide +kernel
theorem dX8_make_44 : decode cX8_make 44 = .ok (.iconst 1, 1) := by decide +kernel
theorem dX8_make_45 : decode cX8_make 45 = .ok (.bastore, 1) := by decide +kernel
theorem dX8_make_46 : decode cX8_make 46 = .ok (.iload_n 1, 1) := by decide +kernel
theorem dX8_make_47 : decode cX8_make 47 = .ok (.ifCond .ne 7, 3) := by decide +kernel
theorem dX8_make_50 : decode cX8_make 50 = .ok (.aload_n 0, 1) := by decide +kernel
theorem dX8_make_51 : decode cX8_make 51 = .ok (.invokevirtual 146, 3) := by decide +kernel
theorem dX8_make_54 : decode cX8_make 54 = .ok (.iload_n 1, 1) := by decide +kernel
theorem dX8_make_55 : decode cX8_make 55 = .ok (.iconst 1, 1) := by decide +kernel
theorem dX8_make_56 : decode cX8_make 56 = .ok (.if_icmp .ne 7, 3) := by decide +kernel
theorem dX8_make_59 : decode cX8_make 59 = .ok (.aload_n 0, 1) := by decide +kernel
theorem dX8_make_60 : decode cX8_make 60 = .ok (.invokevirtual 149, 3) := by decide +kernel
theorem dX8_make_63 : decode cX8_make 63 = .ok (.iload_n 1, 1) := by decide +kernel
theorem dX8_make_64 : decode cX8_make 64 = .ok (.iconst 2, 1) := by decide +kernel
theorem dX8_make_65 : decode cX8_make 65 = .ok (.if_icmp .ge 8, 3) := by decide +kernel
theorem dX8_make_68 : decode cX8_make 68 = .ok (.aload_n 0, 1) := by decide +kernel
theorem dX8_make_69 : decode cX8_make 69 = .ok (.invokevirtual 109, 3) := by decide +kernel
theorem dX8_make_72 : decode cX8_make 72 = .ok (.ireturn, 1) := by decide +kernel
theorem dX8_make_73 : decode cX8_make 73 = .ok (.aload_n 0, 1) := by decide +kernel
theorem dX8_make_74 : decode cX8_make 74 = .ok (.getfield 13, 3) := by decide +kernel
theorem dX8_make_77 : decode cX8_make 77 = .ok (.iconst 2, 1) := by decide +kernel
theorem dX8_make_78 : decode cX8_make 78 = .ok (.aload_n 0, 1) := by decide +kernel
theorem dX8_make_79 : decode cX8_make 79 = .ok (.getfield 71, 3) := by decide +kernel
theorem dX8_make_82 : decode cX8_make 82 = .ok (.aload_n 0, 1) := by decide +kernel
theorem dX8_make_83 : decode cX8_make 83 = .ok (.getfield 74, 3) := by decide +kernel
theorem dX8_make_86 : decode cX8_make 86 = .ok (.if_icmp .ne 14, 3) := by decide +kernel
theorem dX8_make_89 : decode cX8_make 89 = .ok (.aload_n 0, 1) := by decide +kernel
theorem dX8_make_90 : decode cX8_make 90 = .ok (.invokevirtual 152, 3) := by decide +kernel
theorem dX8_make_93 : decode cX8_make 93 = .ok (.ifCond .eq 7, 3) := by decide +kernel
theorem dX8_make_96 : decode cX8_make 96 = .ok (.iconst 1, 1) := by decide +kernel
theorem dX8_make_97 : decode cX8_make 97 = .ok (.goto 4, 3) := by decide +kernel
theorem dX8_make_100 : decode cX8_make 100 = .ok (.iconst 0, 1) := by decide +kernel
theorem dX8_make_101 : decode cX8_make 101 = .ok (.bastore, 1) := by decide +kernel
theorem dX8_make_102 : decode cX8_make 102 = .ok (.aload_n 0, 1) := by decide +kernel
theorem dX8_make_103 : decode cX8_make 103 = .ok (.getfield 13, 3) := by decide +kernel
theorem dX8_make_106 : decode cX8_make 106 = .ok (.iconst 2, 1) := by decide +kernel
theorem dX8_make_107 : decode cX8_make 107 = .ok (.baload, 1) := by decide +kernel
theorem dX8_make_108 : decode cX8_make 108 = .ok (.ifCond .eq 10, 3) := by decide +kernel
theorem dX8_make_111 : decode cX8_make 111 = .ok (.aload_n 0, 1) := by decide +kernel
theorem dX8_make_112 : decode cX8_make 112 = .ok (.getfield 71, 3) := by decide +kernel
theorem dX8_make_115 : decode cX8_make 115 = .ok (.goto 4, 3) := by decide +kernel
theorem dX8_make_118 : decode cX8_make 118 = .ok (.iconst (-1), 1) := by decide +kernel
theorem dX8_make_119 : decode cX8_make 119 = .ok (.ireturn, 1) := by decide +kernel
set_option maxRecDepth 20000 in
theorem ggX8_makeSmith_X8_rankNow : GoodIn wsX8_makeSmith wsX8_rankNow := goodIn_r _ [10, 11, 12, 9, 13, 14, 15, 16, 17, 4, 47, 48, 49, 50, 51, 52, 53, 54, 55, 56, 57, 58, 59, 60, 61, 62, 63, 64, 65, 66, 67] (by decide +kernel) (by decide +kernel)
set_option maxRecDepth 20000 in
theorem gX8_makeSmith_X8_rankNow : GoodIn wsX8_makeSmith (wsV RX8 109 RX8 yX8_rankNow wsX8_rankNow) := goodIn_app (goodIn_of _ (by decide +kernel)) ggX8_makeSmith_X8_rankNow
set_option maxRecDepth 20000 in
theorem ggX8_makeSmith_X8_empty : GoodIn wsX8_makeSmith wsX8_empty := goodIn_r _ [20] (by decide +kernel) (by decide +kernel)
set_option maxRecDepth 20000 in
theorem gX8_makeSmith_X8_empty : GoodIn wsX8_makeSmith (va_wsS RX8 129 yX8_empty wsX8_empty) := goodIn_app (goodIn_of _ (by decide +kernel)) ggX8_makeSmith_X8_empty
set_option maxRecDepth 20000 in
theorem ggX8_makeSmith_X8_bits : GoodIn wsX8_makeSmith wsX8_bits := goodIn_r _ [13] (by decide +kernel) (by decide +kernel)
set_option maxRecDepth 20000 in
theorem gX8_makeSmith_X8_bits : GoodIn wsX8_makeSmith (va_wsS RX8 91 yX8_bits wsX8_bits) := goodIn_app (goodIn_of _ (by decide +kernel)) ggX8_makeSmith_X8_bits
set_option maxRecDepth 20000 in
theorem ggX8_makeSmith_X8_common : GoodIn wsX8_makeSmith wsX8_common := goodIn_r _ [24, 3, 2, 25, 26, 9, 27, 28, 29, 30, 31, 5, 32, 33, 34, 35, 18, 19, 20, 36, 37, 38, 39, 40, 41, 47, 48, 49, 50, 51, 52, 53, 54, 55, 56, 57, 58, 59, 60, 61, 62, 63, 64, 65, 66, 67] (by decide +kernel) (by decide +kernel)
set_option maxRecDepth 20000 in
theorem gX8_makeSmith_X8_common : GoodIn wsX8_makeSmith (wsV RX8 155 RX8 yX8_common wsX8_common) := goodIn_app (goodIn_of _ (by decide +kernel)) ggX8_makeSmith_X8_common
set_option maxRecDepth 20000 in
theorem ggX8_makeSmith_X8_divide : GoodIn wsX8_makeSmith wsX8_divide := goodIn_r _ [31, 5, 32, 25, 26, 9, 27, 33, 34, 35, 18, 19, 20, 36, 37, 38, 47, 48, 49, 50, 51, 52, 53, 54, 55, 56, 57, 58, 59, 60, 61, 62, 63, 64, 65, 66, 67] (by decide +kernel) (by decide +kernel)
set_option maxRecDepth 20000 in
theorem gX8_makeSmith_X8_divide : GoodIn wsX8_makeSmith (wsV RX8 133 RX8 yX8_divide wsX8_divide) := goodIn_app (goodIn_of _ (by decide +kernel)) ggX8_makeSmith_X8_divide
set_option maxRecDepth 20000 in
theorem ggX8_makeSmith_X8_put0 : GoodIn wsX8_makeSmith wsX8_put0 := goodIn_r _ [45, 46, 47, 48, 49, 50, 51, 52, 53, 54, 55, 56, 57, 58, 59, 60, 61, 62, 63, 64, 65, 66, 67] (by decide +kernel) (by decide +kernel)
set_option maxRecDepth 20000 in
theorem gX8_makeSmith_X8_put0 : GoodIn wsX8_makeSmith (wsV RX8 158 RX8 yX8_put0 wsX8_put0) := goodIn_app (goodIn_of _ (by decide +kernel)) ggX8_makeSmith_X8_put0
theorem dX8_makeSmith_0 : decode cX8_makeSmith 0 = .ok (.aload_n 0, 1) := by decide +kernel
theorem dX8_makeSmith_1 : decode cX8_makeSmith 1 = .ok (.invokevirtual 109, 3) := by decide +kernel
theorem dX8_makeSmith_4 : decode cX8_makeSmith 4 = .ok (.istore_n 1, 1) := by decide +kernel
theorem dX8_makeSmith_5 : decode cX8_makeSmith 5 = .ok (.aload_n 0, 1) := by decide +kernel
theorem dX8_makeSmith_6 : decode cX8_makeSmith 6 = .ok (.getfield 41, 3) := by decide +kernel
theorem dX8_makeSmith_9 : decode cX8_makeSmith 9 = .ok (.invokestatic 129, 3) := by decide +kernel
theorem dX8_makeSmith_12 : decode cX8_makeSmith 12 = .ok (.aload_n 0, 1) := by decide +kernel
theorem dX8_makeSmith_13 : decode cX8_makeSmith 13 = .ok (.getfield 41, 3) := by decide +kernel
theorem dX8_makeSmith_16 : decode cX8_makeSmith 16 = .ok (.iconst 0, 1) := by decide +kernel
theorem dX8_makeSmith_17 : decode cX8_makeSmith 17 = .ok (.iconst 1, 1) := by decide +kernel
theorem dX8_makeSmith_18 : decode cX8_makeSmith 18 = .ok (.iastore, 1) := by decide +kernel
theorem dX8_makeSmith_19 : decode cX8_makeSmith 19 = .ok (.iconst 1, 1) := by decide +kernel
theorem dX8_makeSmith_20 : decode cX8_makeSmith 20 = .ok (.istore_n 2, 1) := by decide +kernel
theorem dX8_makeSmith_21 : decode cX8_makeSmith 21 = .ok (.iload_n 2, 1) := by decide +kernel
theorem dX8_makeSmith_22 : decode cX8_makeSmith 22 = .ok (.iload_n 1, 1) := by decide +kernel
theorem dX8_makeSmith_23 : decode cX8_makeSmith 23 = .ok (.if_icmp .gt 199, 3) := by decide +kernel
theorem dX8_makeSmith_26 : decode cX8_makeSmith 26 = .ok (.aload_n 0, 1) := by decide +kernel
theorem dX8_makeSmith_27 : decode cX8_makeSmith 27 = .ok (.getfield 32, 3) := by decide +kernel
theorem dX8_makeSmith_30 : decode cX8_makeSmith 30 = .ok (.invokestatic 129, 3) := by decide +kernel
theorem dX8_makeSmith_33 : decode cX8_makeSmith 33 = .ok (.iconst 0, 1) := by decide +kernel
theorem dX8_makeSmith_34 : decode cX8_makeSmith 34 = .ok (.istore_n 3, 1) := by decide +kernel
theorem dX8_makeSmith_35 : decode cX8_makeSmith 35 = .ok (.iload_n 3, 1) := by decide +kernel
theorem dX8_makeSmith_36 : decode cX8_makeSmith 36 = .ok (.bipush 16, 2) := by decide +kernel
theorem dX8_makeSmith_38 : decode cX8_makeSmith 38 = .ok (.if_icmp .ge 97, 3) := by decide +kernel
theorem dX8_makeSmith_41 : decode cX8_makeSmith 41 = .ok (.iconst 0, 1) := by decide +kernel
theorem dX8_makeSmith_42 : decode cX8_makeSmith 42 = .ok (.istore 4, 2) := by decide +kernel
theorem dX8_makeSmith_44 : decode cX8_makeSmith 44 = .ok (.iload 4, 2) := by decide +kernel
theorem dX8_makeSmith_46 : decode cX8_makeSmith 46 = .ok (.bipush 16, 2) := by decide +kernel
theorem dX8_makeSmith_48 : decode cX8_makeSmith 48 = .ok (.if_icmp .ge 81, 3) := by decide +kernel
theorem dX8_makeSmith_51 : decode cX8_makeSmith 51 = .ok (.iload_n 3, 1) := by decide +kernel
theorem dX8_makeSmith_52 : decode cX8_makeSmith 52 = .ok (.invokestatic 91, 3) := by decide +kernel
theorem dX8_makeSmith_55 : decode cX8_makeSmith 55 = .ok (.iload_n 2, 1) := by decide +kernel
theorem dX8_makeSmith_56 : decode cX8_makeSmith 56 = .ok (.if_icmp .ne 67, 3) := by decide +kernel
theorem dX8_makeSmith_59 : decode cX8_makeSmith 59 = .ok (.iload 4, 2) := by decide +kernel
theorem dX8_makeSmith_61 : decode cX8_makeSmith 61 = .ok (.invokestatic 91, 3) := by decide +kernel
theorem dX8_makeSmith_64 : decode cX8_makeSmith 64 = .ok (.iload_n 2, 1) := by decide +kernel
theorem dX8_makeSmith_65 : decode cX8_makeSmith 65 = .ok (.if_icmp .eq 6, 3) := by decide +kernel
theorem dX8_makeSmith_68 : decode cX8_makeSmith 68 = .ok (.goto 55, 3) := by decide +kernel
theorem dX8_makeSmith_71 : decode cX8_makeSmith 71 = .ok (.aload_n 0, 1) := by decide +kernel
theorem dX8_makeSmith_72 : decode cX8_makeSmith 72 = .ok (.getfield 35, 3) := by decide +kernel
theorem dX8_makeSmith_75 : decode cX8_makeSmith 75 = .ok (.invokestatic 129, 3) := by decide +kernel
theorem dX8_makeSmith_78 : decode cX8_makeSmith 78 = .ok (.iconst 0, 1) := by decide +kernel
theorem dX8_makeSmith_79 : decode cX8_makeSmith 79 = .ok (.istore 5, 2) := by decide +kernel
theorem dX8_makeSmith_81 : decode cX8_makeSmith 81 = .ok (.iload 5, 2) := by decide +kernel
theorem dX8_makeSmith_83 : decode cX8_makeSmith 83 = .ok (.bipush 13, 2) := by decide +kernel
theorem dX8_makeSmith_85 : decode cX8_makeSmith 85 = .ok (.if_icmp .ge 34, 3) := by decide +kernel
theorem dX8_makeSmith_88 : decode cX8_makeSmith 88 = .ok (.aload_n 0, 1) := by decide +kernel
theorem dX8_makeSmith_89 : decode cX8_makeSmith 89 = .ok (.getfield 35, 3) := by decide +kernel
theorem dX8_makeSmith_92 : decode cX8_makeSmith 92 = .ok (.iload 5, 2) := by decide +kernel
theorem dX8_makeSmith_94 : decode cX8_makeSmith 94 = .ok (.aload_n 0, 1) := by decide +kernel
theorem dX8_makeSmith_95 : decode cX8_makeSmith 95 = .ok (.getfield 20, 3) := by decide +kernel
theorem dX8_makeSmith_98 : decode cX8_makeSmith 98 = .ok (.bipush 13, 2) := by decide +kernel
theorem dX8_makeSmith_100 : decode cX8_makeSmith 100 = .ok (.bipush 16, 2) := by decide +kernel
theorem dX8_makeSmith_102 : decode cX8_makeSmith 102 = .ok (.iload_n 3, 1) := by decide +kernel
theorem dX8_makeSmith_103 : decode cX8_makeSmith 103 = .ok (.imul, 1) := by decide +kernel
theorem dX8_makeSmith_104 : decode cX8_makeSmith 104 = .ok (.iload 4, 2) := by decide +kernel
theorem dX8_makeSmith_106 : decode cX8_makeSmith 106 = .ok (.iadd, 1) := by decide +kernel
theorem dX8_makeSmith_107 : decode cX8_makeSmith 107 = .ok (.imul, 1) := by decide +kernel
theorem dX8_makeSmith_108 : decode cX8_makeSmith 108 = .ok (.iload 5, 2) := by decide +kernel
theorem dX8_makeSmith_110 : decode cX8_makeSmith 110 = .ok (.iadd, 1) := by decide +kernel
theorem dX8_makeSmith_111 : decode cX8_makeSmith 111 = .ok (.iaload, 1) := by decide +kernel
theorem dX8_makeSmith_112 : decode cX8_makeSmith 112 = .ok (.iastore, 1) := by decide +kernel
theorem dX8_makeSmith_113 : decode cX8_makeSmith 113 = .ok (.iinc 5 1, 3) := by decide +kernel
theorem dX8_makeSmith_116 : decode cX8_makeSmith 116 = .ok (.goto (-35), 3) := by decide +kernel
theorem dX8_makeSmith_119 : decode cX8_makeSmith 119 = .ok (.aload_n 0, 1) := by decide +kernel
theorem dX8_makeSmith_120 : decode cX8_makeSmith 120 = .ok (.invokevirtual 155, 3) := by decide +kernel
theorem dX8_makeSmith_123 : decode cX8_makeSmith 123 = .ok (.iinc 4 1, 3) := by decide +kernel
theorem dX8_makeSmith_126 : decode cX8_makeSmith 126 = .ok (.goto (-82), 3) := by decide +kernel
theorem dX8_makeSmith_129 : decode cX8_makeSmith 129 = .ok (.iinc 3 1, 3) := by decide +kernel
theorem dX8_makeSmith_132 : decode cX8_makeSmith 132 = .ok (.goto (-97), 3) := by decide +kernel
theorem dX8_makeSmith_135 : decode cX8_makeSmith 135 = .ok (.iconst 0, 1) := by decide +kernel
theorem dX8_makeSmith_136 : decode cX8_makeSmith 136 = .ok (.istore_n 3, 1) := by decide +kernel
theorem dX8_makeSmith_137 : decode cX8_makeSmith 137 = .ok (.iload_n 3, 1) := by decide +kernel
theorem dX8_makeSmith_138 : decode cX8_makeSmith 138 = .ok (.sipush 256, 3) := by decide +kernel
theorem dX8_makeSmith_141 : decode cX8_makeSmith 141 = .ok (.if_icmp .ge 21, 3) := by decide +kernel
theorem dX8_makeSmith_144 : decode cX8_makeSmith 144 = .ok (.aload_n 0, 1) := by decide +kernel
theorem dX8_makeSmith_145 : decode cX8_makeSmith 145 = .ok (.getfield 35, 3) := by decide +kernel
theorem dX8_makeSmith_148 : decode cX8_makeSmith 148 = .ok (.iload_n 3, 1) := by decide +kernel
theorem dX8_makeSmith_149 : decode cX8_makeSmith 149 = .ok (.aload_n 0, 1) := by decide +kernel
theorem dX8_makeSmith_150 : decode cX8_makeSmith 150 = .ok (.getfield 32, 3) := by decide +kernel
theorem dX8_makeSmith_153 : decode cX8_makeSmith 153 = .ok (.iload_n 3, 1) := by decide +kernel
theorem dX8_makeSmith_154 : decode cX8_makeSmith 154 = .ok (.iaload, 1) := by decide +kernel
theorem dX8_makeSmith_155 : decode cX8_makeSmith 155 = .ok (.iastore, 1) := by decide +kernel
theorem dX8_makeSmith_156 : decode cX8_makeSmith 156 = .ok (.iinc 3 1, 3) := by decide +kernel
theorem dX8_makeSmith_159 : decode cX8_makeSmith 159 = .ok (.goto (-22), 3) := by decide +kernel
theorem dX8_makeSmith_162 : decode cX8_makeSmith 162 = .ok (.aload_n 0, 1) := by decide +kernel
theorem dX8_makeSmith_163 : decode cX8_makeSmith 163 = .ok (.aload_n 0, 1) := by decide +kernel
theorem dX8_makeSmith_164 : decode cX8_makeSmith 164 = .ok (.getfield 35, 3) := by decide +kernel
theorem dX8_makeSmith_167 : decode cX8_makeSmith 167 = .ok (.aload_n 0, 1) := by decide +kernel
theorem dX8_makeSmith_168 : decode cX8_makeSmith 168 = .ok (.getfield 41, 3) := by decide +kernel
theorem dX8_makeSmith_171 : decode cX8_makeSmith 171 = .ok (.invokevirtual 133, 3) := by decide +kernel
theorem dX8_makeSmith_174 : decode cX8_makeSmith 174 = .ok (.aload_n 0, 1) := by decide +kernel
theorem dX8_makeSmith_175 : decode cX8_makeSmith 175 = .ok (.iconst 1, 1) := by decide +kernel
theorem dX8_makeSmith_176 : decode cX8_makeSmith 176 = .ok (.iload_n 2, 1) := by decide +kernel
theorem dX8_makeSmith_177 : decode cX8_makeSmith 177 = .ok (.iconst 1, 1) := by decide +kernel
theorem dX8_makeSmith_178 : decode cX8_makeSmith 178 = .ok (.isub, 1) := by decide +kernel
theorem dX8_makeSmith_179 : decode cX8_makeSmith 179 = .ok (.iload_n 2, 1) := by decide +kernel
theorem dX8_makeSmith_180 : decode cX8_makeSmith 180 = .ok (.iconst 1, 1) := by decide +kernel
theorem dX8_makeSmith_181 : decode cX8_makeSmith 181 = .ok (.isub, 1) := by decide +kernel
theorem dX8_makeSmith_182 : decode cX8_makeSmith 182 = .ok (.aload_n 0, 1) := by decide +kernel
theorem dX8_makeSmith_183 : decode cX8_makeSmith 183 = .ok (.getfield 38, 3) := by decide +kernel
theorem dX8_makeSmith_186 : decode cX8_makeSmith 186 = .ok (.invokevirtual 158, 3) := by decide +kernel
theorem dX8_makeSmith_189 : decode cX8_makeSmith 189 = .ok (.iconst 0, 1) := by decide +kernel
theorem dX8_makeSmith_190 : decode cX8_makeSmith 190 = .ok (.istore_n 3, 1) := by decide +kernel
theorem dX8_makeSmith_191 : decode cX8_makeSmith 191 = .ok (.iload_n 3, 1) := by decide +kernel
theorem dX8_makeSmith_192 : decode cX8_makeSmith 192 = .ok (.sipush 256, 3) := by decide +kernel
theorem dX8_makeSmith_195 : decode cX8_makeSmith 195 = .ok (.if_icmp .ge 21, 3) := by decide +kernel
theorem dX8_makeSmith_198 : decode cX8_makeSmith 198 = .ok (.aload_n 0, 1) := by decide +kernel
theorem dX8_makeSmith_199 : decode cX8_makeSmith 199 = .ok (.getfield 41, 3) := by decide +kernel
theorem dX8_makeSmith_202 : decode cX8_makeSmith 202 = .ok (.iload_n 3, 1) := by decide +kernel
theorem dX8_makeSmith_203 : decode cX8_makeSmith 203 = .ok (.aload_n 0, 1) := by decide +kernel
theorem dX8_makeSmith_204 : decode cX8_makeSmith 204 = .ok (.getfield 32, 3) := by decide +kernel
theorem dX8_makeSmith_207 : decode cX8_makeSmith 207 = .ok (.iload_n 3, 1) := by decide +kernel
theorem dX8_makeSmith_208 : decode cX8_makeSmith 208 = .ok (.iaload, 1) := by decide +kernel
theorem dX8_makeSmith_209 : decode cX8_makeSmith 209 = .ok (.iastore, 1) := by decide +kernel
theorem dX8_makeSmith_210 : decode cX8_makeSmith 210 = .ok (.iinc 3 1, 3) := by decide +kernel
theorem dX8_makeSmith_213 : decode cX8_makeSmith 213 = .ok (.goto (-22), 3) := by decide +kernel
theorem dX8_makeSmith_216 : decode cX8_makeSmith 216 = .ok (.iinc 2 1, 3) := by decide +kernel
theorem dX8_makeSmith_219 : decode cX8_makeSmith 219 = .ok (.goto (-198), 3) := by decide +kernel
theorem dX8_makeSmith_222 : decode cX8_makeSmith 222 = .ok (.return_, 1) := by decide +kernel
set_option maxRecDepth 20000 in
theorem ggX8_makeInverse_X8_whole : GoodIn wsX8_makeInverse wsX8_whole := goodIn_r _ [8, 2, 24, 25, 26, 27, 28, 29, 30, 31, 32, 33, 34, 35, 36, 37, 38, 39, 40, 41, 42, 43, 44] (by decide +kernel) (by decide +kernel)
set_option maxRecDepth 20000 in
theorem gX8_makeInverse_X8_whole : GoodIn wsX8_makeInverse (wsV RX8 119 RX8 yX8_whole wsX8_whole) := goodIn_app (goodIn_of _ (by decide +kernel)) ggX8_makeInverse_X8_whole
set_option maxRecDepth 20000 in
theorem ggX8_makeInverse_X8_inverse : GoodIn wsX8_makeInverse wsX8_inverse := goodIn_r _ [11, 12] (by decide +kernel) (by decide +kernel)
set_option maxRecDepth 20000 in
theorem gX8_makeInverse_X8_inverse : GoodIn wsX8_makeInverse (va_wsS RX8 126 yX8_inverse wsX8_inverse) := goodIn_app (goodIn_of _ (by decide +kernel)) ggX8_makeInverse_X8_inverse
set_option maxRecDepth 20000 in
theorem ggX8_makeInverse_X8_empty : GoodIn wsX8_makeInverse wsX8_empty := goodIn_r _ [15] (by decide +kernel) (by decide +kernel)
set_option maxRecDepth 20000 in
theorem gX8_makeInverse_X8_empty : GoodIn wsX8_makeInverse (va_wsS RX8 129 yX8_empty wsX8_empty) := goodIn_app (goodIn_of _ (by decide +kernel)) ggX8_makeInverse_X8_empty
set_option maxRecDepth 20000 in
theorem ggX8_makeInverse_X8_modulo : GoodIn wsX8_makeInverse wsX8_modulo := goodIn_r _ [18, 12] (by decide +kernel) (by decide +kernel)
set_option maxRecDepth 20000 in
theorem gX8_makeInverse_X8_modulo : GoodIn wsX8_makeInverse (va_wsS RX8 87 yX8_modulo wsX8_modulo) := goodIn_app (goodIn_of _ (by decide +kernel)) ggX8_makeInverse_X8_modulo
set_option maxRecDepth 20000 in
theorem ggX8_makeInverse_X8_put0 : GoodIn wsX8_makeInverse wsX8_put0 := goodIn_r _ [22, 23, 24, 25, 26, 27, 28, 29, 30, 31, 32, 33, 34, 35, 36, 37, 38, 39, 40, 41, 42, 43, 44] (by decide +kernel) (by decide +kernel)
set_option maxRecDepth 20000 in
theorem gX8_makeInverse_X8_put0 : GoodIn wsX8_makeInverse (wsV RX8 158 RX8 yX8_put0 wsX8_put0) := goodIn_app (goodIn_of _ (by decide +kernel)) ggX8_makeInverse_X8_put0
theorem dX8_makeInverse_0 : decode cX8_makeInverse 0 = .ok (.aload_n 0, 1) := by decide +kernel
theorem dX8_makeInverse_1 : decode cX8_makeInverse 1 = .ok (.invokevirtual 119, 3) := by decide +kernel
theorem dX8_makeInverse_4 : decode cX8_makeInverse 4 = .ok (.istore_n 1, 1) := by decide +kernel
theorem dX8_makeInverse_5 : decode cX8_makeInverse 5 = .ok (.aload_n 0, 1) := by decide +kernel
theorem dX8_makeInverse_6 : decode cX8_makeInverse 6 = .ok (.getfield 20, 3) := by decide +kernel
theorem dX8_makeInverse_9 : decode cX8_makeInverse 9 = .ok (.iload_n 1, 1) := by decide +kernel
theorem dX8_makeInverse_10 : decode cX8_makeInverse 10 = .ok (.iaload, 1) := by decide +kernel
theorem dX8_makeInverse_11 : decode cX8_makeInverse 11 = .ok (.ifCond .eq 7, 3) := by decide +kernel
theorem dX8_makeInverse_14 : decode cX8_makeInverse 14 = .ok (.iconst 1, 1) := by decide +kernel
theorem dX8_makeInverse_15 : decode cX8_makeInverse 15 = .ok (.goto 4, 3) := by decide +kernel
theorem dX8_makeInverse_18 : decode cX8_makeInverse 18 = .ok (.iconst 0, 1) := by decide +kernel
theorem dX8_makeInverse_19 : decode cX8_makeInverse 19 = .ok (.istore_n 2, 1) := by decide +kernel
theorem dX8_makeInverse_20 : decode cX8_makeInverse 20 = .ok (.iconst 1, 1) := by decide +kernel
theorem dX8_makeInverse_21 : decode cX8_makeInverse 21 = .ok (.istore_n 3, 1) := by decide +kernel
theorem dX8_makeInverse_22 : decode cX8_makeInverse 22 = .ok (.iload_n 3, 1) := by decide +kernel
theorem dX8_makeInverse_23 : decode cX8_makeInverse 23 = .ok (.bipush 13, 2) := by decide +kernel
theorem dX8_makeInverse_25 : decode cX8_makeInverse 25 = .ok (.if_icmp .ge 30, 3) := by decide +kernel
theorem dX8_makeInverse_28 : decode cX8_makeInverse 28 = .ok (.iload_n 2, 1) := by decide +kernel
theorem dX8_makeInverse_29 : decode cX8_makeInverse 29 = .ok (.ifCond .eq 18, 3) := by decide +kernel
theorem dX8_makeInverse_32 : decode cX8_makeInverse 32 = .ok (.aload_n 0, 1) := by decide +kernel
theorem dX8_makeInverse_33 : decode cX8_makeInverse 33 = .ok (.getfield 20, 3) := by decide +kernel
theorem dX8_makeInverse_36 : decode cX8_makeInverse 36 = .ok (.iload_n 1, 1) := by decide +kernel
theorem dX8_makeInverse_37 : decode cX8_makeInverse 37 = .ok (.iload_n 3, 1) := by decide +kernel
theorem dX8_makeInverse_38 : decode cX8_makeInverse 38 = .ok (.iadd, 1) := by decide +kernel
theorem dX8_makeInverse_39 : decode cX8_makeInverse 39 = .ok (.iaload, 1) := by decide +kernel
theorem dX8_makeInverse_40 : decode cX8_makeInverse 40 = .ok (.ifCond .ne 7, 3) := by decide +kernel
theorem dX8_makeInverse_43 : decode cX8_makeInverse 43 = .ok (.iconst 1, 1) := by decide +kernel
theorem dX8_makeInverse_44 : decode cX8_makeInverse 44 = .ok (.goto 4, 3) := by decide +kernel
theorem dX8_makeInverse_47 : decode cX8_makeInverse 47 = .ok (.iconst 0, 1) := by decide +kernel
theorem dX8_makeInverse_48 : decode cX8_makeInverse 48 = .ok (.istore_n 2, 1) := by decide +kernel
theorem dX8_makeInverse_49 : decode cX8_makeInverse 49 = .ok (.iinc 3 1, 3) := by decide +kernel
theorem dX8_makeInverse_52 : decode cX8_makeInverse 52 = .ok (.goto (-30), 3) := by decide +kernel
theorem dX8_makeInverse_55 : decode cX8_makeInverse 55 = .ok (.iload_n 2, 1) := by decide +kernel
theorem dX8_makeInverse_56 : decode cX8_makeInverse 56 = .ok (.ifCond .ne 5, 3) := by decide +kernel
theorem dX8_makeInverse_59 : decode cX8_makeInverse 59 = .ok (.iconst 0, 1) := by decide +kernel
theorem dX8_makeInverse_60 : decode cX8_makeInverse 60 = .ok (.ireturn, 1) := by decide +kernel
theorem dX8_makeInverse_61 : decode cX8_makeInverse 61 = .ok (.aload_n 0, 1) := by decide +kernel
theorem dX8_makeInverse_62 : decode cX8_makeInverse 62 = .ok (.getfield 20, 3) := by decide +kernel
theorem dX8_makeInverse_65 : decode cX8_makeInverse 65 = .ok (.iload_n 1, 1) := by decide +kernel
theorem dX8_makeInverse_66 : decode cX8_makeInverse 66 = .ok (.iaload, 1) := by decide +kernel
theorem dX8_makeInverse_67 : decode cX8_makeInverse 67 = .ok (.invokestatic 126, 3) := by decide +kernel
theorem dX8_makeInverse_70 : decode cX8_makeInverse 70 = .ok (.i2l, 1) := by decide +kernel
theorem dX8_makeInverse_71 : decode cX8_makeInverse 71 = .ok (.lstore_n 3, 1) := by decide +kernel
theorem dX8_makeInverse_72 : decode cX8_makeInverse 72 = .ok (.iconst 1, 1) := by decide +kernel
theorem dX8_makeInverse_73 : decode cX8_makeInverse 73 = .ok (.aload_n 0, 1) := by decide +kernel
theorem dX8_makeInverse_74 : decode cX8_makeInverse 74 = .ok (.getfield 71, 3) := by decide +kernel
theorem dX8_makeInverse_77 : decode cX8_makeInverse 77 = .ok (.ishl, 1) := by decide +kernel
theorem dX8_makeInverse_78 : decode cX8_makeInverse 78 = .ok (.iconst 1, 1) := by decide +kernel
theorem dX8_makeInverse_79 : decode cX8_makeInverse 79 = .ok (.isub, 1) := by decide +kernel
theorem dX8_makeInverse_80 : decode cX8_makeInverse 80 = .ok (.istore 5, 2) := by decide +kernel
theorem dX8_makeInverse_82 : decode cX8_makeInverse 82 = .ok (.iconst 0, 1) := by decide +kernel
theorem dX8_makeInverse_83 : decode cX8_makeInverse 83 = .ok (.istore 6, 2) := by decide +kernel
theorem dX8_makeInverse_85 : decode cX8_makeInverse 85 = .ok (.iload 6, 2) := by decide +kernel
theorem dX8_makeInverse_87 : decode cX8_makeInverse 87 = .ok (.aload_n 0, 1) := by decide +kernel
theorem dX8_makeInverse_88 : decode cX8_makeInverse 88 = .ok (.getfield 71, 3) := by decide +kernel
theorem dX8_makeInverse_91 : decode cX8_makeInverse 91 = .ok (.if_icmp .ge 136, 3) := by decide +kernel
theorem dX8_makeInverse_94 : decode cX8_makeInverse 94 = .ok (.iconst 0, 1) := by decide +kernel
theorem dX8_makeInverse_95 : decode cX8_makeInverse 95 = .ok (.istore 7, 2) := by decide +kernel
theorem dX8_makeInverse_97 : decode cX8_makeInverse 97 = .ok (.iload 7, 2) := by decide +kernel
theorem dX8_makeInverse_99 : decode cX8_makeInverse 99 = .ok (.aload_n 0, 1) := by decide +kernel
theorem dX8_makeInverse_100 : decode cX8_makeInverse 100 = .ok (.getfield 71, 3) := by decide +kernel
theorem dX8_makeInverse_103 : decode cX8_makeInverse 103 = .ok (.if_icmp .ge 118, 3) := by decide +kernel
theorem dX8_makeInverse_106 : decode cX8_makeInverse 106 = .ok (.bipush 13, 2) := by decide +kernel
theorem dX8_makeInverse_108 : decode cX8_makeInverse 108 = .ok (.bipush 16, 2) := by decide +kernel
theorem dX8_makeInverse_110 : decode cX8_makeInverse 110 = .ok (.iload 5, 2) := by decide +kernel
theorem dX8_makeInverse_112 : decode cX8_makeInverse 112 = .ok (.iconst 1, 1) := by decide +kernel
theorem dX8_makeInverse_113 : decode cX8_makeInverse 113 = .ok (.iload 7, 2) := by decide +kernel
theorem dX8_makeInverse_115 : decode cX8_makeInverse 115 = .ok (.ishl, 1) := by decide +kernel
theorem dX8_makeInverse_116 : decode cX8_makeInverse 116 = .ok (.isub, 1) := by decide +kernel
theorem dX8_makeInverse_117 : decode cX8_makeInverse 117 = .ok (.imul, 1) := by decide +kernel
theorem dX8_makeInverse_118 : decode cX8_makeInverse 118 = .ok (.iload 5, 2) := by decide +kernel
theorem dX8_makeInverse_120 : decode cX8_makeInverse 120 = .ok (.iadd, 1) := by decide +kernel
theorem dX8_makeInverse_121 : decode cX8_makeInverse 121 = .ok (.iconst 1, 1) := by decide +kernel
theorem dX8_makeInverse_122 : decode cX8_makeInverse 122 = .ok (.iload 6, 2) := by decide +kernel
theorem dX8_makeInverse_124 : decode cX8_makeInverse 124 = .ok (.ishl, 1) := by decide +kernel
theorem dX8_makeInverse_125 : decode cX8_makeInverse 125 = .ok (.isub, 1) := by decide +kernel
theorem dX8_makeInverse_126 : decode cX8_makeInverse 126 = .ok (.imul, 1) := by decide +kernel
theorem dX8_makeInverse_127 : decode cX8_makeInverse 127 = .ok (.istore 8, 2) := by decide +kernel
theorem dX8_makeInverse_129 : decode cX8_makeInverse 129 = .ok (.aload_n 0, 1) := by decide +kernel
theorem dX8_makeInverse_130 : decode cX8_makeInverse 130 = .ok (.getfield 32, 3) := by decide +kernel
theorem dX8_makeInverse_133 : decode cX8_makeInverse 133 = .ok (.invokestatic 129, 3) := by decide +kernel
theorem dX8_makeInverse_136 : decode cX8_makeInverse 136 = .ok (.iconst 0, 1) := by decide +kernel
theorem dX8_makeInverse_137 : decode cX8_makeInverse 137 = .ok (.istore 9, 2) := by decide +kernel
theorem dX8_makeInverse_139 : decode cX8_makeInverse 139 = .ok (.iload 9, 2) := by decide +kernel
theorem dX8_makeInverse_141 : decode cX8_makeInverse 141 = .ok (.bipush 13, 2) := by decide +kernel
theorem dX8_makeInverse_143 : decode cX8_makeInverse 143 = .ok (.if_icmp .ge 59, 3) := by decide +kernel
theorem dX8_makeInverse_146 : decode cX8_makeInverse 146 = .ok (.aload_n 0, 1) := by decide +kernel
theorem dX8_makeInverse_147 : decode cX8_makeInverse 147 = .ok (.getfield 32, 3) := by decide +kernel
theorem dX8_makeInverse_150 : decode cX8_makeInverse 150 = .ok (.iload 9, 2) := by decide +kernel
theorem dX8_makeInverse_152 : decode cX8_makeInverse 152 = .ok (.iload 6, 2) := by decide +kernel
theorem dX8_makeInverse_154 : decode cX8_makeInverse 154 = .ok (.iload 7, 2) := by decide +kernel
theorem dX8_makeInverse_156 : decode cX8_makeInverse 156 = .ok (.iadd, 1) := by decide +kernel
theorem dX8_makeInverse_157 : decode cX8_makeInverse 157 = .ok (.iconst 2, 1) := by decide +kernel
theorem dX8_makeInverse_158 : decode cX8_makeInverse 158 = .ok (.irem, 1) := by decide +kernel
theorem dX8_makeInverse_159 : decode cX8_makeInverse 159 = .ok (.ifCond .ne 19, 3) := by decide +kernel
theorem dX8_makeInverse_162 : decode cX8_makeInverse 162 = .ok (.aload_n 0, 1) := by decide +kernel
theorem dX8_makeInverse_163 : decode cX8_makeInverse 163 = .ok (.getfield 20, 3) := by decide +kernel
theorem dX8_makeInverse_166 : decode cX8_makeInverse 166 = .ok (.iload 8, 2) := by decide +kernel
theorem dX8_makeInverse_168 : decode cX8_makeInverse 168 = .ok (.iload 9, 2) := by decide +kernel
theorem dX8_makeInverse_170 : decode cX8_makeInverse 170 = .ok (.iadd, 1) := by decide +kernel
theorem dX8_makeInverse_171 : decode cX8_makeInverse 171 = .ok (.iaload, 1) := by decide +kernel
theorem dX8_makeInverse_172 : decode cX8_makeInverse 172 = .ok (.i2l, 1) := by decide +kernel
theorem dX8_makeInverse_173 : decode cX8_makeInverse 173 = .ok (.lload_n 3, 1) := by decide +kernel
theorem dX8_makeInverse_174 : decode cX8_makeInverse 174 = .ok (.lmul, 1) := by decide +kernel
theorem dX8_makeInverse_175 : decode cX8_makeInverse 175 = .ok (.goto 17, 3) := by decide +kernel
theorem dX8_makeInverse_178 : decode cX8_makeInverse 178 = .ok (.aload_n 0, 1) := by decide +kernel
theorem dX8_makeInverse_179 : decode cX8_makeInverse 179 = .ok (.getfield 20, 3) := by decide +kernel
theorem dX8_makeInverse_182 : decode cX8_makeInverse 182 = .ok (.iload 8, 2) := by decide +kernel
theorem dX8_makeInverse_184 : decode cX8_makeInverse 184 = .ok (.iload 9, 2) := by decide +kernel
theorem dX8_makeInverse_186 : decode cX8_makeInverse 186 = .ok (.iadd, 1) := by decide +kernel
theorem dX8_makeInverse_187 : decode cX8_makeInverse 187 = .ok (.iaload, 1) := by decide +kernel
theorem dX8_makeInverse_188 : decode cX8_makeInverse 188 = .ok (.ineg, 1) := by decide +kernel
theorem dX8_makeInverse_189 : decode cX8_makeInverse 189 = .ok (.i2l, 1) := by decide +kernel
theorem dX8_makeInverse_190 : decode cX8_makeInverse 190 = .ok (.lload_n 3, 1) := by decide +kernel
theorem dX8_makeInverse_191 : decode cX8_makeInverse 191 = .ok (.lmul, 1) := by decide +kernel
theorem dX8_makeInverse_192 : decode cX8_makeInverse 192 = .ok (.invokestatic 87, 3) := by decide +kernel
theorem dX8_makeInverse_195 : decode cX8_makeInverse 195 = .ok (.iastore, 1) := by decide +kernel
theorem dX8_makeInverse_196 : decode cX8_makeInverse 196 = .ok (.iinc 9 1, 3) := by decide +kernel
theorem dX8_makeInverse_199 : decode cX8_makeInverse 199 = .ok (.goto (-60), 3) := by decide +kernel
theorem dX8_makeInverse_202 : decode cX8_makeInverse 202 = .ok (.aload_n 0, 1) := by decide +kernel
theorem dX8_makeInverse_203 : decode cX8_makeInverse 203 = .ok (.iconst 2, 1) := by decide +kernel
theorem dX8_makeInverse_204 : decode cX8_makeInverse 204 = .ok (.iload 6, 2) := by decide +kernel
theorem dX8_makeInverse_206 : decode cX8_makeInverse 206 = .ok (.iload 7, 2) := by decide +kernel
theorem dX8_makeInverse_208 : decode cX8_makeInverse 208 = .ok (.aload_n 0, 1) := by decide +kernel
theorem dX8_makeInverse_209 : decode cX8_makeInverse 209 = .ok (.getfield 32, 3) := by decide +kernel
theorem dX8_makeInverse_212 : decode cX8_makeInverse 212 = .ok (.invokevirtual 158, 3) := by decide +kernel
theorem dX8_makeInverse_215 : decode cX8_makeInverse 215 = .ok (.iinc 7 1, 3) := by decide +kernel
theorem dX8_makeInverse_218 : decode cX8_makeInverse 218 = .ok (.goto (-121), 3) := by decide +kernel
theorem dX8_makeInverse_221 : decode cX8_makeInverse 221 = .ok (.iinc 6 1, 3) := by decide +kernel
theorem dX8_makeInverse_224 : decode cX8_makeInverse 224 = .ok (.goto (-139), 3) := by decide +kernel
theorem dX8_makeInverse_227 : decode cX8_makeInverse 227 = .ok (.iconst 1, 1) := by decide +kernel
theorem dX8_makeInverse_228 : decode cX8_makeInverse 228 = .ok (.ireturn, 1) := by decide +kernel
theorem dX8_take_0 : decode cX8_take 0 = .ok (.iconst 0, 1) := by decide +kernel
theorem dX8_take_1 : decode cX8_take 1 = .ok (.istore 4, 2) := by decide +kernel
theorem dX8_take_3 : decode cX8_take 3 = .ok (.iload 4, 2) := by decide +kernel
theorem dX8_take_5 : decode cX8_take 5 = .ok (.sipush 256, 3) := by decide +kernel
theorem dX8_take_8 : decode cX8_take 8 = .ok (.if_icmp .ge 30, 3) := by decide +kernel
theorem dX8_take_11 : decode cX8_take 11 = .ok (.aload_n 1, 1) := by decide +kernel
theorem dX8_take_12 : decode cX8_take 12 = .ok (.iload 4, 2) := by decide +kernel
theorem dX8_take_14 : decode cX8_take 14 = .ok (.aload_n 0, 1) := by decide +kernel
theorem dX8_take_15 : decode cX8_take 15 = .ok (.getfield 26, 3) := by decide +kernel
theorem dX8_take_18 : decode cX8_take 18 = .ok (.sipush 256, 3) := by decide +kernel
theorem dX8_take_21 : decode cX8_take 21 = .ok (.iconst 4, 1) := by decide +kernel
theorem dX8_take_22 : decode cX8_take 22 = .ok (.iload_n 2, 1) := by decide +kernel
theorem dX8_take_23 : decode cX8_take 23 = .ok (.imul, 1) := by decide +kernel
theorem dX8_take_24 : decode cX8_take 24 = .ok (.iload_n 3, 1) := by decide +kernel
theorem dX8_take_25 : decode cX8_take 25 = .ok (.iadd, 1) := by decide +kernel
theorem dX8_take_26 : decode cX8_take 26 = .ok (.imul, 1) := by decide +kernel
theorem dX8_take_27 : decode cX8_take 27 = .ok (.iload 4, 2) := by decide +kernel
theorem dX8_take_29 : decode cX8_take 29 = .ok (.iadd, 1) := by decide +kernel
theorem dX8_take_30 : decode cX8_take 30 = .ok (.iaload, 1) := by decide +kernel
theorem dX8_take_31 : decode cX8_take 31 = .ok (.iastore, 1) := by decide +kernel
theorem dX8_take_32 : decode cX8_take 32 = .ok (.iinc 4 1, 3) := by decide +kernel
theorem dX8_take_35 : decode cX8_take 35 = .ok (.goto (-32), 3) := by decide +kernel
theorem dX8_take_38 : decode cX8_take 38 = .ok (.return_, 1) := by decide +kernel
theorem dX8_give_0 : decode cX8_give 0 = .ok (.iconst 0, 1) := by decide +kernel
theorem dX8_give_1 : decode cX8_give 1 = .ok (.istore 4, 2) := by decide +kernel
theorem dX8_give_3 : decode cX8_give 3 = .ok (.iload 4, 2) := by decide +kernel
theorem dX8_give_5 : decode cX8_give 5 = .ok (.sipush 256, 3) := by decide +kernel
theorem dX8_give_8 : decode cX8_give 8 = .ok (.if_icmp .ge 30, 3) := by decide +kernel
theorem dX8_give_11 : decode cX8_give 11 = .ok (.aload_n 0, 1) := by decide +kernel
theorem dX8_give_12 : decode cX8_give 12 = .ok (.getfield 26, 3) := by decide +kernel
theorem dX8_give_15 : decode cX8_give 15 = .ok (.sipush 256, 3) := by decide +kernel
theorem dX8_give_18 : decode cX8_give 18 = .ok (.iconst 4, 1) := by decide +kernel
theorem dX8_give_19 : decode cX8_give 19 = .ok (.iload_n 2, 1) := by decide +kernel
theorem dX8_give_20 : decode cX8_give 20 = .ok (.imul, 1) := by decide +kernel
theorem dX8_give_21 : decode cX8_give 21 = .ok (.iload_n 3, 1) := by decide +kernel
theorem dX8_give_22 : decode cX8_give 22 = .ok (.iadd, 1) := by decide +kernel
theorem dX8_give_23 : decode cX8_give 23 = .ok (.imul, 1) := by decide +kernel
theorem dX8_give_24 : decode cX8_give 24 = .ok (.iload 4, 2) := by decide +kernel
theorem dX8_give_26 : decode cX8_give 26 = .ok (.iadd, 1) := by decide +kernel
theorem dX8_give_27 : decode cX8_give 27 = .ok (.aload_n 1, 1) := by decide +kernel
theorem dX8_give_28 : decode cX8_give 28 = .ok (.iload 4, 2) := by decide +kernel
theorem dX8_give_30 : decode cX8_give 30 = .ok (.iaload, 1) := by decide +kernel
theorem dX8_give_31 : decode cX8_give 31 = .ok (.iastore, 1) := by decide +kernel
theorem dX8_give_32 : decode cX8_give 32 = .ok (.iinc 4 1, 3) := by decide +kernel
theorem dX8_give_35 : decode cX8_give 35 = .ok (.goto (-32), 3) := by decide +kernel
theorem dX8_give_38 : decode cX8_give 38 = .ok (.return_, 1) := by decide +kernel
set_option maxRecDepth 20000 in
theorem ggX8_takeOff_X8_high : GoodIn wsX8_takeOff wsX8_high := goodIn_r _ [6] (by decide +kernel) (by decide +kernel)
set_option maxRecDepth 20000 in
theorem gX8_takeOff_X8_high : GoodIn wsX8_takeOff (va_wsS RX8 122 yX8_high wsX8_high) := goodIn_app (goodIn_of _ (by decide +kernel)) ggX8_takeOff_X8_high
set_option maxRecDepth 20000 in
theorem ggX8_takeOff_X8_modulo : GoodIn wsX8_takeOff wsX8_modulo := goodIn_r _ [9, 10] (by decide +kernel) (by decide +kernel)
set_option maxRecDepth 20000 in
theorem gX8_takeOff_X8_modulo : GoodIn wsX8_takeOff (va_wsS RX8 87 yX8_modulo wsX8_modulo) := goodIn_app (goodIn_of _ (by decide +kernel)) ggX8_takeOff_X8_modulo
theorem dX8_takeOff_0 : decode cX8_takeOff 0 = .ok (.aload_n 0, 1) := by decide +kernel
theorem dX8_takeOff_1 : decode cX8_takeOff 1 = .ok (.getfield 38, 3) := by decide +kernel
theorem dX8_takeOff_4 : decode cX8_takeOff 4 = .ok (.invokestatic 122, 3) := by decide +kernel
theorem dX8_takeOff_7 : decode cX8_takeOff 7 = .ok (.istore_n 3, 1) := by decide +kernel
theorem dX8_takeOff_8 : decode cX8_takeOff 8 = .ok (.iconst 0, 1) := by decide +kernel
theorem dX8_takeOff_9 : decode cX8_takeOff 9 = .ok (.istore 4, 2) := by decide +kernel
theorem dX8_takeOff_11 : decode cX8_takeOff 11 = .ok (.iload 4, 2) := by decide +kernel
theorem dX8_takeOff_13 : decode cX8_takeOff 13 = .ok (.iconst 4, 1) := by decide +kernel
theorem dX8_takeOff_14 : decode cX8_takeOff 14 = .ok (.if_icmp .ge 143, 3) := by decide +kernel
theorem dX8_takeOff_17 : decode cX8_takeOff 17 = .ok (.sipush 256, 3) := by decide +kernel
theorem dX8_takeOff_20 : decode cX8_takeOff 20 = .ok (.iconst 4, 1) := by decide +kernel
theorem dX8_takeOff_21 : decode cX8_takeOff 21 = .ok (.iload_n 1, 1) := by decide +kernel
theorem dX8_takeOff_22 : decode cX8_takeOff 22 = .ok (.imul, 1) := by decide +kernel
theorem dX8_takeOff_23 : decode cX8_takeOff 23 = .ok (.iload 4, 2) := by decide +kernel
theorem dX8_takeOff_25 : decode cX8_takeOff 25 = .ok (.iadd, 1) := by decide +kernel
theorem dX8_takeOff_26 : decode cX8_takeOff 26 = .ok (.imul, 1) := by decide +kernel
theorem dX8_takeOff_27 : decode cX8_takeOff 27 = .ok (.istore 5, 2) := by decide +kernel
theorem dX8_takeOff_29 : decode cX8_takeOff 29 = .ok (.sipush 256, 3) := by decide +kernel
theorem dX8_takeOff_32 : decode cX8_takeOff 32 = .ok (.iconst 4, 1) := by decide +kernel
theorem dX8_takeOff_33 : decode cX8_takeOff 33 = .ok (.iload_n 2, 1) := by decide +kernel
theorem dX8_takeOff_34 : decode cX8_takeOff 34 = .ok (.imul, 1) := by decide +kernel
theorem dX8_takeOff_35 : decode cX8_takeOff 35 = .ok (.iload 4, 2) := by decide +kernel
theorem dX8_takeOff_37 : decode cX8_takeOff 37 = .ok (.iadd, 1) := by decide +kernel
theorem dX8_takeOff_38 : decode cX8_takeOff 38 = .ok (.imul, 1) := by decide +kernel
theorem dX8_takeOff_39 : decode cX8_takeOff 39 = .ok (.istore 6, 2) := by decide +kernel
theorem dX8_takeOff_41 : decode cX8_takeOff 41 = .ok (.iconst 0, 1) := by decide +kernel
theorem dX8_takeOff_42 : decode cX8_takeOff 42 = .ok (.istore 7, 2) := by decide +kernel
theorem dX8_takeOff_44 : decode cX8_takeOff 44 = .ok (.iload 7, 2) := by decide +kernel
theorem dX8_takeOff_46 : decode cX8_takeOff 46 = .ok (.iload_n 3, 1) := by decide +kernel
theorem dX8_takeOff_47 : decode cX8_takeOff 47 = .ok (.if_icmp .gt 104, 3) := by decide +kernel
theorem dX8_takeOff_50 : decode cX8_takeOff 50 = .ok (.aload_n 0, 1) := by decide +kernel
theorem dX8_takeOff_51 : decode cX8_takeOff 51 = .ok (.getfield 38, 3) := by decide +kernel
theorem dX8_takeOff_54 : decode cX8_takeOff 54 = .ok (.iload 7, 2) := by decide +kernel
theorem dX8_takeOff_56 : decode cX8_takeOff 56 = .ok (.iaload, 1) := by decide +kernel
theorem dX8_takeOff_57 : decode cX8_takeOff 57 = .ok (.i2l, 1) := by decide +kernel
theorem dX8_takeOff_58 : decode cX8_takeOff 58 = .ok (.lstore 8, 2) := by decide +kernel
theorem dX8_takeOff_60 : decode cX8_takeOff 60 = .ok (.iconst 0, 1) := by decide +kernel
theorem dX8_takeOff_61 : decode cX8_takeOff 61 = .ok (.istore 10, 2) := by decide +kernel
theorem dX8_takeOff_63 : decode cX8_takeOff 63 = .ok (.iload 10, 2) := by decide +kernel
theorem dX8_takeOff_65 : decode cX8_takeOff 65 = .ok (.iload 7, 2) := by decide +kernel
theorem dX8_takeOff_67 : decode cX8_takeOff 67 = .ok (.iadd, 1) := by decide +kernel
theorem dX8_takeOff_68 : decode cX8_takeOff 68 = .ok (.sipush 256, 3) := by decide +kernel
theorem dX8_takeOff_71 : decode cX8_takeOff 71 = .ok (.if_icmp .ge 74, 3) := by decide +kernel
theorem dX8_takeOff_74 : decode cX8_takeOff 74 = .ok (.lload 8, 2) := by decide +kernel
theorem dX8_takeOff_76 : decode cX8_takeOff 76 = .ok (.lconst 0, 1) := by decide +kernel
theorem dX8_takeOff_77 : decode cX8_takeOff 77 = .ok (.lcmp, 1) := by decide +kernel
theorem dX8_takeOff_78 : decode cX8_takeOff 78 = .ok (.ifCond .le 67, 3) := by decide +kernel
theorem dX8_takeOff_81 : decode cX8_takeOff 81 = .ok (.aload_n 0, 1) := by decide +kernel
theorem dX8_takeOff_82 : decode cX8_takeOff 82 = .ok (.getfield 26, 3) := by decide +kernel
theorem dX8_takeOff_85 : decode cX8_takeOff 85 = .ok (.iload 6, 2) := by decide +kernel
theorem dX8_takeOff_87 : decode cX8_takeOff 87 = .ok (.iload 10, 2) := by decide +kernel
theorem dX8_takeOff_89 : decode cX8_takeOff 89 = .ok (.iadd, 1) := by decide +kernel
theorem dX8_takeOff_90 : decode cX8_takeOff 90 = .ok (.iaload, 1) := by decide +kernel
theorem dX8_takeOff_91 : decode cX8_takeOff 91 = .ok (.ifCond .eq 48, 3) := by decide +kernel
theorem dX8_takeOff_94 : decode cX8_takeOff 94 = .ok (.aload_n 0, 1) := by decide +kernel
theorem dX8_takeOff_95 : decode cX8_takeOff 95 = .ok (.getfield 26, 3) := by decide +kernel
theorem dX8_takeOff_98 : decode cX8_takeOff 98 = .ok (.iload 5, 2) := by decide +kernel
theorem dX8_takeOff_100 : decode cX8_takeOff 100 = .ok (.iload 10, 2) := by decide +kernel
theorem dX8_takeOff_102 : decode cX8_takeOff 102 = .ok (.iadd, 1) := by decide +kernel
theorem dX8_takeOff_103 : decode cX8_takeOff 103 = .ok (.iload 7, 2) := by decide +kernel
theorem dX8_takeOff_105 : decode cX8_takeOff 105 = .ok (.iadd, 1) := by decide +kernel
theorem dX8_takeOff_106 : decode cX8_takeOff 106 = .ok (.aload_n 0, 1) := by decide +kernel
theorem dX8_takeOff_107 : decode cX8_takeOff 107 = .ok (.getfield 26, 3) := by decide +kernel
theorem dX8_takeOff_110 : decode cX8_takeOff 110 = .ok (.iload 5, 2) := by decide +kernel
theorem dX8_takeOff_112 : decode cX8_takeOff 112 = .ok (.iload 10, 2) := by decide +kernel
theorem dX8_takeOff_114 : decode cX8_takeOff 114 = .ok (.iadd, 1) := by decide +kernel
theorem dX8_takeOff_115 : decode cX8_takeOff 115 = .ok (.iload 7, 2) := by decide +kernel
theorem dX8_takeOff_117 : decode cX8_takeOff 117 = .ok (.iadd, 1) := by decide +kernel
theorem dX8_takeOff_118 : decode cX8_takeOff 118 = .ok (.iaload, 1) := by decide +kernel
theorem dX8_takeOff_119 : decode cX8_takeOff 119 = .ok (.i2l, 1) := by decide +kernel
theorem dX8_takeOff_120 : decode cX8_takeOff 120 = .ok (.lload 8, 2) := by decide +kernel
theorem dX8_takeOff_122 : decode cX8_takeOff 122 = .ok (.aload_n 0, 1) := by decide +kernel
theorem dX8_takeOff_123 : decode cX8_takeOff 123 = .ok (.getfield 26, 3) := by decide +kernel
theorem dX8_takeOff_126 : decode cX8_takeOff 126 = .ok (.iload 6, 2) := by decide +kernel
theorem dX8_takeOff_128 : decode cX8_takeOff 128 = .ok (.iload 10, 2) := by decide +kernel
theorem dX8_takeOff_130 : decode cX8_takeOff 130 = .ok (.iadd, 1) := by decide +kernel
theorem dX8_takeOff_131 : decode cX8_takeOff 131 = .ok (.iaload, 1) := by decide +kernel
theorem dX8_takeOff_132 : decode cX8_takeOff 132 = .ok (.i2l, 1) := by decide +kernel
theorem dX8_takeOff_133 : decode cX8_takeOff 133 = .ok (.lmul, 1) := by decide +kernel
theorem dX8_takeOff_134 : decode cX8_takeOff 134 = .ok (.lsub, 1) := by decide +kernel
theorem dX8_takeOff_135 : decode cX8_takeOff 135 = .ok (.invokestatic 87, 3) := by decide +kernel
theorem dX8_takeOff_138 : decode cX8_takeOff 138 = .ok (.iastore, 1) := by decide +kernel
theorem dX8_takeOff_139 : decode cX8_takeOff 139 = .ok (.iinc 10 1, 3) := by decide +kernel
theorem dX8_takeOff_142 : decode cX8_takeOff 142 = .ok (.goto (-79), 3) := by decide +kernel
theorem dX8_takeOff_145 : decode cX8_takeOff 145 = .ok (.iinc 7 1, 3) := by decide +kernel
theorem dX8_takeOff_148 : decode cX8_takeOff 148 = .ok (.goto (-104), 3) := by decide +kernel
theorem dX8_takeOff_151 : decode cX8_takeOff 151 = .ok (.iinc 4 1, 3) := by decide +kernel
theorem dX8_takeOff_154 : decode cX8_takeOff 154 = .ok (.goto (-143), 3) := by decide +kernel
theorem dX8_takeOff_157 : decode cX8_takeOff 157 = .ok (.return_, 1) := by decide +kernel
theorem dX8_exchange_0 : decode cX8_exchange 0 = .ok (.iconst 0, 1) := by decide +kernel
theorem dX8_exchange_1 : decode cX8_exchange 1 = .ok (.istore_n 3, 1) := by decide +kernel
theorem dX8_exchange_2 : decode cX8_exchange 2 = .ok (.iload_n 3, 1) := by decide +kernel
theorem dX8_exchange_3 : decode cX8_exchange 3 = .ok (.sipush 1024, 3) := by decide +kernel
theorem dX8_exchange_6 : decode cX8_exchange 6 = .ok (.if_icmp .ge 61, 3) := by decide +kernel
theorem dX8_exchange_9 : decode cX8_exchange 9 = .ok (.aload_n 0, 1) := by decide +kernel
theorem dX8_exchange_10 : decode cX8_exchange 10 = .ok (.getfield 26, 3) := by decide +kernel
theorem dX8_exchange_13 : decode cX8_exchange 13 = .ok (.sipush 1024, 3) := by decide +kernel
theorem dX8_exchange_16 : decode cX8_exchange 16 = .ok (.iload_n 1, 1) := by decide +kernel
theorem dX8_exchange_17 : decode cX8_exchange 17 = .ok (.imul, 1) := by decide +kernel
theorem dX8_exchange_18 : decode cX8_exchange 18 = .ok (.iload_n 3, 1) := by decide +kernel
theorem dX8_exchange_19 : decode cX8_exchange 19 = .ok (.iadd, 1) := by decide +kernel
theorem dX8_exchange_20 : decode cX8_exchange 20 = .ok (.iaload, 1) := by decide +kernel
theorem dX8_exchange_21 : decode cX8_exchange 21 = .ok (.istore 4, 2) := by decide +kernel
theorem dX8_exchange_23 : decode cX8_exchange 23 = .ok (.aload_n 0, 1) := by decide +kernel
theorem dX8_exchange_24 : decode cX8_exchange 24 = .ok (.getfield 26, 3) := by decide +kernel
theorem dX8_exchange_27 : decode cX8_exchange 27 = .ok (.sipush 1024, 3) := by decide +kernel
theorem dX8_exchange_30 : decode cX8_exchange 30 = .ok (.iload_n 1, 1) := by decide +kernel
theorem dX8_exchange_31 : decode cX8_exchange 31 = .ok (.imul, 1) := by decide +kernel
theorem dX8_exchange_32 : decode cX8_exchange 32 = .ok (.iload_n 3, 1) := by decide +kernel
theorem dX8_exchange_33 : decode cX8_exchange 33 = .ok (.iadd, 1) := by decide +kernel
theorem dX8_exchange_34 : decode cX8_exchange 34 = .ok (.aload_n 0, 1) := by decide +kernel
theorem dX8_exchange_35 : decode cX8_exchange 35 = .ok (.getfield 26, 3) := by decide +kernel
theorem dX8_exchange_38 : decode cX8_exchange 38 = .ok (.sipush 1024, 3) := by decide +kernel
theorem dX8_exchange_41 : decode cX8_exchange 41 = .ok (.iload_n 2, 1) := by decide +kernel
theorem dX8_exchange_42 : decode cX8_exchange 42 = .ok (.imul, 1) := by decide +kernel
theorem dX8_exchange_43 : decode cX8_exchange 43 = .ok (.iload_n 3, 1) := by decide +kernel
theorem dX8_exchange_44 : decode cX8_exchange 44 = .ok (.iadd, 1) := by decide +kernel
theorem dX8_exchange_45 : decode cX8_exchange 45 = .ok (.iaload, 1) := by decide +kernel
theorem dX8_exchange_46 : decode cX8_exchange 46 = .ok (.iastore, 1) := by decide +kernel
theorem dX8_exchange_47 : decode cX8_exchange 47 = .ok (.aload_n 0, 1) := by decide +kernel
theorem dX8_exchange_48 : decode cX8_exchange 48 = .ok (.getfield 26, 3) := by decide +kernel
theorem dX8_exchange_51 : decode cX8_exchange 51 = .ok (.sipush 1024, 3) := by decide +kernel
theorem dX8_exchange_54 : decode cX8_exchange 54 = .ok (.iload_n 2, 1) := by decide +kernel
theorem dX8_exchange_55 : decode cX8_exchange 55 = .ok (.imul, 1) := by decide +kernel
theorem dX8_exchange_56 : decode cX8_exchange 56 = .ok (.iload_n 3, 1) := by decide +kernel
theorem dX8_exchange_57 : decode cX8_exchange 57 = .ok (.iadd, 1) := by decide +kernel
theorem dX8_exchange_58 : decode cX8_exchange 58 = .ok (.iload 4, 2) := by decide +kernel
theorem dX8_exchange_60 : decode cX8_exchange 60 = .ok (.iastore, 1) := by decide +kernel
theorem dX8_exchange_61 : decode cX8_exchange 61 = .ok (.iinc 3 1, 3) := by decide +kernel
theorem dX8_exchange_64 : decode cX8_exchange 64 = .ok (.goto (-62), 3) := by decide +kernel
theorem dX8_exchange_67 : decode cX8_exchange 67 = .ok (.return_, 1) := by decide +kernel
set_option maxRecDepth 20000 in
theorem ggX8_isNone_X8_take : GoodIn wsX8_isNone wsX8_take := goodIn_r _ [6, 7, 11, 12, 13, 14, 15, 16, 17, 18, 19, 20, 21, 22, 23, 24, 25, 26, 27, 28, 29, 30, 31] (by decide +kernel) (by decide +kernel)
set_option maxRecDepth 20000 in
theorem gX8_isNone_X8_take : GoodIn wsX8_isNone (wsV RX8 162 RX8 yX8_take wsX8_take) := goodIn_app (goodIn_of _ (by decide +kernel)) ggX8_isNone_X8_take
set_option maxRecDepth 20000 in
theorem ggX8_isNone_X8_high : GoodIn wsX8_isNone wsX8_high := goodIn_r _ [10] (by decide +kernel) (by decide +kernel)
set_option maxRecDepth 20000 in
theorem gX8_isNone_X8_high : GoodIn wsX8_isNone (va_wsS RX8 122 yX8_high wsX8_high) := goodIn_app (goodIn_of _ (by decide +kernel)) ggX8_isNone_X8_high
theorem dX8_isNone_0 : decode cX8_isNone 0 = .ok (.aload_n 0, 1) := by decide +kernel
theorem dX8_isNone_1 : decode cX8_isNone 1 = .ok (.aload_n 0, 1) := by decide +kernel
theorem dX8_isNone_2 : decode cX8_isNone 2 = .ok (.getfield 35, 3) := by decide +kernel
theorem dX8_isNone_5 : decode cX8_isNone 5 = .ok (.iload_n 1, 1) := by decide +kernel
theorem dX8_isNone_6 : decode cX8_isNone 6 = .ok (.iload_n 2, 1) := by decide +kernel
theorem dX8_isNone_7 : decode cX8_isNone 7 = .ok (.invokevirtual 162, 3) := by decide +kernel
theorem dX8_isNone_10 : decode cX8_isNone 10 = .ok (.aload_n 0, 1) := by decide +kernel
theorem dX8_isNone_11 : decode cX8_isNone 11 = .ok (.getfield 35, 3) := by decide +kernel
theorem dX8_isNone_14 : decode cX8_isNone 14 = .ok (.invokestatic 122, 3) := by decide +kernel
theorem dX8_isNone_17 : decode cX8_isNone 17 = .ok (.ifCond .ge 7, 3) := by decide +kernel
theorem dX8_isNone_20 : decode cX8_isNone 20 = .ok (.iconst 1, 1) := by decide +kernel
theorem dX8_isNone_21 : decode cX8_isNone 21 = .ok (.goto 4, 3) := by decide +kernel
theorem dX8_isNone_24 : decode cX8_isNone 24 = .ok (.iconst 0, 1) := by decide +kernel
theorem dX8_isNone_25 : decode cX8_isNone 25 = .ok (.ireturn, 1) := by decide +kernel
set_option maxRecDepth 20000 in
theorem ggX8_insert_X8_isNone : GoodIn wsX8_insert wsX8_isNone := goodIn_r _ [9, 4, 10, 11, 12, 8, 13, 14, 15, 16, 17, 49, 50, 51, 52, 53, 54, 55, 56, 57, 58, 59, 60, 61, 62, 63, 64, 65, 66, 67, 68, 69] (by decide +kernel) (by decide +kernel)
set_option maxRecDepth 20000 in
theorem gX8_insert_X8_isNone : GoodIn wsX8_insert (wsV RX8 166 RX8 yX8_isNone wsX8_isNone) := goodIn_app (goodIn_of _ (by decide +kernel)) ggX8_insert_X8_isNone
set_option maxRecDepth 20000 in
theorem ggX8_insert_X8_exchange : GoodIn wsX8_insert wsX8_exchange := goodIn_r _ [21, 14, 49, 50, 51, 52, 53, 54, 55, 56, 57, 58, 59, 60, 61, 62, 63, 64, 65, 66, 67, 68, 69] (by decide +kernel) (by decide +kernel)
set_option maxRecDepth 20000 in
theorem gX8_insert_X8_exchange : GoodIn wsX8_insert (wsV RX8 169 RX8 yX8_exchange wsX8_exchange) := goodIn_app (goodIn_of _ (by decide +kernel)) ggX8_insert_X8_exchange
set_option maxRecDepth 20000 in
theorem ggX8_insert_X8_settle : GoodIn wsX8_insert wsX8_settle := goodIn_r _ [25, 1, 2, 4, 14, 26, 10, 11, 12, 8, 13, 15, 16, 17, 27, 28, 29, 30, 31, 32, 33, 3, 34, 35, 36, 37, 38, 39, 40, 41, 42, 43, 44, 45, 46, 47, 48, 49, 50, 51, 52, 53, 54, 55, 56, 57, 58, 59, 60, 61, 62, 63, 64, 65, 66, 67, 68, 69] (by decide +kernel) (by decide +kernel)
set_option maxRecDepth 20000 in
theorem gX8_insert_X8_settle : GoodIn wsX8_insert (wsV RX8 172 RX8 yX8_settle wsX8_settle) := goodIn_app (goodIn_of _ (by decide +kernel)) ggX8_insert_X8_settle
set_option maxRecDepth 20000 in
theorem ggX8_insert_X8_take : GoodIn wsX8_insert wsX8_take := goodIn_r _ [13, 14, 49, 50, 51, 52, 53, 54, 55, 56, 57, 58, 59, 60, 61, 62, 63, 64, 65, 66, 67, 68, 69] (by decide +kernel) (by decide +kernel)
set_option maxRecDepth 20000 in
theorem gX8_insert_X8_take : GoodIn wsX8_insert (wsV RX8 162 RX8 yX8_take wsX8_take) := goodIn_app (goodIn_of _ (by decide +kernel)) ggX8_insert_X8_take
set_option maxRecDepth 20000 in
theorem ggX8_insert_X8_divide : GoodIn wsX8_insert wsX8_divide := goodIn_r _ [37, 38, 26, 15, 16, 8, 17, 27, 28, 29, 39, 40, 41, 42, 43, 44, 49, 50, 51, 52, 53, 54, 55, 56, 57, 58, 59, 60, 61, 62, 63, 64, 65, 66, 67, 68, 69] (by decide +kernel) (by decide +kernel)
set_option maxRecDepth 20000 in
theorem gX8_insert_X8_divide : GoodIn wsX8_insert (wsV RX8 133 RX8 yX8_divide wsX8_divide) := goodIn_app (goodIn_of _ (by decide +kernel)) ggX8_insert_X8_divide
set_option maxRecDepth 20000 in
theorem ggX8_insert_X8_takeOff : GoodIn wsX8_insert wsX8_takeOff := goodIn_r _ [48, 38, 14, 15, 16, 8, 17, 42, 43, 44, 26, 49, 50, 51, 52, 53, 54, 55, 56, 57, 58, 59, 60, 61, 62, 63, 64, 65, 66, 67, 68, 69] (by decide +kernel) (by decide +kernel)
set_option maxRecDepth 20000 in
theorem gX8_insert_X8_takeOff : GoodIn wsX8_insert (wsV RX8 175 RX8 yX8_takeOff wsX8_takeOff) := goodIn_app (goodIn_of _ (by decide +kernel)) ggX8_insert_X8_takeOff
theorem dX8_insert_0 : decode cX8_insert 0 = .ok (.iconst 0, 1) := by decide +kernel
theorem dX8_insert_1 : decode cX8_insert 1 = .ok (.istore_n 1, 1) := by decide +kernel
theorem dX8_insert_2 : decode cX8_insert 2 = .ok (.iload_n 1, 1) := by decide +kernel
theorem dX8_insert_3 : decode cX8_insert 3 = .ok (.aload_n 0, 1) := by decide +kernel
theorem dX8_insert_4 : decode cX8_insert 4 = .ok (.getfield 74, 3) := by decide +kernel
theorem dX8_insert_7 : decode cX8_insert 7 = .ok (.if_icmp .ge 111, 3) := by decide +kernel
theorem dX8_insert_10 : decode cX8_insert 10 = .ok (.aload_n 0, 1) := by decide +kernel
theorem dX8_insert_11 : decode cX8_insert 11 = .ok (.iconst 4, 1) := by decide +kernel
theorem dX8_insert_12 : decode cX8_insert 12 = .ok (.iload_n 1, 1) := by decide +kernel
theorem dX8_insert_13 : decode cX8_insert 13 = .ok (.invokevirtual 166, 3) := by decide +kernel
theorem dX8_insert_16 : decode cX8_insert 16 = .ok (.ifCond .eq 6, 3) := by decide +kernel
theorem dX8_insert_19 : decode cX8_insert 19 = .ok (.goto 93, 3) := by decide +kernel
theorem dX8_insert_22 : decode cX8_insert 22 = .ok (.aload_n 0, 1) := by decide +kernel
theorem dX8_insert_23 : decode cX8_insert 23 = .ok (.getfield 29, 3) := by decide +kernel
theorem dX8_insert_26 : decode cX8_insert 26 = .ok (.iload_n 1, 1) := by decide +kernel
theorem dX8_insert_27 : decode cX8_insert 27 = .ok (.iaload, 1) := by decide +kernel
theorem dX8_insert_28 : decode cX8_insert 28 = .ok (.istore_n 2, 1) := by decide +kernel
theorem dX8_insert_29 : decode cX8_insert 29 = .ok (.iload_n 2, 1) := by decide +kernel
theorem dX8_insert_30 : decode cX8_insert 30 = .ok (.iconst (-1), 1) := by decide +kernel
theorem dX8_insert_31 : decode cX8_insert 31 = .ok (.if_icmp .ne 21, 3) := by decide +kernel
theorem dX8_insert_34 : decode cX8_insert 34 = .ok (.aload_n 0, 1) := by decide +kernel
theorem dX8_insert_35 : decode cX8_insert 35 = .ok (.getfield 29, 3) := by decide +kernel
theorem dX8_insert_38 : decode cX8_insert 38 = .ok (.iload_n 1, 1) := by decide +kernel
theorem dX8_insert_39 : decode cX8_insert 39 = .ok (.iload_n 1, 1) := by decide +kernel
theorem dX8_insert_40 : decode cX8_insert 40 = .ok (.iastore, 1) := by decide +kernel
theorem dX8_insert_41 : decode cX8_insert 41 = .ok (.aload_n 0, 1) := by decide +kernel
theorem dX8_insert_42 : decode cX8_insert 42 = .ok (.iconst 4, 1) := by decide +kernel
theorem dX8_insert_43 : decode cX8_insert 43 = .ok (.iload_n 1, 1) := by decide +kernel
theorem dX8_insert_44 : decode cX8_insert 44 = .ok (.invokevirtual 169, 3) := by decide +kernel
theorem dX8_insert_47 : decode cX8_insert 47 = .ok (.aload_n 0, 1) := by decide +kernel
theorem dX8_insert_48 : decode cX8_insert 48 = .ok (.invokevirtual 172, 3) := by decide +kernel
theorem dX8_insert_51 : decode cX8_insert 51 = .ok (.return_, 1) := by decide +kernel
theorem dX8_insert_52 : decode cX8_insert 52 = .ok (.aload_n 0, 1) := by decide +kernel
theorem dX8_insert_53 : decode cX8_insert 53 = .ok (.iconst 4, 1) := by decide +kernel
theorem dX8_insert_54 : decode cX8_insert 54 = .ok (.iload_n 1, 1) := by decide +kernel
theorem dX8_insert_55 : decode cX8_insert 55 = .ok (.invokevirtual 166, 3) := by decide +kernel
theorem dX8_insert_58 : decode cX8_insert 58 = .ok (.ifCond .ne 50, 3) := by decide +kernel
theorem dX8_insert_61 : decode cX8_insert 61 = .ok (.aload_n 0, 1) := by decide +kernel
theorem dX8_insert_62 : decode cX8_insert 62 = .ok (.aload_n 0, 1) := by decide +kernel
theorem dX8_insert_63 : decode cX8_insert 63 = .ok (.getfield 32, 3) := by decide +kernel
theorem dX8_insert_66 : decode cX8_insert 66 = .ok (.iload_n 2, 1) := by decide +kernel
theorem dX8_insert_67 : decode cX8_insert 67 = .ok (.iload_n 1, 1) := by decide +kernel
theorem dX8_insert_68 : decode cX8_insert 68 = .ok (.invokevirtual 162, 3) := by decide +kernel
theorem dX8_insert_71 : decode cX8_insert 71 = .ok (.aload_n 0, 1) := by decide +kernel
theorem dX8_insert_72 : decode cX8_insert 72 = .ok (.aload_n 0, 1) := by decide +kernel
theorem dX8_insert_73 : decode cX8_insert 73 = .ok (.getfield 35, 3) := by decide +kernel
theorem dX8_insert_76 : decode cX8_insert 76 = .ok (.iconst 4, 1) := by decide +kernel
theorem dX8_insert_77 : decode cX8_insert 77 = .ok (.iload_n 1, 1) := by decide +kernel
theorem dX8_insert_78 : decode cX8_insert 78 = .ok (.invokevirtual 162, 3) := by decide +kernel
theorem dX8_insert_81 : decode cX8_insert 81 = .ok (.aload_n 0, 1) := by decide +kernel
theorem dX8_insert_82 : decode cX8_insert 82 = .ok (.aload_n 0, 1) := by decide +kernel
theorem dX8_insert_83 : decode cX8_insert 83 = .ok (.getfield 32, 3) := by decide +kernel
theorem dX8_insert_86 : decode cX8_insert 86 = .ok (.aload_n 0, 1) := by decide +kernel
theorem dX8_insert_87 : decode cX8_insert 87 = .ok (.getfield 35, 3) := by decide +kernel
theorem dX8_insert_90 : decode cX8_insert 90 = .ok (.invokevirtual 133, 3) := by decide +kernel
theorem dX8_insert_93 : decode cX8_insert 93 = .ok (.aload_n 0, 1) := by decide +kernel
theorem dX8_insert_94 : decode cX8_insert 94 = .ok (.iload_n 2, 1) := by decide +kernel
theorem dX8_insert_95 : decode cX8_insert 95 = .ok (.iconst 4, 1) := by decide +kernel
theorem dX8_insert_96 : decode cX8_insert 96 = .ok (.invokevirtual 175, 3) := by decide +kernel
theorem dX8_insert_99 : decode cX8_insert 99 = .ok (.aload_n 0, 1) := by decide +kernel
theorem dX8_insert_100 : decode cX8_insert 100 = .ok (.iload_n 2, 1) := by decide +kernel
theorem dX8_insert_101 : decode cX8_insert 101 = .ok (.iconst 4, 1) := by decide +kernel
theorem dX8_insert_102 : decode cX8_insert 102 = .ok (.invokevirtual 169, 3) := by decide +kernel
theorem dX8_insert_105 : decode cX8_insert 105 = .ok (.goto (-53), 3) := by decide +kernel
theorem dX8_insert_108 : decode cX8_insert 108 = .ok (.aload_n 0, 1) := by decide +kernel
theorem dX8_insert_109 : decode cX8_insert 109 = .ok (.invokevirtual 172, 3) := by decide +kernel
theorem dX8_insert_112 : decode cX8_insert 112 = .ok (.iinc 1 1, 3) := by decide +kernel
theorem dX8_insert_115 : decode cX8_insert 115 = .ok (.goto (-113), 3) := by decide +kernel
theorem dX8_insert_118 : decode cX8_insert 118 = .ok (.return_, 1) := by decide +kernel
set_option maxRecDepth 20000 in
theorem ggX8_settle_X8_take : GoodIn wsX8_settle wsX8_take := goodIn_r _ [10, 4, 37, 38, 39, 40, 41, 42, 43, 44, 45, 46, 47, 48, 49, 50, 51, 52, 53, 54, 55, 56, 57] (by decide +kernel) (by decide +kernel)
set_option maxRecDepth 20000 in
theorem gX8_settle_X8_take : GoodIn wsX8_settle (wsV RX8 162 RX8 yX8_take wsX8_take) := goodIn_app (goodIn_of _ (by decide +kernel)) ggX8_settle_X8_take
set_option maxRecDepth 20000 in
theorem ggX8_settle_X8_high : GoodIn wsX8_settle wsX8_high := goodIn_r _ [13] (by decide +kernel) (by decide +kernel)
set_option maxRecDepth 20000 in
theorem gX8_settle_X8_high : GoodIn wsX8_settle (va_wsS RX8 122 yX8_high wsX8_high) := goodIn_app (goodIn_of _ (by decide +kernel)) ggX8_settle_X8_high
set_option maxRecDepth 20000 in
theorem ggX8_settle_X8_inverse : GoodIn wsX8_settle wsX8_inverse := goodIn_r _ [16, 5] (by decide +kernel) (by decide +kernel)
set_option maxRecDepth 20000 in
theorem gX8_settle_X8_inverse : GoodIn wsX8_settle (va_wsS RX8 126 yX8_inverse wsX8_inverse) := goodIn_app (goodIn_of _ (by decide +kernel)) ggX8_settle_X8_inverse
set_option maxRecDepth 20000 in
theorem ggX8_settle_X8_lower : GoodIn wsX8_settle wsX8_lower := goodIn_r _ [20, 2, 21, 3, 6, 7, 8, 9, 10, 4, 11, 12, 13, 22, 23, 24, 25, 26, 5, 14, 15, 16, 27, 28, 29, 30, 31, 32, 33, 34, 35, 36, 37, 38, 39, 40, 41, 42, 43, 44, 45, 46, 47, 48, 49, 50, 51, 52, 53, 54, 55, 56, 57] (by decide +kernel) (by decide +kernel)
set_option maxRecDepth 20000 in
theorem gX8_settle_X8_lower : GoodIn wsX8_settle (wsV RX8 178 RX8 yX8_lower wsX8_lower) := goodIn_app (goodIn_of _ (by decide +kernel)) ggX8_settle_X8_lower
theorem dX8_settle_0 : decode cX8_settle 0 = .ok (.iconst 0, 1) := by decide +kernel
theorem dX8_settle_1 : decode cX8_settle 1 = .ok (.istore_n 1, 1) := by decide +kernel
theorem dX8_settle_2 : decode cX8_settle 2 = .ok (.iload_n 1, 1) := by decide +kernel
theorem dX8_settle_3 : decode cX8_settle 3 = .ok (.aload_n 0, 1) := by decide +kernel
theorem dX8_settle_4 : decode cX8_settle 4 = .ok (.getfield 74, 3) := by decide +kernel
theorem dX8_settle_7 : decode cX8_settle 7 = .ok (.if_icmp .ge 100, 3) := by decide +kernel
theorem dX8_settle_10 : decode cX8_settle 10 = .ok (.aload_n 0, 1) := by decide +kernel
theorem dX8_settle_11 : decode cX8_settle 11 = .ok (.getfield 29, 3) := by decide +kernel
theorem dX8_settle_14 : decode cX8_settle 14 = .ok (.iload_n 1, 1) := by decide +kernel
theorem dX8_settle_15 : decode cX8_settle 15 = .ok (.iaload, 1) := by decide +kernel
theorem dX8_settle_16 : decode cX8_settle 16 = .ok (.iconst (-1), 1) := by decide +kernel
theorem dX8_settle_17 : decode cX8_settle 17 = .ok (.if_icmp .ne 6, 3) := by decide +kernel
theorem dX8_settle_20 : decode cX8_settle 20 = .ok (.goto 81, 3) := by decide +kernel
theorem dX8_settle_23 : decode cX8_settle 23 = .ok (.aload_n 0, 1) := by decide +kernel
theorem dX8_settle_24 : decode cX8_settle 24 = .ok (.aload_n 0, 1) := by decide +kernel
theorem dX8_settle_25 : decode cX8_settle 25 = .ok (.getfield 35, 3) := by decide +kernel
theorem dX8_settle_28 : decode cX8_settle 28 = .ok (.iload_n 1, 1) := by decide +kernel
theorem dX8_settle_29 : decode cX8_settle 29 = .ok (.iload_n 1, 1) := by decide +kernel
theorem dX8_settle_30 : decode cX8_settle 30 = .ok (.invokevirtual 162, 3) := by decide +kernel
theorem dX8_settle_33 : decode cX8_settle 33 = .ok (.aload_n 0, 1) := by decide +kernel
theorem dX8_settle_34 : decode cX8_settle 34 = .ok (.getfield 35, 3) := by decide +kernel
theorem dX8_settle_37 : decode cX8_settle 37 = .ok (.aload_n 0, 1) := by decide +kernel
theorem dX8_settle_38 : decode cX8_settle 38 = .ok (.getfield 35, 3) := by decide +kernel
theorem dX8_settle_41 : decode cX8_settle 41 = .ok (.invokestatic 122, 3) := by decide +kernel
theorem dX8_settle_44 : decode cX8_settle 44 = .ok (.iaload, 1) := by decide +kernel
theorem dX8_settle_45 : decode cX8_settle 45 = .ok (.invokestatic 126, 3) := by decide +kernel
theorem dX8_settle_48 : decode cX8_settle 48 = .ok (.i2l, 1) := by decide +kernel
theorem dX8_settle_49 : decode cX8_settle 49 = .ok (.lstore_n 2, 1) := by decide +kernel
theorem dX8_settle_50 : decode cX8_settle 50 = .ok (.iconst 0, 1) := by decide +kernel
theorem dX8_settle_51 : decode cX8_settle 51 = .ok (.istore 4, 2) := by decide +kernel
theorem dX8_settle_53 : decode cX8_settle 53 = .ok (.iload 4, 2) := by decide +kernel
theorem dX8_settle_55 : decode cX8_settle 55 = .ok (.sipush 1024, 3) := by decide +kernel
theorem dX8_settle_58 : decode cX8_settle 58 = .ok (.if_icmp .ge 43, 3) := by decide +kernel
theorem dX8_settle_61 : decode cX8_settle 61 = .ok (.aload_n 0, 1) := by decide +kernel
theorem dX8_settle_62 : decode cX8_settle 62 = .ok (.getfield 26, 3) := by decide +kernel
theorem dX8_settle_65 : decode cX8_settle 65 = .ok (.sipush 1024, 3) := by decide +kernel
theorem dX8_settle_68 : decode cX8_settle 68 = .ok (.iload_n 1, 1) := by decide +kernel
theorem dX8_settle_69 : decode cX8_settle 69 = .ok (.imul, 1) := by decide +kernel
theorem dX8_settle_70 : decode cX8_settle 70 = .ok (.iload 4, 2) := by decide +kernel
theorem dX8_settle_72 : decode cX8_settle 72 = .ok (.iadd, 1) := by decide +kernel
theorem dX8_settle_73 : decode cX8_settle 73 = .ok (.aload_n 0, 1) := by decide +kernel
theorem dX8_settle_74 : decode cX8_settle 74 = .ok (.getfield 26, 3) := by decide +kernel
theorem dX8_settle_77 : decode cX8_settle 77 = .ok (.sipush 1024, 3) := by decide +kernel
theorem dX8_settle_80 : decode cX8_settle 80 = .ok (.iload_n 1, 1) := by decide +kernel
theorem dX8_settle_81 : decode cX8_settle 81 = .ok (.imul, 1) := by decide +kernel
theorem dX8_settle_82 : decode cX8_settle 82 = .ok (.iload 4, 2) := by decide +kernel
theorem dX8_settle_84 : decode cX8_settle 84 = .ok (.iadd, 1) := by decide +kernel
theorem dX8_settle_85 : decode cX8_settle 85 = .ok (.iaload, 1) := by decide +kernel
theorem dX8_settle_86 : decode cX8_settle 86 = .ok (.i2l, 1) := by decide +kernel
theorem dX8_settle_87 : decode cX8_settle 87 = .ok (.lload_n 2, 1) := by decide +kernel
theorem dX8_settle_88 : decode cX8_settle 88 = .ok (.lmul, 1) := by decide +kernel
theorem dX8_settle_89 : decode cX8_settle 89 = .ok (.ldc2_w 69, 3) := by decide +kernel
theorem dX8_settle_92 : decode cX8_settle 92 = .ok (.lrem, 1) := by decide +kernel
theorem dX8_settle_93 : decode cX8_settle 93 = .ok (.l2i, 1) := by decide +kernel
theorem dX8_settle_94 : decode cX8_settle 94 = .ok (.iastore, 1) := by decide +kernel
theorem dX8_settle_95 : decode cX8_settle 95 = .ok (.iinc 4 1, 3) := by decide +kernel
theorem dX8_settle_98 : decode cX8_settle 98 = .ok (.goto (-45), 3) := by decide +kernel
theorem dX8_settle_101 : decode cX8_settle 101 = .ok (.iinc 1 1, 3) := by decide +kernel
theorem dX8_settle_104 : decode cX8_settle 104 = .ok (.goto (-102), 3) := by decide +kernel
theorem dX8_settle_107 : decode cX8_settle 107 = .ok (.aload_n 0, 1) := by decide +kernel
theorem dX8_settle_108 : decode cX8_settle 108 = .ok (.getfield 74, 3) := by decide +kernel
theorem dX8_settle_111 : decode cX8_settle 111 = .ok (.iconst 1, 1) := by decide +kernel
theorem dX8_settle_112 : decode cX8_settle 112 = .ok (.isub, 1) := by decide +kernel
theorem dX8_settle_113 : decode cX8_settle 113 = .ok (.istore_n 1, 1) := by decide +kernel
theorem dX8_settle_114 : decode cX8_settle 114 = .ok (.iload_n 1, 1) := by decide +kernel
theorem dX8_settle_115 : decode cX8_settle 115 = .ok (.ifCond .lt 33, 3) := by decide +kernel
theorem dX8_settle_118 : decode cX8_settle 118 = .ok (.iload_n 1, 1) := by decide +kernel
theorem dX8_settle_119 : decode cX8_settle 119 = .ok (.iconst 1, 1) := by decide +kernel
theorem dX8_settle_120 : decode cX8_settle 120 = .ok (.iadd, 1) := by decide +kernel
theorem dX8_settle_121 : decode cX8_settle 121 = .ok (.istore_n 2, 1) := by decide +kernel
theorem dX8_settle_122 : decode cX8_settle 122 = .ok (.iload_n 2, 1) := by decide +kernel
theorem dX8_settle_123 : decode cX8_settle 123 = .ok (.aload_n 0, 1) := by decide +kernel
theorem dX8_settle_124 : decode cX8_settle 124 = .ok (.getfield 74, 3) := by decide +kernel
theorem dX8_settle_127 : decode cX8_settle 127 = .ok (.if_icmp .ge 15, 3) := by decide +kernel
theorem dX8_settle_130 : decode cX8_settle 130 = .ok (.aload_n 0, 1) := by decide +kernel
theorem dX8_settle_131 : decode cX8_settle 131 = .ok (.iload_n 1, 1) := by decide +kernel
theorem dX8_settle_132 : decode cX8_settle 132 = .ok (.iload_n 2, 1) := by decide +kernel
theorem dX8_settle_133 : decode cX8_settle 133 = .ok (.invokevirtual 178, 3) := by decide +kernel
theorem dX8_settle_136 : decode cX8_settle 136 = .ok (.iinc 2 1, 3) := by decide +kernel
theorem dX8_settle_139 : decode cX8_settle 139 = .ok (.goto (-17), 3) := by decide +kernel
theorem dX8_settle_142 : decode cX8_settle 142 = .ok (.iinc 1 (-1), 3) := by decide +kernel
theorem dX8_settle_145 : decode cX8_settle 145 = .ok (.goto (-31), 3) := by decide +kernel
theorem dX8_settle_148 : decode cX8_settle 148 = .ok (.iconst 0, 1) := by decide +kernel
theorem dX8_settle_149 : decode cX8_settle 149 = .ok (.istore_n 1, 1) := by decide +kernel
theorem dX8_settle_150 : decode cX8_settle 150 = .ok (.iload_n 1, 1) := by decide +kernel
theorem dX8_settle_151 : decode cX8_settle 151 = .ok (.aload_n 0, 1) := by decide +kernel
theorem dX8_settle_152 : decode cX8_settle 152 = .ok (.getfield 74, 3) := by decide +kernel
theorem dX8_settle_155 : decode cX8_settle 155 = .ok (.if_icmp .ge 25, 3) := by decide +kernel
theorem dX8_settle_158 : decode cX8_settle 158 = .ok (.aload_n 0, 1) := by decide +kernel
theorem dX8_settle_159 : decode cX8_settle 159 = .ok (.getfield 29, 3) := by decide +kernel
theorem dX8_settle_162 : decode cX8_settle 162 = .ok (.iload_n 1, 1) := by decide +kernel
theorem dX8_settle_163 : decode cX8_settle 163 = .ok (.iaload, 1) := by decide +kernel
theorem dX8_settle_164 : decode cX8_settle 164 = .ok (.iconst (-1), 1) := by decide +kernel
theorem dX8_settle_165 : decode cX8_settle 165 = .ok (.if_icmp .eq 9, 3) := by decide +kernel
theorem dX8_settle_168 : decode cX8_settle 168 = .ok (.aload_n 0, 1) := by decide +kernel
theorem dX8_settle_169 : decode cX8_settle 169 = .ok (.iconst 4, 1) := by decide +kernel
theorem dX8_settle_170 : decode cX8_settle 170 = .ok (.iload_n 1, 1) := by decide +kernel
theorem dX8_settle_171 : decode cX8_settle 171 = .ok (.invokevirtual 178, 3) := by decide +kernel
theorem dX8_settle_174 : decode cX8_settle 174 = .ok (.iinc 1 1, 3) := by decide +kernel
theorem dX8_settle_177 : decode cX8_settle 177 = .ok (.goto (-27), 3) := by decide +kernel
theorem dX8_settle_180 : decode cX8_settle 180 = .ok (.return_, 1) := by decide +kernel
set_option maxRecDepth 20000 in
theorem ggX8_lower_X8_take : GoodIn wsX8_lower wsX8_take := goodIn_r _ [8, 9, 32, 33, 34, 35, 36, 37, 38, 39, 40, 41, 42, 43, 44, 45, 46, 47, 48, 49, 50, 51, 52] (by decide +kernel) (by decide +kernel)
set_option maxRecDepth 20000 in
theorem gX8_lower_X8_take : GoodIn wsX8_lower (wsV RX8 162 RX8 yX8_take wsX8_take) := goodIn_app (goodIn_of _ (by decide +kernel)) ggX8_lower_X8_take
set_option maxRecDepth 20000 in
theorem ggX8_lower_X8_high : GoodIn wsX8_lower wsX8_high := goodIn_r _ [12] (by decide +kernel) (by decide +kernel)
set_option maxRecDepth 20000 in
theorem gX8_lower_X8_high : GoodIn wsX8_lower (va_wsS RX8 122 yX8_high wsX8_high) := goodIn_app (goodIn_of _ (by decide +kernel)) ggX8_lower_X8_high
set_option maxRecDepth 20000 in
theorem ggX8_lower_X8_divide : GoodIn wsX8_lower wsX8_divide := goodIn_r _ [16, 17, 18, 10, 11, 7, 12, 19, 20, 21, 22, 23, 24, 25, 26, 27, 32, 33, 34, 35, 36, 37, 38, 39, 40, 41, 42, 43, 44, 45, 46, 47, 48, 49, 50, 51, 52] (by decide +kernel) (by decide +kernel)
set_option maxRecDepth 20000 in
theorem gX8_lower_X8_divide : GoodIn wsX8_lower (wsV RX8 133 RX8 yX8_divide wsX8_divide) := goodIn_app (goodIn_of _ (by decide +kernel)) ggX8_lower_X8_divide
set_option maxRecDepth 20000 in
theorem ggX8_lower_X8_takeOff : GoodIn wsX8_lower wsX8_takeOff := goodIn_r _ [31, 17, 9, 10, 11, 7, 12, 25, 26, 27, 18, 32, 33, 34, 35, 36, 37, 38, 39, 40, 41, 42, 43, 44, 45, 46, 47, 48, 49, 50, 51, 52] (by decide +kernel) (by decide +kernel)
set_option maxRecDepth 20000 in
theorem gX8_lower_X8_takeOff : GoodIn wsX8_lower (wsV RX8 175 RX8 yX8_takeOff wsX8_takeOff) := goodIn_app (goodIn_of _ (by decide +kernel)) ggX8_lower_X8_takeOff
theorem dX8_lower_0 : decode cX8_lower 0 = .ok (.aload_n 0, 1) := by decide +kernel
theorem dX8_lower_1 : decode cX8_lower 1 = .ok (.getfield 29, 3) := by decide +kernel
theorem dX8_lower_4 : decode cX8_lower 4 = .ok (.iload_n 2, 1) := by decide +kernel
theorem dX8_lower_5 : decode cX8_lower 5 = .ok (.iaload, 1) := by decide +kernel
theorem dX8_lower_6 : decode cX8_lower 6 = .ok (.iconst (-1), 1) := by decide +kernel
theorem dX8_lower_7 : decode cX8_lower 7 = .ok (.if_icmp .eq 18, 3) := by decide +kernel
theorem dX8_lower_10 : decode cX8_lower 10 = .ok (.iload_n 1, 1) := by decide +kernel
theorem dX8_lower_11 : decode cX8_lower 11 = .ok (.iconst 4, 1) := by decide +kernel
theorem dX8_lower_12 : decode cX8_lower 12 = .ok (.if_icmp .ge 14, 3) := by decide +kernel
theorem dX8_lower_15 : decode cX8_lower 15 = .ok (.aload_n 0, 1) := by decide +kernel
theorem dX8_lower_16 : decode cX8_lower 16 = .ok (.getfield 29, 3) := by decide +kernel
theorem dX8_lower_19 : decode cX8_lower 19 = .ok (.iload_n 1, 1) := by decide +kernel
theorem dX8_lower_20 : decode cX8_lower 20 = .ok (.iaload, 1) := by decide +kernel
theorem dX8_lower_21 : decode cX8_lower 21 = .ok (.iconst (-1), 1) := by decide +kernel
theorem dX8_lower_22 : decode cX8_lower 22 = .ok (.if_icmp .ne 4, 3) := by decide +kernel
theorem dX8_lower_25 : decode cX8_lower 25 = .ok (.return_, 1) := by decide +kernel
theorem dX8_lower_26 : decode cX8_lower 26 = .ok (.aload_n 0, 1) := by decide +kernel
theorem dX8_lower_27 : decode cX8_lower 27 = .ok (.aload_n 0, 1) := by decide +kernel
theorem dX8_lower_28 : decode cX8_lower 28 = .ok (.getfield 32, 3) := by decide +kernel
theorem dX8_lower_31 : decode cX8_lower 31 = .ok (.iload_n 1, 1) := by decide +kernel
theorem dX8_lower_32 : decode cX8_lower 32 = .ok (.iload_n 2, 1) := by decide +kernel
theorem dX8_lower_33 : decode cX8_lower 33 = .ok (.invokevirtual 162, 3) := by decide +kernel
theorem dX8_lower_36 : decode cX8_lower 36 = .ok (.aload_n 0, 1) := by decide +kernel
theorem dX8_lower_37 : decode cX8_lower 37 = .ok (.aload_n 0, 1) := by decide +kernel
theorem dX8_lower_38 : decode cX8_lower 38 = .ok (.getfield 35, 3) := by decide +kernel
theorem dX8_lower_41 : decode cX8_lower 41 = .ok (.iload_n 2, 1) := by decide +kernel
theorem dX8_lower_42 : decode cX8_lower 42 = .ok (.iload_n 2, 1) := by decide +kernel
theorem dX8_lower_43 : decode cX8_lower 43 = .ok (.invokevirtual 162, 3) := by decide +kernel
theorem dX8_lower_46 : decode cX8_lower 46 = .ok (.aload_n 0, 1) := by decide +kernel
theorem dX8_lower_47 : decode cX8_lower 47 = .ok (.getfield 32, 3) := by decide +kernel
theorem dX8_lower_50 : decode cX8_lower 50 = .ok (.invokestatic 122, 3) := by decide +kernel
theorem dX8_lower_53 : decode cX8_lower 53 = .ok (.aload_n 0, 1) := by decide +kernel
theorem dX8_lower_54 : decode cX8_lower 54 = .ok (.getfield 35, 3) := by decide +kernel
theorem dX8_lower_57 : decode cX8_lower 57 = .ok (.invokestatic 122, 3) := by decide +kernel
theorem dX8_lower_60 : decode cX8_lower 60 = .ok (.if_icmp .ge 4, 3) := by decide +kernel
theorem dX8_lower_63 : decode cX8_lower 63 = .ok (.return_, 1) := by decide +kernel
theorem dX8_lower_64 : decode cX8_lower 64 = .ok (.aload_n 0, 1) := by decide +kernel
theorem dX8_lower_65 : decode cX8_lower 65 = .ok (.aload_n 0, 1) := by decide +kernel
theorem dX8_lower_66 : decode cX8_lower 66 = .ok (.getfield 32, 3) := by decide +kernel
theorem dX8_lower_69 : decode cX8_lower 69 = .ok (.aload_n 0, 1) := by decide +kernel
theorem dX8_lower_70 : decode cX8_lower 70 = .ok (.getfield 35, 3) := by decide +kernel
theorem dX8_lower_73 : decode cX8_lower 73 = .ok (.invokevirtual 133, 3) := by decide +kernel
theorem dX8_lower_76 : decode cX8_lower 76 = .ok (.aload_n 0, 1) := by decide +kernel
theorem dX8_lower_77 : decode cX8_lower 77 = .ok (.iload_n 1, 1) := by decide +kernel
theorem dX8_lower_78 : decode cX8_lower 78 = .ok (.iload_n 2, 1) := by decide +kernel
theorem dX8_lower_79 : decode cX8_lower 79 = .ok (.invokevirtual 175, 3) := by decide +kernel
theorem dX8_lower_82 : decode cX8_lower 82 = .ok (.return_, 1) := by decide +kernel
set_option maxRecDepth 20000 in
theorem ggX8_makeHermite_X8_empty : GoodIn wsX8_makeHermite wsX8_empty := goodIn_r _ [10] (by decide +kernel) (by decide +kernel)
set_option maxRecDepth 20000 in
theorem gX8_makeHermite_X8_empty : GoodIn wsX8_makeHermite (va_wsS RX8 129 yX8_empty wsX8_empty) := goodIn_app (goodIn_of _ (by decide +kernel)) ggX8_makeHermite_X8_empty
set_option maxRecDepth 20000 in
theorem ggX8_makeHermite_X8_give : GoodIn wsX8_makeHermite wsX8_give := goodIn_r _ [14, 1, 64, 65, 66, 67, 68, 69, 70, 71, 72, 73, 74, 75, 76, 77, 78, 79, 80, 81, 82, 83, 84] (by decide +kernel) (by decide +kernel)
set_option maxRecDepth 20000 in
theorem gX8_makeHermite_X8_give : GoodIn wsX8_makeHermite (wsV RX8 181 RX8 yX8_give wsX8_give) := goodIn_app (goodIn_of _ (by decide +kernel)) ggX8_makeHermite_X8_give
set_option maxRecDepth 20000 in
theorem ggX8_makeHermite_X8_insert : GoodIn wsX8_makeHermite wsX8_insert := goodIn_r _ [18, 6, 2, 4, 19, 20, 21, 22, 9, 23, 24, 25, 26, 27, 1, 28, 29, 30, 31, 32, 33, 34, 35, 36, 37, 38, 39, 40, 41, 42, 43, 44, 45, 46, 47, 48, 49, 50, 51, 7, 8, 10, 52, 53, 54, 55, 56, 57, 58, 64, 65, 66, 67, 68, 69, 70, 71, 72, 73, 74, 75, 76, 77, 78, 79, 80, 81, 82, 83, 84] (by decide +kernel) (by decide +kernel)
set_option maxRecDepth 20000 in
theorem gX8_makeHermite_X8_insert : GoodIn wsX8_makeHermite (wsV RX8 184 RX8 yX8_insert wsX8_insert) := goodIn_app (goodIn_of _ (by decide +kernel)) ggX8_makeHermite_X8_insert
set_option maxRecDepth 20000 in
theorem ggX8_makeHermite_X8_take : GoodIn wsX8_makeHermite wsX8_take := goodIn_r _ [27, 1, 64, 65, 66, 67, 68, 69, 70, 71, 72, 73, 74, 75, 76, 77, 78, 79, 80, 81, 82, 83, 84] (by decide +kernel) (by decide +kernel)
set_option maxRecDepth 20000 in
theorem gX8_makeHermite_X8_take : GoodIn wsX8_makeHermite (wsV RX8 162 RX8 yX8_take wsX8_take) := goodIn_app (goodIn_of _ (by decide +kernel)) ggX8_makeHermite_X8_take
set_option maxRecDepth 20000 in
theorem ggX8_makeHermite_X8_put0 : GoodIn wsX8_makeHermite wsX8_put0 := goodIn_r _ [62, 63, 64, 65, 66, 67, 68, 69, 70, 71, 72, 73, 74, 75, 76, 77, 78, 79, 80, 81, 82, 83, 84] (by decide +kernel) (by decide +kernel)
set_option maxRecDepth 20000 in
theorem gX8_makeHermite_X8_put0 : GoodIn wsX8_makeHermite (wsV RX8 158 RX8 yX8_put0 wsX8_put0) := goodIn_app (goodIn_of _ (by decide +kernel)) ggX8_makeHermite_X8_put0
theorem dX8_makeHermite_0 : decode cX8_makeHermite 0 = .ok (.iconst 0, 1) := by decide +kernel
theorem dX8_makeHermite_1 : decode cX8_makeHermite 1 = .ok (.istore_n 1, 1) := by decide +kernel
theorem dX8_makeHermite_2 : decode cX8_makeHermite 2 = .ok (.iload_n 1, 1) := by decide +kernel
theorem dX8_makeHermite_3 : decode cX8_makeHermite 3 = .ok (.sipush 5120, 3) := by decide +kernel
theorem dX8_makeHermite_6 : decode cX8_makeHermite 6 = .ok (.if_icmp .ge 16, 3) := by decide +kernel
theorem dX8_makeHermite_9 : decode cX8_makeHermite 9 = .ok (.aload_n 0, 1) := by decide +kernel
theorem dX8_makeHermite_10 : decode cX8_makeHermite 10 = .ok (.getfield 26, 3) := by decide +kernel
theorem dX8_makeHermite_13 : decode cX8_makeHermite 13 = .ok (.iload_n 1, 1) := by decide +kernel
theorem dX8_makeHermite_14 : decode cX8_makeHermite 14 = .ok (.iconst 0, 1) := by decide +kernel
theorem dX8_makeHermite_15 : decode cX8_makeHermite 15 = .ok (.iastore, 1) := by decide +kernel
theorem dX8_makeHermite_16 : decode cX8_makeHermite 16 = .ok (.iinc 1 1, 3) := by decide +kernel
theorem dX8_makeHermite_19 : decode cX8_makeHermite 19 = .ok (.goto (-17), 3) := by decide +kernel
theorem dX8_makeHermite_22 : decode cX8_makeHermite 22 = .ok (.iconst 0, 1) := by decide +kernel
theorem dX8_makeHermite_23 : decode cX8_makeHermite 23 = .ok (.istore_n 1, 1) := by decide +kernel
theorem dX8_makeHermite_24 : decode cX8_makeHermite 24 = .ok (.iload_n 1, 1) := by decide +kernel
theorem dX8_makeHermite_25 : decode cX8_makeHermite 25 = .ok (.iconst 4, 1) := by decide +kernel
theorem dX8_makeHermite_26 : decode cX8_makeHermite 26 = .ok (.if_icmp .ge 16, 3) := by decide +kernel
theorem dX8_makeHermite_29 : decode cX8_makeHermite 29 = .ok (.aload_n 0, 1) := by decide +kernel
theorem dX8_makeHermite_30 : decode cX8_makeHermite 30 = .ok (.getfield 29, 3) := by decide +kernel
theorem dX8_makeHermite_33 : decode cX8_makeHermite 33 = .ok (.iload_n 1, 1) := by decide +kernel
theorem dX8_makeHermite_34 : decode cX8_makeHermite 34 = .ok (.iconst (-1), 1) := by decide +kernel
theorem dX8_makeHermite_35 : decode cX8_makeHermite 35 = .ok (.iastore, 1) := by decide +kernel
theorem dX8_makeHermite_36 : decode cX8_makeHermite 36 = .ok (.iinc 1 1, 3) := by decide +kernel
theorem dX8_makeHermite_39 : decode cX8_makeHermite 39 = .ok (.goto (-15), 3) := by decide +kernel
theorem dX8_makeHermite_42 : decode cX8_makeHermite 42 = .ok (.iconst 0, 1) := by decide +kernel
theorem dX8_makeHermite_43 : decode cX8_makeHermite 43 = .ok (.istore_n 1, 1) := by decide +kernel
theorem dX8_makeHermite_44 : decode cX8_makeHermite 44 = .ok (.iload_n 1, 1) := by decide +kernel
theorem dX8_makeHermite_45 : decode cX8_makeHermite 45 = .ok (.aload_n 0, 1) := by decide +kernel
theorem dX8_makeHermite_46 : decode cX8_makeHermite 46 = .ok (.getfield 71, 3) := by decide +kernel
theorem dX8_makeHermite_49 : decode cX8_makeHermite 49 = .ok (.if_icmp .ge 77, 3) := by decide +kernel
theorem dX8_makeHermite_52 : decode cX8_makeHermite 52 = .ok (.iconst 0, 1) := by decide +kernel
theorem dX8_makeHermite_53 : decode cX8_makeHermite 53 = .ok (.istore_n 2, 1) := by decide +kernel
theorem dX8_makeHermite_54 : decode cX8_makeHermite 54 = .ok (.iload_n 2, 1) := by decide +kernel
theorem dX8_makeHermite_55 : decode cX8_makeHermite 55 = .ok (.iconst 4, 1) := by decide +kernel
theorem dX8_makeHermite_56 : decode cX8_makeHermite 56 = .ok (.if_icmp .ge 60, 3) := by decide +kernel
theorem dX8_makeHermite_59 : decode cX8_makeHermite 59 = .ok (.aload_n 0, 1) := by decide +kernel
theorem dX8_makeHermite_60 : decode cX8_makeHermite 60 = .ok (.getfield 32, 3) := by decide +kernel
theorem dX8_makeHermite_63 : decode cX8_makeHermite 63 = .ok (.invokestatic 129, 3) := by decide +kernel
theorem dX8_makeHermite_66 : decode cX8_makeHermite 66 = .ok (.iconst 0, 1) := by decide +kernel
theorem dX8_makeHermite_67 : decode cX8_makeHermite 67 = .ok (.istore_n 3, 1) := by decide +kernel
theorem dX8_makeHermite_68 : decode cX8_makeHermite 68 = .ok (.iload_n 3, 1) := by decide +kernel
theorem dX8_makeHermite_69 : decode cX8_makeHermite 69 = .ok (.iconst 4, 1) := by decide +kernel
theorem dX8_makeHermite_70 : decode cX8_makeHermite 70 = .ok (.if_icmp .ge 30, 3) := by decide +kernel
theorem dX8_makeHermite_73 : decode cX8_makeHermite 73 = .ok (.aload_n 0, 1) := by decide +kernel
theorem dX8_makeHermite_74 : decode cX8_makeHermite 74 = .ok (.getfield 32, 3) := by decide +kernel
theorem dX8_makeHermite_77 : decode cX8_makeHermite 77 = .ok (.iload_n 3, 1) := by decide +kernel
theorem dX8_makeHermite_78 : decode cX8_makeHermite 78 = .ok (.aload_n 0, 1) := by decide +kernel
theorem dX8_makeHermite_79 : decode cX8_makeHermite 79 = .ok (.getfield 7, 3) := by decide +kernel
theorem dX8_makeHermite_82 : decode cX8_makeHermite 82 = .ok (.bipush 16, 2) := by decide +kernel
theorem dX8_makeHermite_84 : decode cX8_makeHermite 84 = .ok (.iload_n 1, 1) := by decide +kernel
theorem dX8_makeHermite_85 : decode cX8_makeHermite 85 = .ok (.imul, 1) := by decide +kernel
theorem dX8_makeHermite_86 : decode cX8_makeHermite 86 = .ok (.iconst 4, 1) := by decide +kernel
theorem dX8_makeHermite_87 : decode cX8_makeHermite 87 = .ok (.iload_n 2, 1) := by decide +kernel
theorem dX8_makeHermite_88 : decode cX8_makeHermite 88 = .ok (.imul, 1) := by decide +kernel
theorem dX8_makeHermite_89 : decode cX8_makeHermite 89 = .ok (.iadd, 1) := by decide +kernel
theorem dX8_makeHermite_90 : decode cX8_makeHermite 90 = .ok (.iload_n 3, 1) := by decide +kernel
theorem dX8_makeHermite_91 : decode cX8_makeHermite 91 = .ok (.iadd, 1) := by decide +kernel
theorem dX8_makeHermite_92 : decode cX8_makeHermite 92 = .ok (.iaload, 1) := by decide +kernel
theorem dX8_makeHermite_93 : decode cX8_makeHermite 93 = .ok (.iastore, 1) := by decide +kernel
theorem dX8_makeHermite_94 : decode cX8_makeHermite 94 = .ok (.iinc 3 1, 3) := by decide +kernel
theorem dX8_makeHermite_97 : decode cX8_makeHermite 97 = .ok (.goto (-29), 3) := by decide +kernel
theorem dX8_makeHermite_100 : decode cX8_makeHermite 100 = .ok (.aload_n 0, 1) := by decide +kernel
theorem dX8_makeHermite_101 : decode cX8_makeHermite 101 = .ok (.aload_n 0, 1) := by decide +kernel
theorem dX8_makeHermite_102 : decode cX8_makeHermite 102 = .ok (.getfield 32, 3) := by decide +kernel
theorem dX8_makeHermite_105 : decode cX8_makeHermite 105 = .ok (.iconst 4, 1) := by decide +kernel
theorem dX8_makeHermite_106 : decode cX8_makeHermite 106 = .ok (.iload_n 2, 1) := by decide +kernel
theorem dX8_makeHermite_107 : decode cX8_makeHermite 107 = .ok (.invokevirtual 181, 3) := by decide +kernel
theorem dX8_makeHermite_110 : decode cX8_makeHermite 110 = .ok (.iinc 2 1, 3) := by decide +kernel
theorem dX8_makeHermite_113 : decode cX8_makeHermite 113 = .ok (.goto (-59), 3) := by decide +kernel
theorem dX8_makeHermite_116 : decode cX8_makeHermite 116 = .ok (.aload_n 0, 1) := by decide +kernel
theorem dX8_makeHermite_117 : decode cX8_makeHermite 117 = .ok (.invokevirtual 184, 3) := by decide +kernel
theorem dX8_makeHermite_120 : decode cX8_makeHermite 120 = .ok (.iinc 1 1, 3) := by decide +kernel
theorem dX8_makeHermite_123 : decode cX8_makeHermite 123 = .ok (.goto (-79), 3) := by decide +kernel
theorem dX8_makeHermite_126 : decode cX8_makeHermite 126 = .ok (.iconst 0, 1) := by decide +kernel
theorem dX8_makeHermite_127 : decode cX8_makeHermite 127 = .ok (.istore_n 1, 1) := by decide +kernel
theorem dX8_makeHermite_128 : decode cX8_makeHermite 128 = .ok (.iconst 0, 1) := by decide +kernel
theorem dX8_makeHermite_129 : decode cX8_makeHermite 129 = .ok (.istore_n 2, 1) := by decide +kernel
theorem dX8_makeHermite_130 : decode cX8_makeHermite 130 = .ok (.iload_n 2, 1) := by decide +kernel
theorem dX8_makeHermite_131 : decode cX8_makeHermite 131 = .ok (.aload_n 0, 1) := by decide +kernel
theorem dX8_makeHermite_132 : decode cX8_makeHermite 132 = .ok (.getfield 74, 3) := by decide +kernel
theorem dX8_makeHermite_135 : decode cX8_makeHermite 135 = .ok (.if_icmp .ge 62, 3) := by decide +kernel
theorem dX8_makeHermite_138 : decode cX8_makeHermite 138 = .ok (.aload_n 0, 1) := by decide +kernel
theorem dX8_makeHermite_139 : decode cX8_makeHermite 139 = .ok (.getfield 29, 3) := by decide +kernel
theorem dX8_makeHermite_142 : decode cX8_makeHermite 142 = .ok (.iload_n 2, 1) := by decide +kernel
theorem dX8_makeHermite_143 : decode cX8_makeHermite 143 = .ok (.iaload, 1) := by decide +kernel
theorem dX8_makeHermite_144 : decode cX8_makeHermite 144 = .ok (.iconst (-1), 1) := by decide +kernel
theorem dX8_makeHermite_145 : decode cX8_makeHermite 145 = .ok (.if_icmp .ne 6, 3) := by decide +kernel
theorem dX8_makeHermite_148 : decode cX8_makeHermite 148 = .ok (.goto 43, 3) := by decide +kernel
theorem dX8_makeHermite_151 : decode cX8_makeHermite 151 = .ok (.iconst 0, 1) := by decide +kernel
theorem dX8_makeHermite_152 : decode cX8_makeHermite 152 = .ok (.istore_n 3, 1) := by decide +kernel
theorem dX8_makeHermite_153 : decode cX8_makeHermite 153 = .ok (.iload_n 3, 1) := by decide +kernel
theorem dX8_makeHermite_154 : decode cX8_makeHermite 154 = .ok (.aload_n 0, 1) := by decide +kernel
theorem dX8_makeHermite_155 : decode cX8_makeHermite 155 = .ok (.getfield 74, 3) := by decide +kernel
theorem dX8_makeHermite_158 : decode cX8_makeHermite 158 = .ok (.if_icmp .ge 30, 3) := by decide +kernel
theorem dX8_makeHermite_161 : decode cX8_makeHermite 161 = .ok (.aload_n 0, 1) := by decide +kernel
theorem dX8_makeHermite_162 : decode cX8_makeHermite 162 = .ok (.aload_n 0, 1) := by decide +kernel
theorem dX8_makeHermite_163 : decode cX8_makeHermite 163 = .ok (.getfield 32, 3) := by decide +kernel
theorem dX8_makeHermite_166 : decode cX8_makeHermite 166 = .ok (.iload_n 2, 1) := by decide +kernel
theorem dX8_makeHermite_167 : decode cX8_makeHermite 167 = .ok (.iload_n 3, 1) := by decide +kernel
theorem dX8_makeHermite_168 : decode cX8_makeHermite 168 = .ok (.invokevirtual 162, 3) := by decide +kernel
theorem dX8_makeHermite_171 : decode cX8_makeHermite 171 = .ok (.aload_n 0, 1) := by decide +kernel
theorem dX8_makeHermite_172 : decode cX8_makeHermite 172 = .ok (.iconst 0, 1) := by decide +kernel
theorem dX8_makeHermite_173 : decode cX8_makeHermite 173 = .ok (.iload_n 1, 1) := by decide +kernel
theorem dX8_makeHermite_174 : decode cX8_makeHermite 174 = .ok (.iload_n 3, 1) := by decide +kernel
theorem dX8_makeHermite_175 : decode cX8_makeHermite 175 = .ok (.aload_n 0, 1) := by decide +kernel
theorem dX8_makeHermite_176 : decode cX8_makeHermite 176 = .ok (.getfield 32, 3) := by decide +kernel
theorem dX8_makeHermite_179 : decode cX8_makeHermite 179 = .ok (.invokevirtual 158, 3) := by decide +kernel
theorem dX8_makeHermite_182 : decode cX8_makeHermite 182 = .ok (.iinc 3 1, 3) := by decide +kernel
theorem dX8_makeHermite_185 : decode cX8_makeHermite 185 = .ok (.goto (-32), 3) := by decide +kernel
theorem dX8_makeHermite_188 : decode cX8_makeHermite 188 = .ok (.iinc 1 1, 3) := by decide +kernel
theorem dX8_makeHermite_191 : decode cX8_makeHermite 191 = .ok (.iinc 2 1, 3) := by decide +kernel
theorem dX8_makeHermite_194 : decode cX8_makeHermite 194 = .ok (.goto (-64), 3) := by decide +kernel
theorem dX8_makeHermite_197 : decode cX8_makeHermite 197 = .ok (.return_, 1) := by decide +kernel
set_option maxRecDepth 20000 in
theorem ggX8_isThere_X8_in : GoodIn wsX8_isThere wsX8_in := goodIn_r _ [9] (by decide +kernel) (by decide +kernel)
set_option maxRecDepth 20000 in
theorem gX8_isThere_X8_in : GoodIn wsX8_isThere (va_wsS RX8 77 yX8_in wsX8_in) := goodIn_app (goodIn_of _ (by decide +kernel)) ggX8_isThere_X8_in
theorem dX8_isThere_0 : decode cX8_isThere 0 = .ok (.aload_n 0, 1) := by decide +kernel
theorem dX8_isThere_1 : decode cX8_isThere 1 = .ok (.iload_n 1, 1) := by decide +kernel
theorem dX8_isThere_2 : decode cX8_isThere 2 = .ok (.i2l, 1) := by decide +kernel
theorem dX8_isThere_3 : decode cX8_isThere 3 = .ok (.lconst 0, 1) := by decide +kernel
theorem dX8_isThere_4 : decode cX8_isThere 4 = .ok (.ldc2_w 140, 3) := by decide +kernel
theorem dX8_isThere_7 : decode cX8_isThere 7 = .ok (.invokestatic 77, 3) := by decide +kernel
theorem dX8_isThere_10 : decode cX8_isThere 10 = .ok (.ifCond .ne 7, 3) := by decide +kernel
theorem dX8_isThere_13 : decode cX8_isThere 13 = .ok (.iconst 1, 1) := by decide +kernel
theorem dX8_isThere_14 : decode cX8_isThere 14 = .ok (.goto 53, 3) := by decide +kernel
theorem dX8_isThere_17 : decode cX8_isThere 17 = .ok (.aload_n 0, 1) := by decide +kernel
theorem dX8_isThere_18 : decode cX8_isThere 18 = .ok (.getfield 13, 3) := by decide +kernel
theorem dX8_isThere_21 : decode cX8_isThere 21 = .ok (.iload_n 1, 1) := by decide +kernel
theorem dX8_isThere_22 : decode cX8_isThere 22 = .ok (.baload, 1) := by decide +kernel
theorem dX8_isThere_23 : decode cX8_isThere 23 = .ok (.ifCond .ne 7, 3) := by decide +kernel
theorem dX8_isThere_26 : decode cX8_isThere 26 = .ok (.iconst 2, 1) := by decide +kernel
theorem dX8_isThere_27 : decode cX8_isThere 27 = .ok (.goto 40, 3) := by decide +kernel
theorem dX8_isThere_30 : decode cX8_isThere 30 = .ok (.iload_n 2, 1) := by decide +kernel
theorem dX8_isThere_31 : decode cX8_isThere 31 = .ok (.i2l, 1) := by decide +kernel
theorem dX8_isThere_32 : decode cX8_isThere 32 = .ok (.lconst 0, 1) := by decide +kernel
theorem dX8_isThere_33 : decode cX8_isThere 33 = .ok (.aload_n 0, 1) := by decide +kernel
theorem dX8_isThere_34 : decode cX8_isThere 34 = .ok (.getfield 71, 3) := by decide +kernel
theorem dX8_isThere_37 : decode cX8_isThere 37 = .ok (.iconst 1, 1) := by decide +kernel
