theorem dX8_isThere_38 : decode cX8_isThere 38 = .ok (.isub, 1) := by decide +kernel
theorem dX8_isThere_39 : decode cX8_isThere 39 = .ok (.i2l, 1) := by decide +kernel
theorem dX8_isThere_40 : decode cX8_isThere 40 = .ok (.invokestatic 77, 3) := by decide +kernel
theorem dX8_isThere_43 : decode cX8_isThere 43 = .ok (.ifCond .eq 19, 3) := by decide +kernel
theorem dX8_isThere_46 : decode cX8_isThere 46 = .ok (.iload_n 3, 1) := by decide +kernel
theorem dX8_isThere_47 : decode cX8_isThere 47 = .ok (.i2l, 1) := by decide +kernel
theorem dX8_isThere_48 : decode cX8_isThere 48 = .ok (.lconst 0, 1) := by decide +kernel
theorem dX8_isThere_49 : decode cX8_isThere 49 = .ok (.aload_n 0, 1) := by decide +kernel
theorem dX8_isThere_50 : decode cX8_isThere 50 = .ok (.getfield 74, 3) := by decide +kernel
theorem dX8_isThere_53 : decode cX8_isThere 53 = .ok (.iconst 1, 1) := by decide +kernel
theorem dX8_isThere_54 : decode cX8_isThere 54 = .ok (.isub, 1) := by decide +kernel
theorem dX8_isThere_55 : decode cX8_isThere 55 = .ok (.i2l, 1) := by decide +kernel
theorem dX8_isThere_56 : decode cX8_isThere 56 = .ok (.invokestatic 77, 3) := by decide +kernel
theorem dX8_isThere_59 : decode cX8_isThere 59 = .ok (.ifCond .ne 7, 3) := by decide +kernel
theorem dX8_isThere_62 : decode cX8_isThere 62 = .ok (.iconst 3, 1) := by decide +kernel
theorem dX8_isThere_63 : decode cX8_isThere 63 = .ok (.goto 4, 3) := by decide +kernel
theorem dX8_isThere_66 : decode cX8_isThere 66 = .ok (.iconst 0, 1) := by decide +kernel
theorem dX8_isThere_67 : decode cX8_isThere 67 = .ok (.putfield 65, 3) := by decide +kernel
theorem dX8_isThere_70 : decode cX8_isThere 70 = .ok (.aload_n 0, 1) := by decide +kernel
theorem dX8_isThere_71 : decode cX8_isThere 71 = .ok (.getfield 65, 3) := by decide +kernel
theorem dX8_isThere_74 : decode cX8_isThere 74 = .ok (.ifCond .ne 7, 3) := by decide +kernel
theorem dX8_isThere_77 : decode cX8_isThere 77 = .ok (.iconst 1, 1) := by decide +kernel
theorem dX8_isThere_78 : decode cX8_isThere 78 = .ok (.goto 4, 3) := by decide +kernel
theorem dX8_isThere_81 : decode cX8_isThere 81 = .ok (.iconst 0, 1) := by decide +kernel
theorem dX8_isThere_82 : decode cX8_isThere 82 = .ok (.ireturn, 1) := by decide +kernel
set_option maxRecDepth 20000 in
theorem ggX8_degree_X8_isThere : GoodIn wsX8_degree wsX8_isThere := goodIn_r _ [6, 7, 8, 9, 10, 11, 12, 13, 5, 14, 15, 16, 17, 18, 19, 20, 21, 22, 23, 24, 25, 26, 27, 28, 29, 30, 31, 32, 33, 34, 35] (by decide +kernel) (by decide +kernel)
set_option maxRecDepth 20000 in
theorem gX8_degree_X8_isThere : GoodIn wsX8_degree (wsV RX8 187 RX8 yX8_isThere wsX8_isThere) := goodIn_app (goodIn_of _ (by decide +kernel)) ggX8_degree_X8_isThere
theorem dX8_degree_0 : decode cX8_degree 0 = .ok (.aload_n 0, 1) := by decide +kernel
theorem dX8_degree_1 : decode cX8_degree 1 = .ok (.iload_n 1, 1) := by decide +kernel
theorem dX8_degree_2 : decode cX8_degree 2 = .ok (.iload_n 2, 1) := by decide +kernel
theorem dX8_degree_3 : decode cX8_degree 3 = .ok (.iload_n 3, 1) := by decide +kernel
theorem dX8_degree_4 : decode cX8_degree 4 = .ok (.invokevirtual 187, 3) := by decide +kernel
theorem dX8_degree_7 : decode cX8_degree 7 = .ok (.ifCond .ne 5, 3) := by decide +kernel
theorem dX8_degree_10 : decode cX8_degree 10 = .ok (.iconst 0, 1) := by decide +kernel
theorem dX8_degree_11 : decode cX8_degree 11 = .ok (.ireturn, 1) := by decide +kernel
theorem dX8_degree_12 : decode cX8_degree 12 = .ok (.bipush 39, 2) := by decide +kernel
theorem dX8_degree_14 : decode cX8_degree 14 = .ok (.istore 4, 2) := by decide +kernel
theorem dX8_degree_16 : decode cX8_degree 16 = .ok (.iload 4, 2) := by decide +kernel
theorem dX8_degree_18 : decode cX8_degree 18 = .ok (.ifCond .lt 33, 3) := by decide +kernel
theorem dX8_degree_21 : decode cX8_degree 21 = .ok (.aload_n 0, 1) := by decide +kernel
theorem dX8_degree_22 : decode cX8_degree 22 = .ok (.getfield 17, 3) := by decide +kernel
theorem dX8_degree_25 : decode cX8_degree 25 = .ok (.bipush 40, 2) := by decide +kernel
theorem dX8_degree_27 : decode cX8_degree 27 = .ok (.bipush 16, 2) := by decide +kernel
theorem dX8_degree_29 : decode cX8_degree 29 = .ok (.iload_n 1, 1) := by decide +kernel
theorem dX8_degree_30 : decode cX8_degree 30 = .ok (.imul, 1) := by decide +kernel
theorem dX8_degree_31 : decode cX8_degree 31 = .ok (.iconst 4, 1) := by decide +kernel
theorem dX8_degree_32 : decode cX8_degree 32 = .ok (.iload_n 2, 1) := by decide +kernel
theorem dX8_degree_33 : decode cX8_degree 33 = .ok (.imul, 1) := by decide +kernel
theorem dX8_degree_34 : decode cX8_degree 34 = .ok (.iadd, 1) := by decide +kernel
theorem dX8_degree_35 : decode cX8_degree 35 = .ok (.iload_n 3, 1) := by decide +kernel
theorem dX8_degree_36 : decode cX8_degree 36 = .ok (.iadd, 1) := by decide +kernel
theorem dX8_degree_37 : decode cX8_degree 37 = .ok (.imul, 1) := by decide +kernel
theorem dX8_degree_38 : decode cX8_degree 38 = .ok (.iload 4, 2) := by decide +kernel
theorem dX8_degree_40 : decode cX8_degree 40 = .ok (.iadd, 1) := by decide +kernel
theorem dX8_degree_41 : decode cX8_degree 41 = .ok (.iaload, 1) := by decide +kernel
theorem dX8_degree_42 : decode cX8_degree 42 = .ok (.ifCond .ne 9, 3) := by decide +kernel
theorem dX8_degree_45 : decode cX8_degree 45 = .ok (.iinc 4 (-1), 3) := by decide +kernel
theorem dX8_degree_48 : decode cX8_degree 48 = .ok (.goto (-32), 3) := by decide +kernel
theorem dX8_degree_51 : decode cX8_degree 51 = .ok (.iload 4, 2) := by decide +kernel
theorem dX8_degree_53 : decode cX8_degree 53 = .ok (.ireturn, 1) := by decide +kernel
set_option maxRecDepth 20000 in
theorem ggX8_at_X8_isThere : GoodIn wsX8_at wsX8_isThere := goodIn_r _ [7, 8, 9, 10, 11, 12, 13, 14, 6, 15, 16, 17, 18, 19, 20, 21, 22, 23, 24, 25, 26, 27, 28, 29, 30, 31, 32, 33, 34, 35, 36] (by decide +kernel) (by decide +kernel)
set_option maxRecDepth 20000 in
theorem gX8_at_X8_isThere : GoodIn wsX8_at (wsV RX8 187 RX8 yX8_isThere wsX8_isThere) := goodIn_app (goodIn_of _ (by decide +kernel)) ggX8_at_X8_isThere
set_option maxRecDepth 20000 in
theorem ggX8_at_X8_in : GoodIn wsX8_at wsX8_in := goodIn_r _ [15] (by decide +kernel) (by decide +kernel)
set_option maxRecDepth 20000 in
theorem gX8_at_X8_in : GoodIn wsX8_at (va_wsS RX8 77 yX8_in wsX8_in) := goodIn_app (goodIn_of _ (by decide +kernel)) ggX8_at_X8_in
theorem dX8_at_0 : decode cX8_at 0 = .ok (.aload_n 0, 1) := by decide +kernel
theorem dX8_at_1 : decode cX8_at 1 = .ok (.iload_n 1, 1) := by decide +kernel
theorem dX8_at_2 : decode cX8_at 2 = .ok (.iload_n 2, 1) := by decide +kernel
theorem dX8_at_3 : decode cX8_at 3 = .ok (.iload_n 3, 1) := by decide +kernel
theorem dX8_at_4 : decode cX8_at 4 = .ok (.invokevirtual 187, 3) := by decide +kernel
theorem dX8_at_7 : decode cX8_at 7 = .ok (.ifCond .ne 5, 3) := by decide +kernel
theorem dX8_at_10 : decode cX8_at 10 = .ok (.iconst 0, 1) := by decide +kernel
theorem dX8_at_11 : decode cX8_at 11 = .ok (.ireturn, 1) := by decide +kernel
theorem dX8_at_12 : decode cX8_at 12 = .ok (.iload 4, 2) := by decide +kernel
theorem dX8_at_14 : decode cX8_at 14 = .ok (.i2l, 1) := by decide +kernel
theorem dX8_at_15 : decode cX8_at 15 = .ok (.lconst 0, 1) := by decide +kernel
theorem dX8_at_16 : decode cX8_at 16 = .ok (.ldc2_w 190, 3) := by decide +kernel
theorem dX8_at_19 : decode cX8_at 19 = .ok (.invokestatic 77, 3) := by decide +kernel
theorem dX8_at_22 : decode cX8_at 22 = .ok (.ifCond .eq 27, 3) := by decide +kernel
theorem dX8_at_25 : decode cX8_at 25 = .ok (.aload_n 0, 1) := by decide +kernel
theorem dX8_at_26 : decode cX8_at 26 = .ok (.getfield 17, 3) := by decide +kernel
theorem dX8_at_29 : decode cX8_at 29 = .ok (.bipush 40, 2) := by decide +kernel
theorem dX8_at_31 : decode cX8_at 31 = .ok (.bipush 16, 2) := by decide +kernel
theorem dX8_at_33 : decode cX8_at 33 = .ok (.iload_n 1, 1) := by decide +kernel
theorem dX8_at_34 : decode cX8_at 34 = .ok (.imul, 1) := by decide +kernel
theorem dX8_at_35 : decode cX8_at 35 = .ok (.iconst 4, 1) := by decide +kernel
theorem dX8_at_36 : decode cX8_at 36 = .ok (.iload_n 2, 1) := by decide +kernel
theorem dX8_at_37 : decode cX8_at 37 = .ok (.imul, 1) := by decide +kernel
theorem dX8_at_38 : decode cX8_at 38 = .ok (.iadd, 1) := by decide +kernel
theorem dX8_at_39 : decode cX8_at 39 = .ok (.iload_n 3, 1) := by decide +kernel
theorem dX8_at_40 : decode cX8_at 40 = .ok (.iadd, 1) := by decide +kernel
theorem dX8_at_41 : decode cX8_at 41 = .ok (.imul, 1) := by decide +kernel
theorem dX8_at_42 : decode cX8_at 42 = .ok (.iload 4, 2) := by decide +kernel
theorem dX8_at_44 : decode cX8_at 44 = .ok (.iadd, 1) := by decide +kernel
theorem dX8_at_45 : decode cX8_at 45 = .ok (.iaload, 1) := by decide +kernel
theorem dX8_at_46 : decode cX8_at 46 = .ok (.goto 4, 3) := by decide +kernel
theorem dX8_at_49 : decode cX8_at 49 = .ok (.iconst 0, 1) := by decide +kernel
theorem dX8_at_50 : decode cX8_at 50 = .ok (.ireturn, 1) := by decide +kernel
set_option maxRecDepth 20000 in
theorem ggX8_loadNumbers_X8_findMinors : GoodIn wsX8_loadNumbers wsX8_findMinors := goodIn_r _ [8, 9, 10, 11, 7, 12, 13, 14, 15, 16, 1, 17, 18, 19, 20, 21, 22, 23, 24, 25, 26, 27, 28, 29, 30, 31, 32, 33, 34, 35, 36, 37, 38, 39, 40, 41] (by decide +kernel) (by decide +kernel)
set_option maxRecDepth 20000 in
theorem gX8_loadNumbers_X8_findMinors : GoodIn wsX8_loadNumbers (wsV RX8 99 RX8 yX8_findMinors wsX8_findMinors) := goodIn_app (goodIn_of _ (by decide +kernel)) ggX8_loadNumbers_X8_findMinors
theorem dX8_loadNumbers_0 : decode cX8_loadNumbers 0 = .ok (.iconst 0, 1) := by decide +kernel
theorem dX8_loadNumbers_1 : decode cX8_loadNumbers 1 = .ok (.istore_n 1, 1) := by decide +kernel
theorem dX8_loadNumbers_2 : decode cX8_loadNumbers 2 = .ok (.iload_n 1, 1) := by decide +kernel
theorem dX8_loadNumbers_3 : decode cX8_loadNumbers 3 = .ok (.bipush 64, 2) := by decide +kernel
theorem dX8_loadNumbers_5 : decode cX8_loadNumbers 5 = .ok (.if_icmp .ge 16, 3) := by decide +kernel
theorem dX8_loadNumbers_8 : decode cX8_loadNumbers 8 = .ok (.aload_n 0, 1) := by decide +kernel
theorem dX8_loadNumbers_9 : decode cX8_loadNumbers 9 = .ok (.getfield 23, 3) := by decide +kernel
theorem dX8_loadNumbers_12 : decode cX8_loadNumbers 12 = .ok (.iload_n 1, 1) := by decide +kernel
theorem dX8_loadNumbers_13 : decode cX8_loadNumbers 13 = .ok (.iconst 0, 1) := by decide +kernel
theorem dX8_loadNumbers_14 : decode cX8_loadNumbers 14 = .ok (.iastore, 1) := by decide +kernel
theorem dX8_loadNumbers_15 : decode cX8_loadNumbers 15 = .ok (.iinc 1 1, 3) := by decide +kernel
theorem dX8_loadNumbers_18 : decode cX8_loadNumbers 18 = .ok (.goto (-16), 3) := by decide +kernel
theorem dX8_loadNumbers_21 : decode cX8_loadNumbers 21 = .ok (.iconst 0, 1) := by decide +kernel
theorem dX8_loadNumbers_22 : decode cX8_loadNumbers 22 = .ok (.istore_n 1, 1) := by decide +kernel
theorem dX8_loadNumbers_23 : decode cX8_loadNumbers 23 = .ok (.iload_n 1, 1) := by decide +kernel
theorem dX8_loadNumbers_24 : decode cX8_loadNumbers 24 = .ok (.aload_n 0, 1) := by decide +kernel
theorem dX8_loadNumbers_25 : decode cX8_loadNumbers 25 = .ok (.getfield 71, 3) := by decide +kernel
theorem dX8_loadNumbers_28 : decode cX8_loadNumbers 28 = .ok (.if_icmp .ge 75, 3) := by decide +kernel
theorem dX8_loadNumbers_31 : decode cX8_loadNumbers 31 = .ok (.iconst 0, 1) := by decide +kernel
theorem dX8_loadNumbers_32 : decode cX8_loadNumbers 32 = .ok (.istore_n 2, 1) := by decide +kernel
theorem dX8_loadNumbers_33 : decode cX8_loadNumbers 33 = .ok (.iload_n 2, 1) := by decide +kernel
theorem dX8_loadNumbers_34 : decode cX8_loadNumbers 34 = .ok (.aload_n 0, 1) := by decide +kernel
theorem dX8_loadNumbers_35 : decode cX8_loadNumbers 35 = .ok (.getfield 71, 3) := by decide +kernel
theorem dX8_loadNumbers_38 : decode cX8_loadNumbers 38 = .ok (.if_icmp .ge 43, 3) := by decide +kernel
theorem dX8_loadNumbers_41 : decode cX8_loadNumbers 41 = .ok (.aload_n 0, 1) := by decide +kernel
theorem dX8_loadNumbers_42 : decode cX8_loadNumbers 42 = .ok (.getfield 23, 3) := by decide +kernel
theorem dX8_loadNumbers_45 : decode cX8_loadNumbers 45 = .ok (.bipush 16, 2) := by decide +kernel
theorem dX8_loadNumbers_47 : decode cX8_loadNumbers 47 = .ok (.iload_n 1, 1) := by decide +kernel
theorem dX8_loadNumbers_48 : decode cX8_loadNumbers 48 = .ok (.imul, 1) := by decide +kernel
theorem dX8_loadNumbers_49 : decode cX8_loadNumbers 49 = .ok (.iconst 4, 1) := by decide +kernel
theorem dX8_loadNumbers_50 : decode cX8_loadNumbers 50 = .ok (.iload_n 2, 1) := by decide +kernel
theorem dX8_loadNumbers_51 : decode cX8_loadNumbers 51 = .ok (.imul, 1) := by decide +kernel
theorem dX8_loadNumbers_52 : decode cX8_loadNumbers 52 = .ok (.iadd, 1) := by decide +kernel
theorem dX8_loadNumbers_53 : decode cX8_loadNumbers 53 = .ok (.sipush 32003, 3) := by decide +kernel
theorem dX8_loadNumbers_56 : decode cX8_loadNumbers 56 = .ok (.aload_n 0, 1) := by decide +kernel
theorem dX8_loadNumbers_57 : decode cX8_loadNumbers 57 = .ok (.getfield 7, 3) := by decide +kernel
theorem dX8_loadNumbers_60 : decode cX8_loadNumbers 60 = .ok (.bipush 16, 2) := by decide +kernel
theorem dX8_loadNumbers_62 : decode cX8_loadNumbers 62 = .ok (.iload_n 1, 1) := by decide +kernel
theorem dX8_loadNumbers_63 : decode cX8_loadNumbers 63 = .ok (.imul, 1) := by decide +kernel
theorem dX8_loadNumbers_64 : decode cX8_loadNumbers 64 = .ok (.iconst 4, 1) := by decide +kernel
theorem dX8_loadNumbers_65 : decode cX8_loadNumbers 65 = .ok (.iload_n 2, 1) := by decide +kernel
theorem dX8_loadNumbers_66 : decode cX8_loadNumbers 66 = .ok (.imul, 1) := by decide +kernel
theorem dX8_loadNumbers_67 : decode cX8_loadNumbers 67 = .ok (.iadd, 1) := by decide +kernel
theorem dX8_loadNumbers_68 : decode cX8_loadNumbers 68 = .ok (.iaload, 1) := by decide +kernel
theorem dX8_loadNumbers_69 : decode cX8_loadNumbers 69 = .ok (.isub, 1) := by decide +kernel
theorem dX8_loadNumbers_70 : decode cX8_loadNumbers 70 = .ok (.sipush 32003, 3) := by decide +kernel
theorem dX8_loadNumbers_73 : decode cX8_loadNumbers 73 = .ok (.irem, 1) := by decide +kernel
theorem dX8_loadNumbers_74 : decode cX8_loadNumbers 74 = .ok (.iastore, 1) := by decide +kernel
theorem dX8_loadNumbers_75 : decode cX8_loadNumbers 75 = .ok (.iinc 2 1, 3) := by decide +kernel
theorem dX8_loadNumbers_78 : decode cX8_loadNumbers 78 = .ok (.goto (-45), 3) := by decide +kernel
theorem dX8_loadNumbers_81 : decode cX8_loadNumbers 81 = .ok (.aload_n 0, 1) := by decide +kernel
theorem dX8_loadNumbers_82 : decode cX8_loadNumbers 82 = .ok (.getfield 23, 3) := by decide +kernel
theorem dX8_loadNumbers_85 : decode cX8_loadNumbers 85 = .ok (.bipush 16, 2) := by decide +kernel
theorem dX8_loadNumbers_87 : decode cX8_loadNumbers 87 = .ok (.iload_n 1, 1) := by decide +kernel
theorem dX8_loadNumbers_88 : decode cX8_loadNumbers 88 = .ok (.imul, 1) := by decide +kernel
theorem dX8_loadNumbers_89 : decode cX8_loadNumbers 89 = .ok (.iconst 4, 1) := by decide +kernel
theorem dX8_loadNumbers_90 : decode cX8_loadNumbers 90 = .ok (.iload_n 1, 1) := by decide +kernel
theorem dX8_loadNumbers_91 : decode cX8_loadNumbers 91 = .ok (.imul, 1) := by decide +kernel
theorem dX8_loadNumbers_92 : decode cX8_loadNumbers 92 = .ok (.iadd, 1) := by decide +kernel
theorem dX8_loadNumbers_93 : decode cX8_loadNumbers 93 = .ok (.iconst 1, 1) := by decide +kernel
theorem dX8_loadNumbers_94 : decode cX8_loadNumbers 94 = .ok (.iadd, 1) := by decide +kernel
theorem dX8_loadNumbers_95 : decode cX8_loadNumbers 95 = .ok (.iconst 1, 1) := by decide +kernel
theorem dX8_loadNumbers_96 : decode cX8_loadNumbers 96 = .ok (.iastore, 1) := by decide +kernel
theorem dX8_loadNumbers_97 : decode cX8_loadNumbers 97 = .ok (.iinc 1 1, 3) := by decide +kernel
theorem dX8_loadNumbers_100 : decode cX8_loadNumbers 100 = .ok (.goto (-77), 3) := by decide +kernel
theorem dX8_loadNumbers_103 : decode cX8_loadNumbers 103 = .ok (.aload_n 0, 1) := by decide +kernel
theorem dX8_loadNumbers_104 : decode cX8_loadNumbers 104 = .ok (.invokevirtual 99, 3) := by decide +kernel
theorem dX8_loadNumbers_107 : decode cX8_loadNumbers 107 = .ok (.return_, 1) := by decide +kernel
set_option maxRecDepth 20000 in
theorem ggX8_characteristic_X8_isSquare : GoodIn wsX8_characteristic wsX8_isSquare := goodIn_r _ [7, 8, 9, 10, 39, 40, 41, 42, 43, 44, 45, 46, 47, 48, 49, 50, 51, 52, 53, 54, 55, 56, 57, 58, 59] (by decide +kernel) (by decide +kernel)
set_option maxRecDepth 20000 in
theorem gX8_characteristic_X8_isSquare : GoodIn wsX8_characteristic (wsV RX8 113 RX8 yX8_isSquare wsX8_isSquare) := goodIn_app (goodIn_of _ (by decide +kernel)) ggX8_characteristic_X8_isSquare
set_option maxRecDepth 20000 in
theorem ggX8_characteristic_X8_loadNumbers : GoodIn wsX8_characteristic wsX8_loadNumbers := goodIn_r _ [14, 15, 8, 16, 17, 18, 19, 6, 20, 2, 21, 22, 23, 24, 25, 26, 27, 28, 29, 30, 31, 39, 40, 41, 42, 43, 44, 45, 46, 47, 48, 49, 50, 51, 52, 53, 54, 55, 56, 57, 58, 59] (by decide +kernel) (by decide +kernel)
set_option maxRecDepth 20000 in
theorem gX8_characteristic_X8_loadNumbers : GoodIn wsX8_characteristic (wsV RX8 192 RX8 yX8_loadNumbers wsX8_loadNumbers) := goodIn_app (goodIn_of _ (by decide +kernel)) ggX8_characteristic_X8_loadNumbers
set_option maxRecDepth 20000 in
theorem ggX8_characteristic_X8_in : GoodIn wsX8_characteristic wsX8_in := goodIn_r _ [34] (by decide +kernel) (by decide +kernel)
set_option maxRecDepth 20000 in
theorem gX8_characteristic_X8_in : GoodIn wsX8_characteristic (va_wsS RX8 77 yX8_in wsX8_in) := goodIn_app (goodIn_of _ (by decide +kernel)) ggX8_characteristic_X8_in
set_option maxRecDepth 20000 in
theorem ggX8_characteristic_X8_whole : GoodIn wsX8_characteristic wsX8_whole := goodIn_r _ [38, 8, 39, 40, 41, 42, 43, 44, 45, 46, 47, 48, 49, 50, 51, 52, 53, 54, 55, 56, 57, 58, 59] (by decide +kernel) (by decide +kernel)
set_option maxRecDepth 20000 in
theorem gX8_characteristic_X8_whole : GoodIn wsX8_characteristic (wsV RX8 119 RX8 yX8_whole wsX8_whole) := goodIn_app (goodIn_of _ (by decide +kernel)) ggX8_characteristic_X8_whole
theorem dX8_characteristic_0 : decode cX8_characteristic 0 = .ok (.aload_n 0, 1) := by decide +kernel
theorem dX8_characteristic_1 : decode cX8_characteristic 1 = .ok (.invokevirtual 113, 3) := by decide +kernel
theorem dX8_characteristic_4 : decode cX8_characteristic 4 = .ok (.ifCond .ne 5, 3) := by decide +kernel
theorem dX8_characteristic_7 : decode cX8_characteristic 7 = .ok (.iconst 0, 1) := by decide +kernel
theorem dX8_characteristic_8 : decode cX8_characteristic 8 = .ok (.ireturn, 1) := by decide +kernel
theorem dX8_characteristic_9 : decode cX8_characteristic 9 = .ok (.aload_n 0, 1) := by decide +kernel
theorem dX8_characteristic_10 : decode cX8_characteristic 10 = .ok (.invokevirtual 192, 3) := by decide +kernel
theorem dX8_characteristic_13 : decode cX8_characteristic 13 = .ok (.iload_n 1, 1) := by decide +kernel
theorem dX8_characteristic_14 : decode cX8_characteristic 14 = .ok (.i2l, 1) := by decide +kernel
theorem dX8_characteristic_15 : decode cX8_characteristic 15 = .ok (.lconst 0, 1) := by decide +kernel
theorem dX8_characteristic_16 : decode cX8_characteristic 16 = .ok (.ldc2_w 117, 3) := by decide +kernel
theorem dX8_characteristic_19 : decode cX8_characteristic 19 = .ok (.invokestatic 77, 3) := by decide +kernel
theorem dX8_characteristic_22 : decode cX8_characteristic 22 = .ok (.ifCond .eq 17, 3) := by decide +kernel
theorem dX8_characteristic_25 : decode cX8_characteristic 25 = .ok (.aload_n 0, 1) := by decide +kernel
theorem dX8_characteristic_26 : decode cX8_characteristic 26 = .ok (.getfield 20, 3) := by decide +kernel
theorem dX8_characteristic_29 : decode cX8_characteristic 29 = .ok (.aload_n 0, 1) := by decide +kernel
theorem dX8_characteristic_30 : decode cX8_characteristic 30 = .ok (.invokevirtual 119, 3) := by decide +kernel
theorem dX8_characteristic_33 : decode cX8_characteristic 33 = .ok (.iload_n 1, 1) := by decide +kernel
theorem dX8_characteristic_34 : decode cX8_characteristic 34 = .ok (.iadd, 1) := by decide +kernel
theorem dX8_characteristic_35 : decode cX8_characteristic 35 = .ok (.iaload, 1) := by decide +kernel
theorem dX8_characteristic_36 : decode cX8_characteristic 36 = .ok (.goto 4, 3) := by decide +kernel
theorem dX8_characteristic_39 : decode cX8_characteristic 39 = .ok (.iconst 0, 1) := by decide +kernel
theorem dX8_characteristic_40 : decode cX8_characteristic 40 = .ok (.ireturn, 1) := by decide +kernel
theorem dX8_numberAt_0 : decode cX8_numberAt 0 = .ok (.aload_n 0, 1) := by decide +kernel
theorem dX8_numberAt_1 : decode cX8_numberAt 1 = .ok (.getfield 7, 3) := by decide +kernel
theorem dX8_numberAt_4 : decode cX8_numberAt 4 = .ok (.bipush 16, 2) := by decide +kernel
theorem dX8_numberAt_6 : decode cX8_numberAt 6 = .ok (.iload_n 1, 1) := by decide +kernel
theorem dX8_numberAt_7 : decode cX8_numberAt 7 = .ok (.imul, 1) := by decide +kernel
theorem dX8_numberAt_8 : decode cX8_numberAt 8 = .ok (.iconst 4, 1) := by decide +kernel
theorem dX8_numberAt_9 : decode cX8_numberAt 9 = .ok (.iload_n 2, 1) := by decide +kernel
theorem dX8_numberAt_10 : decode cX8_numberAt 10 = .ok (.imul, 1) := by decide +kernel
theorem dX8_numberAt_11 : decode cX8_numberAt 11 = .ok (.iadd, 1) := by decide +kernel
theorem dX8_numberAt_12 : decode cX8_numberAt 12 = .ok (.iaload, 1) := by decide +kernel
theorem dX8_numberAt_13 : decode cX8_numberAt 13 = .ok (.ireturn, 1) := by decide +kernel
set_option maxRecDepth 20000 in
theorem ggX8_findLeast_X8_timesNumbers : GoodIn wsX8_findLeast wsX8_timesNumbers := goodIn_r _ [12, 2, 3, 6, 13, 14, 15, 11, 16, 17, 28, 29, 30, 31, 32, 33, 34, 35, 36, 37, 38, 39, 40, 41, 42, 43, 44, 45, 46, 47, 48] (by decide +kernel) (by decide +kernel)
set_option maxRecDepth 20000 in
theorem gX8_findLeast_X8_timesNumbers : GoodIn wsX8_findLeast (wsV RX8 195 RX8 yX8_timesNumbers wsX8_timesNumbers) := goodIn_app (goodIn_of _ (by decide +kernel)) ggX8_findLeast_X8_timesNumbers
set_option maxRecDepth 20000 in
theorem ggX8_findLeast_X8_clearBy : GoodIn wsX8_findLeast wsX8_clearBy := goodIn_r _ [21, 5, 1, 4, 7, 22, 23, 11, 24, 6, 28, 29, 30, 31, 32, 33, 34, 35, 36, 37, 38, 39, 40, 41, 42, 43, 44, 45, 46, 47, 48] (by decide +kernel) (by decide +kernel)
set_option maxRecDepth 20000 in
theorem gX8_findLeast_X8_clearBy : GoodIn wsX8_findLeast (wsV RX8 199 RX8 yX8_clearBy wsX8_clearBy) := goodIn_app (goodIn_of _ (by decide +kernel)) ggX8_findLeast_X8_clearBy
set_option maxRecDepth 20000 in
theorem ggX8_findLeast_X8_inverse : GoodIn wsX8_findLeast wsX8_inverse := goodIn_r _ [27, 6] (by decide +kernel) (by decide +kernel)
set_option maxRecDepth 20000 in
theorem gX8_findLeast_X8_inverse : GoodIn wsX8_findLeast (va_wsS RX8 126 yX8_inverse wsX8_inverse) := goodIn_app (goodIn_of _ (by decide +kernel)) ggX8_findLeast_X8_inverse
theorem dX8_findLeast_0 : decode cX8_findLeast 0 = .ok (.iconst 0, 1) := by decide +kernel
theorem dX8_findLeast_1 : decode cX8_findLeast 1 = .ok (.istore_n 1, 1) := by decide +kernel
theorem dX8_findLeast_2 : decode cX8_findLeast 2 = .ok (.iconst 0, 1) := by decide +kernel
theorem dX8_findLeast_3 : decode cX8_findLeast 3 = .ok (.istore_n 2, 1) := by decide +kernel
theorem dX8_findLeast_4 : decode cX8_findLeast 4 = .ok (.iload_n 2, 1) := by decide +kernel
theorem dX8_findLeast_5 : decode cX8_findLeast 5 = .ok (.bipush 16, 2) := by decide +kernel
theorem dX8_findLeast_7 : decode cX8_findLeast 7 = .ok (.if_icmp .ge 59, 3) := by decide +kernel
theorem dX8_findLeast_10 : decode cX8_findLeast 10 = .ok (.aload_n 0, 1) := by decide +kernel
theorem dX8_findLeast_11 : decode cX8_findLeast 11 = .ok (.getfield 50, 3) := by decide +kernel
theorem dX8_findLeast_14 : decode cX8_findLeast 14 = .ok (.iload_n 2, 1) := by decide +kernel
theorem dX8_findLeast_15 : decode cX8_findLeast 15 = .ok (.iload_n 1, 1) := by decide +kernel
theorem dX8_findLeast_16 : decode cX8_findLeast 16 = .ok (.ifCond .ne 30, 3) := by decide +kernel
theorem dX8_findLeast_19 : decode cX8_findLeast 19 = .ok (.iload_n 2, 1) := by decide +kernel
theorem dX8_findLeast_20 : decode cX8_findLeast 20 = .ok (.iconst 4, 1) := by decide +kernel
theorem dX8_findLeast_21 : decode cX8_findLeast 21 = .ok (.idiv, 1) := by decide +kernel
theorem dX8_findLeast_22 : decode cX8_findLeast 22 = .ok (.iload_n 2, 1) := by decide +kernel
theorem dX8_findLeast_23 : decode cX8_findLeast 23 = .ok (.iconst 4, 1) := by decide +kernel
theorem dX8_findLeast_24 : decode cX8_findLeast 24 = .ok (.irem, 1) := by decide +kernel
theorem dX8_findLeast_25 : decode cX8_findLeast 25 = .ok (.if_icmp .ne 17, 3) := by decide +kernel
theorem dX8_findLeast_28 : decode cX8_findLeast 28 = .ok (.iload_n 2, 1) := by decide +kernel
theorem dX8_findLeast_29 : decode cX8_findLeast 29 = .ok (.iconst 4, 1) := by decide +kernel
theorem dX8_findLeast_30 : decode cX8_findLeast 30 = .ok (.idiv, 1) := by decide +kernel
theorem dX8_findLeast_31 : decode cX8_findLeast 31 = .ok (.aload_n 0, 1) := by decide +kernel
theorem dX8_findLeast_32 : decode cX8_findLeast 32 = .ok (.getfield 71, 3) := by decide +kernel
theorem dX8_findLeast_35 : decode cX8_findLeast 35 = .ok (.if_icmp .ge 7, 3) := by decide +kernel
theorem dX8_findLeast_38 : decode cX8_findLeast 38 = .ok (.iconst 1, 1) := by decide +kernel
theorem dX8_findLeast_39 : decode cX8_findLeast 39 = .ok (.goto 20, 3) := by decide +kernel
theorem dX8_findLeast_42 : decode cX8_findLeast 42 = .ok (.iconst 0, 1) := by decide +kernel
theorem dX8_findLeast_43 : decode cX8_findLeast 43 = .ok (.goto 16, 3) := by decide +kernel
theorem dX8_findLeast_46 : decode cX8_findLeast 46 = .ok (.aload_n 0, 1) := by decide +kernel
theorem dX8_findLeast_47 : decode cX8_findLeast 47 = .ok (.iload_n 1, 1) := by decide +kernel
theorem dX8_findLeast_48 : decode cX8_findLeast 48 = .ok (.iconst 1, 1) := by decide +kernel
theorem dX8_findLeast_49 : decode cX8_findLeast 49 = .ok (.isub, 1) := by decide +kernel
theorem dX8_findLeast_50 : decode cX8_findLeast 50 = .ok (.iload_n 2, 1) := by decide +kernel
theorem dX8_findLeast_51 : decode cX8_findLeast 51 = .ok (.iconst 4, 1) := by decide +kernel
theorem dX8_findLeast_52 : decode cX8_findLeast 52 = .ok (.idiv, 1) := by decide +kernel
theorem dX8_findLeast_53 : decode cX8_findLeast 53 = .ok (.iload_n 2, 1) := by decide +kernel
theorem dX8_findLeast_54 : decode cX8_findLeast 54 = .ok (.iconst 4, 1) := by decide +kernel
theorem dX8_findLeast_55 : decode cX8_findLeast 55 = .ok (.irem, 1) := by decide +kernel
theorem dX8_findLeast_56 : decode cX8_findLeast 56 = .ok (.invokevirtual 195, 3) := by decide +kernel
theorem dX8_findLeast_59 : decode cX8_findLeast 59 = .ok (.iastore, 1) := by decide +kernel
theorem dX8_findLeast_60 : decode cX8_findLeast 60 = .ok (.iinc 2 1, 3) := by decide +kernel
theorem dX8_findLeast_63 : decode cX8_findLeast 63 = .ok (.goto (-59), 3) := by decide +kernel
theorem dX8_findLeast_66 : decode cX8_findLeast 66 = .ok (.iconst 0, 1) := by decide +kernel
theorem dX8_findLeast_67 : decode cX8_findLeast 67 = .ok (.istore_n 2, 1) := by decide +kernel
theorem dX8_findLeast_68 : decode cX8_findLeast 68 = .ok (.iload_n 2, 1) := by decide +kernel
theorem dX8_findLeast_69 : decode cX8_findLeast 69 = .ok (.bipush 16, 2) := by decide +kernel
theorem dX8_findLeast_71 : decode cX8_findLeast 71 = .ok (.if_icmp .ge 26, 3) := by decide +kernel
theorem dX8_findLeast_74 : decode cX8_findLeast 74 = .ok (.aload_n 0, 1) := by decide +kernel
theorem dX8_findLeast_75 : decode cX8_findLeast 75 = .ok (.getfield 44, 3) := by decide +kernel
theorem dX8_findLeast_78 : decode cX8_findLeast 78 = .ok (.bipush 16, 2) := by decide +kernel
theorem dX8_findLeast_80 : decode cX8_findLeast 80 = .ok (.iload_n 1, 1) := by decide +kernel
theorem dX8_findLeast_81 : decode cX8_findLeast 81 = .ok (.imul, 1) := by decide +kernel
theorem dX8_findLeast_82 : decode cX8_findLeast 82 = .ok (.iload_n 2, 1) := by decide +kernel
theorem dX8_findLeast_83 : decode cX8_findLeast 83 = .ok (.iadd, 1) := by decide +kernel
theorem dX8_findLeast_84 : decode cX8_findLeast 84 = .ok (.aload_n 0, 1) := by decide +kernel
theorem dX8_findLeast_85 : decode cX8_findLeast 85 = .ok (.getfield 50, 3) := by decide +kernel
theorem dX8_findLeast_88 : decode cX8_findLeast 88 = .ok (.iload_n 2, 1) := by decide +kernel
theorem dX8_findLeast_89 : decode cX8_findLeast 89 = .ok (.iaload, 1) := by decide +kernel
theorem dX8_findLeast_90 : decode cX8_findLeast 90 = .ok (.iastore, 1) := by decide +kernel
theorem dX8_findLeast_91 : decode cX8_findLeast 91 = .ok (.iinc 2 1, 3) := by decide +kernel
theorem dX8_findLeast_94 : decode cX8_findLeast 94 = .ok (.goto (-26), 3) := by decide +kernel
theorem dX8_findLeast_97 : decode cX8_findLeast 97 = .ok (.iconst 0, 1) := by decide +kernel
theorem dX8_findLeast_98 : decode cX8_findLeast 98 = .ok (.istore_n 2, 1) := by decide +kernel
theorem dX8_findLeast_99 : decode cX8_findLeast 99 = .ok (.iload_n 2, 1) := by decide +kernel
theorem dX8_findLeast_100 : decode cX8_findLeast 100 = .ok (.iconst 5, 1) := by decide +kernel
theorem dX8_findLeast_101 : decode cX8_findLeast 101 = .ok (.if_icmp .ge 25, 3) := by decide +kernel
theorem dX8_findLeast_104 : decode cX8_findLeast 104 = .ok (.aload_n 0, 1) := by decide +kernel
theorem dX8_findLeast_105 : decode cX8_findLeast 105 = .ok (.getfield 53, 3) := by decide +kernel
theorem dX8_findLeast_108 : decode cX8_findLeast 108 = .ok (.iload_n 2, 1) := by decide +kernel
theorem dX8_findLeast_109 : decode cX8_findLeast 109 = .ok (.iload_n 2, 1) := by decide +kernel
theorem dX8_findLeast_110 : decode cX8_findLeast 110 = .ok (.iload_n 1, 1) := by decide +kernel
theorem dX8_findLeast_111 : decode cX8_findLeast 111 = .ok (.if_icmp .ne 7, 3) := by decide +kernel
theorem dX8_findLeast_114 : decode cX8_findLeast 114 = .ok (.iconst 1, 1) := by decide +kernel
theorem dX8_findLeast_115 : decode cX8_findLeast 115 = .ok (.goto 4, 3) := by decide +kernel
theorem dX8_findLeast_118 : decode cX8_findLeast 118 = .ok (.iconst 0, 1) := by decide +kernel
theorem dX8_findLeast_119 : decode cX8_findLeast 119 = .ok (.iastore, 1) := by decide +kernel
theorem dX8_findLeast_120 : decode cX8_findLeast 120 = .ok (.iinc 2 1, 3) := by decide +kernel
theorem dX8_findLeast_123 : decode cX8_findLeast 123 = .ok (.goto (-24), 3) := by decide +kernel
theorem dX8_findLeast_126 : decode cX8_findLeast 126 = .ok (.iconst 0, 1) := by decide +kernel
theorem dX8_findLeast_127 : decode cX8_findLeast 127 = .ok (.istore_n 2, 1) := by decide +kernel
theorem dX8_findLeast_128 : decode cX8_findLeast 128 = .ok (.iload_n 2, 1) := by decide +kernel
theorem dX8_findLeast_129 : decode cX8_findLeast 129 = .ok (.iload_n 1, 1) := by decide +kernel
theorem dX8_findLeast_130 : decode cX8_findLeast 130 = .ok (.if_icmp .ge 14, 3) := by decide +kernel
theorem dX8_findLeast_133 : decode cX8_findLeast 133 = .ok (.aload_n 0, 1) := by decide +kernel
theorem dX8_findLeast_134 : decode cX8_findLeast 134 = .ok (.iload_n 2, 1) := by decide +kernel
theorem dX8_findLeast_135 : decode cX8_findLeast 135 = .ok (.invokevirtual 199, 3) := by decide +kernel
theorem dX8_findLeast_138 : decode cX8_findLeast 138 = .ok (.iinc 2 1, 3) := by decide +kernel
theorem dX8_findLeast_141 : decode cX8_findLeast 141 = .ok (.goto (-13), 3) := by decide +kernel
theorem dX8_findLeast_144 : decode cX8_findLeast 144 = .ok (.iconst 0, 1) := by decide +kernel
theorem dX8_findLeast_145 : decode cX8_findLeast 145 = .ok (.istore_n 2, 1) := by decide +kernel
theorem dX8_findLeast_146 : decode cX8_findLeast 146 = .ok (.iload_n 2, 1) := by decide +kernel
theorem dX8_findLeast_147 : decode cX8_findLeast 147 = .ok (.bipush 16, 2) := by decide +kernel
theorem dX8_findLeast_149 : decode cX8_findLeast 149 = .ok (.if_icmp .ge 18, 3) := by decide +kernel
theorem dX8_findLeast_152 : decode cX8_findLeast 152 = .ok (.aload_n 0, 1) := by decide +kernel
theorem dX8_findLeast_153 : decode cX8_findLeast 153 = .ok (.getfield 50, 3) := by decide +kernel
theorem dX8_findLeast_156 : decode cX8_findLeast 156 = .ok (.iload_n 2, 1) := by decide +kernel
theorem dX8_findLeast_157 : decode cX8_findLeast 157 = .ok (.iaload, 1) := by decide +kernel
theorem dX8_findLeast_158 : decode cX8_findLeast 158 = .ok (.ifCond .ne 9, 3) := by decide +kernel
theorem dX8_findLeast_161 : decode cX8_findLeast 161 = .ok (.iinc 2 1, 3) := by decide +kernel
theorem dX8_findLeast_164 : decode cX8_findLeast 164 = .ok (.goto (-18), 3) := by decide +kernel
theorem dX8_findLeast_167 : decode cX8_findLeast 167 = .ok (.iload_n 2, 1) := by decide +kernel
theorem dX8_findLeast_168 : decode cX8_findLeast 168 = .ok (.bipush 16, 2) := by decide +kernel
theorem dX8_findLeast_170 : decode cX8_findLeast 170 = .ok (.if_icmp .ne 5, 3) := by decide +kernel
theorem dX8_findLeast_173 : decode cX8_findLeast 173 = .ok (.iload_n 1, 1) := by decide +kernel
theorem dX8_findLeast_174 : decode cX8_findLeast 174 = .ok (.ireturn, 1) := by decide +kernel
theorem dX8_findLeast_175 : decode cX8_findLeast 175 = .ok (.aload_n 0, 1) := by decide +kernel
theorem dX8_findLeast_176 : decode cX8_findLeast 176 = .ok (.getfield 50, 3) := by decide +kernel
theorem dX8_findLeast_179 : decode cX8_findLeast 179 = .ok (.iload_n 2, 1) := by decide +kernel
theorem dX8_findLeast_180 : decode cX8_findLeast 180 = .ok (.iaload, 1) := by decide +kernel
theorem dX8_findLeast_181 : decode cX8_findLeast 181 = .ok (.invokestatic 126, 3) := by decide +kernel
theorem dX8_findLeast_184 : decode cX8_findLeast 184 = .ok (.i2l, 1) := by decide +kernel
theorem dX8_findLeast_185 : decode cX8_findLeast 185 = .ok (.lstore_n 3, 1) := by decide +kernel
theorem dX8_findLeast_186 : decode cX8_findLeast 186 = .ok (.iconst 0, 1) := by decide +kernel
theorem dX8_findLeast_187 : decode cX8_findLeast 187 = .ok (.istore 5, 2) := by decide +kernel
theorem dX8_findLeast_189 : decode cX8_findLeast 189 = .ok (.iload 5, 2) := by decide +kernel
theorem dX8_findLeast_191 : decode cX8_findLeast 191 = .ok (.bipush 16, 2) := by decide +kernel
theorem dX8_findLeast_193 : decode cX8_findLeast 193 = .ok (.if_icmp .ge 36, 3) := by decide +kernel
theorem dX8_findLeast_196 : decode cX8_findLeast 196 = .ok (.aload_n 0, 1) := by decide +kernel
theorem dX8_findLeast_197 : decode cX8_findLeast 197 = .ok (.getfield 56, 3) := by decide +kernel
theorem dX8_findLeast_200 : decode cX8_findLeast 200 = .ok (.bipush 16, 2) := by decide +kernel
theorem dX8_findLeast_202 : decode cX8_findLeast 202 = .ok (.iload_n 1, 1) := by decide +kernel
theorem dX8_findLeast_203 : decode cX8_findLeast 203 = .ok (.imul, 1) := by decide +kernel
theorem dX8_findLeast_204 : decode cX8_findLeast 204 = .ok (.iload 5, 2) := by decide +kernel
theorem dX8_findLeast_206 : decode cX8_findLeast 206 = .ok (.iadd, 1) := by decide +kernel
theorem dX8_findLeast_207 : decode cX8_findLeast 207 = .ok (.aload_n 0, 1) := by decide +kernel
theorem dX8_findLeast_208 : decode cX8_findLeast 208 = .ok (.getfield 50, 3) := by decide +kernel
theorem dX8_findLeast_211 : decode cX8_findLeast 211 = .ok (.iload 5, 2) := by decide +kernel
theorem dX8_findLeast_213 : decode cX8_findLeast 213 = .ok (.iaload, 1) := by decide +kernel
theorem dX8_findLeast_214 : decode cX8_findLeast 214 = .ok (.i2l, 1) := by decide +kernel
theorem dX8_findLeast_215 : decode cX8_findLeast 215 = .ok (.lload_n 3, 1) := by decide +kernel
theorem dX8_findLeast_216 : decode cX8_findLeast 216 = .ok (.lmul, 1) := by decide +kernel
theorem dX8_findLeast_217 : decode cX8_findLeast 217 = .ok (.ldc2_w 69, 3) := by decide +kernel
theorem dX8_findLeast_220 : decode cX8_findLeast 220 = .ok (.lrem, 1) := by decide +kernel
theorem dX8_findLeast_221 : decode cX8_findLeast 221 = .ok (.l2i, 1) := by decide +kernel
theorem dX8_findLeast_222 : decode cX8_findLeast 222 = .ok (.iastore, 1) := by decide +kernel
theorem dX8_findLeast_223 : decode cX8_findLeast 223 = .ok (.iinc 5 1, 3) := by decide +kernel
theorem dX8_findLeast_226 : decode cX8_findLeast 226 = .ok (.goto (-37), 3) := by decide +kernel
theorem dX8_findLeast_229 : decode cX8_findLeast 229 = .ok (.iconst 0, 1) := by decide +kernel
theorem dX8_findLeast_230 : decode cX8_findLeast 230 = .ok (.istore 5, 2) := by decide +kernel
theorem dX8_findLeast_232 : decode cX8_findLeast 232 = .ok (.iload 5, 2) := by decide +kernel
theorem dX8_findLeast_234 : decode cX8_findLeast 234 = .ok (.iconst 5, 1) := by decide +kernel
theorem dX8_findLeast_235 : decode cX8_findLeast 235 = .ok (.if_icmp .ge 35, 3) := by decide +kernel
theorem dX8_findLeast_238 : decode cX8_findLeast 238 = .ok (.aload_n 0, 1) := by decide +kernel
theorem dX8_findLeast_239 : decode cX8_findLeast 239 = .ok (.getfield 47, 3) := by decide +kernel
theorem dX8_findLeast_242 : decode cX8_findLeast 242 = .ok (.iconst 5, 1) := by decide +kernel
theorem dX8_findLeast_243 : decode cX8_findLeast 243 = .ok (.iload_n 1, 1) := by decide +kernel
theorem dX8_findLeast_244 : decode cX8_findLeast 244 = .ok (.imul, 1) := by decide +kernel
theorem dX8_findLeast_245 : decode cX8_findLeast 245 = .ok (.iload 5, 2) := by decide +kernel
theorem dX8_findLeast_247 : decode cX8_findLeast 247 = .ok (.iadd, 1) := by decide +kernel
theorem dX8_findLeast_248 : decode cX8_findLeast 248 = .ok (.aload_n 0, 1) := by decide +kernel
theorem dX8_findLeast_249 : decode cX8_findLeast 249 = .ok (.getfield 53, 3) := by decide +kernel
theorem dX8_findLeast_252 : decode cX8_findLeast 252 = .ok (.iload 5, 2) := by decide +kernel
theorem dX8_findLeast_254 : decode cX8_findLeast 254 = .ok (.iaload, 1) := by decide +kernel
theorem dX8_findLeast_255 : decode cX8_findLeast 255 = .ok (.i2l, 1) := by decide +kernel
theorem dX8_findLeast_256 : decode cX8_findLeast 256 = .ok (.lload_n 3, 1) := by decide +kernel
theorem dX8_findLeast_257 : decode cX8_findLeast 257 = .ok (.lmul, 1) := by decide +kernel
theorem dX8_findLeast_258 : decode cX8_findLeast 258 = .ok (.ldc2_w 69, 3) := by decide +kernel
theorem dX8_findLeast_261 : decode cX8_findLeast 261 = .ok (.lrem, 1) := by decide +kernel
theorem dX8_findLeast_262 : decode cX8_findLeast 262 = .ok (.l2i, 1) := by decide +kernel
theorem dX8_findLeast_263 : decode cX8_findLeast 263 = .ok (.iastore, 1) := by decide +kernel
theorem dX8_findLeast_264 : decode cX8_findLeast 264 = .ok (.iinc 5 1, 3) := by decide +kernel
theorem dX8_findLeast_267 : decode cX8_findLeast 267 = .ok (.goto (-35), 3) := by decide +kernel
theorem dX8_findLeast_270 : decode cX8_findLeast 270 = .ok (.iinc 1 1, 3) := by decide +kernel
theorem dX8_findLeast_273 : decode cX8_findLeast 273 = .ok (.goto (-271), 3) := by decide +kernel
set_option maxRecDepth 20000 in
theorem ggX8_clearBy_X8_modulo : GoodIn wsX8_clearBy wsX8_modulo := goodIn_r _ [8, 9] (by decide +kernel) (by decide +kernel)
set_option maxRecDepth 20000 in
theorem gX8_clearBy_X8_modulo : GoodIn wsX8_clearBy (va_wsS RX8 87 yX8_modulo wsX8_modulo) := goodIn_app (goodIn_of _ (by decide +kernel)) ggX8_clearBy_X8_modulo
theorem dX8_clearBy_0 : decode cX8_clearBy 0 = .ok (.iconst 0, 1) := by decide +kernel
theorem dX8_clearBy_1 : decode cX8_clearBy 1 = .ok (.istore_n 2, 1) := by decide +kernel
theorem dX8_clearBy_2 : decode cX8_clearBy 2 = .ok (.aload_n 0, 1) := by decide +kernel
theorem dX8_clearBy_3 : decode cX8_clearBy 3 = .ok (.getfield 56, 3) := by decide +kernel
theorem dX8_clearBy_6 : decode cX8_clearBy 6 = .ok (.bipush 16, 2) := by decide +kernel
theorem dX8_clearBy_8 : decode cX8_clearBy 8 = .ok (.iload_n 1, 1) := by decide +kernel
theorem dX8_clearBy_9 : decode cX8_clearBy 9 = .ok (.imul, 1) := by decide +kernel
theorem dX8_clearBy_10 : decode cX8_clearBy 10 = .ok (.iload_n 2, 1) := by decide +kernel
theorem dX8_clearBy_11 : decode cX8_clearBy 11 = .ok (.iadd, 1) := by decide +kernel
theorem dX8_clearBy_12 : decode cX8_clearBy 12 = .ok (.iaload, 1) := by decide +kernel
theorem dX8_clearBy_13 : decode cX8_clearBy 13 = .ok (.ifCond .ne 9, 3) := by decide +kernel
theorem dX8_clearBy_16 : decode cX8_clearBy 16 = .ok (.iinc 2 1, 3) := by decide +kernel
theorem dX8_clearBy_19 : decode cX8_clearBy 19 = .ok (.goto (-17), 3) := by decide +kernel
theorem dX8_clearBy_22 : decode cX8_clearBy 22 = .ok (.aload_n 0, 1) := by decide +kernel
theorem dX8_clearBy_23 : decode cX8_clearBy 23 = .ok (.getfield 50, 3) := by decide +kernel
theorem dX8_clearBy_26 : decode cX8_clearBy 26 = .ok (.iload_n 2, 1) := by decide +kernel
theorem dX8_clearBy_27 : decode cX8_clearBy 27 = .ok (.iaload, 1) := by decide +kernel
theorem dX8_clearBy_28 : decode cX8_clearBy 28 = .ok (.i2l, 1) := by decide +kernel
theorem dX8_clearBy_29 : decode cX8_clearBy 29 = .ok (.lstore_n 3, 1) := by decide +kernel
theorem dX8_clearBy_30 : decode cX8_clearBy 30 = .ok (.iconst 0, 1) := by decide +kernel
theorem dX8_clearBy_31 : decode cX8_clearBy 31 = .ok (.istore 5, 2) := by decide +kernel
theorem dX8_clearBy_33 : decode cX8_clearBy 33 = .ok (.iload 5, 2) := by decide +kernel
theorem dX8_clearBy_35 : decode cX8_clearBy 35 = .ok (.bipush 16, 2) := by decide +kernel
theorem dX8_clearBy_37 : decode cX8_clearBy 37 = .ok (.if_icmp .ge 43, 3) := by decide +kernel
theorem dX8_clearBy_40 : decode cX8_clearBy 40 = .ok (.aload_n 0, 1) := by decide +kernel
theorem dX8_clearBy_41 : decode cX8_clearBy 41 = .ok (.getfield 50, 3) := by decide +kernel
theorem dX8_clearBy_44 : decode cX8_clearBy 44 = .ok (.iload 5, 2) := by decide +kernel
theorem dX8_clearBy_46 : decode cX8_clearBy 46 = .ok (.aload_n 0, 1) := by decide +kernel
theorem dX8_clearBy_47 : decode cX8_clearBy 47 = .ok (.getfield 50, 3) := by decide +kernel
theorem dX8_clearBy_50 : decode cX8_clearBy 50 = .ok (.iload 5, 2) := by decide +kernel
theorem dX8_clearBy_52 : decode cX8_clearBy 52 = .ok (.iaload, 1) := by decide +kernel
theorem dX8_clearBy_53 : decode cX8_clearBy 53 = .ok (.i2l, 1) := by decide +kernel
theorem dX8_clearBy_54 : decode cX8_clearBy 54 = .ok (.lload_n 3, 1) := by decide +kernel
theorem dX8_clearBy_55 : decode cX8_clearBy 55 = .ok (.aload_n 0, 1) := by decide +kernel
theorem dX8_clearBy_56 : decode cX8_clearBy 56 = .ok (.getfield 56, 3) := by decide +kernel
theorem dX8_clearBy_59 : decode cX8_clearBy 59 = .ok (.bipush 16, 2) := by decide +kernel
theorem dX8_clearBy_61 : decode cX8_clearBy 61 = .ok (.iload_n 1, 1) := by decide +kernel
theorem dX8_clearBy_62 : decode cX8_clearBy 62 = .ok (.imul, 1) := by decide +kernel
theorem dX8_clearBy_63 : decode cX8_clearBy 63 = .ok (.iload 5, 2) := by decide +kernel
theorem dX8_clearBy_65 : decode cX8_clearBy 65 = .ok (.iadd, 1) := by decide +kernel
theorem dX8_clearBy_66 : decode cX8_clearBy 66 = .ok (.iaload, 1) := by decide +kernel
theorem dX8_clearBy_67 : decode cX8_clearBy 67 = .ok (.i2l, 1) := by decide +kernel
theorem dX8_clearBy_68 : decode cX8_clearBy 68 = .ok (.lmul, 1) := by decide +kernel
theorem dX8_clearBy_69 : decode cX8_clearBy 69 = .ok (.lsub, 1) := by decide +kernel
theorem dX8_clearBy_70 : decode cX8_clearBy 70 = .ok (.invokestatic 87, 3) := by decide +kernel
theorem dX8_clearBy_73 : decode cX8_clearBy 73 = .ok (.iastore, 1) := by decide +kernel
theorem dX8_clearBy_74 : decode cX8_clearBy 74 = .ok (.iinc 5 1, 3) := by decide +kernel
theorem dX8_clearBy_77 : decode cX8_clearBy 77 = .ok (.goto (-44), 3) := by decide +kernel
theorem dX8_clearBy_80 : decode cX8_clearBy 80 = .ok (.iconst 0, 1) := by decide +kernel
theorem dX8_clearBy_81 : decode cX8_clearBy 81 = .ok (.istore 5, 2) := by decide +kernel
theorem dX8_clearBy_83 : decode cX8_clearBy 83 = .ok (.iload 5, 2) := by decide +kernel
theorem dX8_clearBy_85 : decode cX8_clearBy 85 = .ok (.iconst 5, 1) := by decide +kernel
theorem dX8_clearBy_86 : decode cX8_clearBy 86 = .ok (.if_icmp .ge 42, 3) := by decide +kernel
theorem dX8_clearBy_89 : decode cX8_clearBy 89 = .ok (.aload_n 0, 1) := by decide +kernel
theorem dX8_clearBy_90 : decode cX8_clearBy 90 = .ok (.getfield 53, 3) := by decide +kernel
theorem dX8_clearBy_93 : decode cX8_clearBy 93 = .ok (.iload 5, 2) := by decide +kernel
theorem dX8_clearBy_95 : decode cX8_clearBy 95 = .ok (.aload_n 0, 1) := by decide +kernel
theorem dX8_clearBy_96 : decode cX8_clearBy 96 = .ok (.getfield 53, 3) := by decide +kernel
theorem dX8_clearBy_99 : decode cX8_clearBy 99 = .ok (.iload 5, 2) := by decide +kernel
theorem dX8_clearBy_101 : decode cX8_clearBy 101 = .ok (.iaload, 1) := by decide +kernel
theorem dX8_clearBy_102 : decode cX8_clearBy 102 = .ok (.i2l, 1) := by decide +kernel
theorem dX8_clearBy_103 : decode cX8_clearBy 103 = .ok (.lload_n 3, 1) := by decide +kernel
theorem dX8_clearBy_104 : decode cX8_clearBy 104 = .ok (.aload_n 0, 1) := by decide +kernel
theorem dX8_clearBy_105 : decode cX8_clearBy 105 = .ok (.getfield 47, 3) := by decide +kernel
theorem dX8_clearBy_108 : decode cX8_clearBy 108 = .ok (.iconst 5, 1) := by decide +kernel
theorem dX8_clearBy_109 : decode cX8_clearBy 109 = .ok (.iload_n 1, 1) := by decide +kernel
theorem dX8_clearBy_110 : decode cX8_clearBy 110 = .ok (.imul, 1) := by decide +kernel
theorem dX8_clearBy_111 : decode cX8_clearBy 111 = .ok (.iload 5, 2) := by decide +kernel
theorem dX8_clearBy_113 : decode cX8_clearBy 113 = .ok (.iadd, 1) := by decide +kernel
theorem dX8_clearBy_114 : decode cX8_clearBy 114 = .ok (.iaload, 1) := by decide +kernel
theorem dX8_clearBy_115 : decode cX8_clearBy 115 = .ok (.i2l, 1) := by decide +kernel
theorem dX8_clearBy_116 : decode cX8_clearBy 116 = .ok (.lmul, 1) := by decide +kernel
theorem dX8_clearBy_117 : decode cX8_clearBy 117 = .ok (.lsub, 1) := by decide +kernel
theorem dX8_clearBy_118 : decode cX8_clearBy 118 = .ok (.invokestatic 87, 3) := by decide +kernel
theorem dX8_clearBy_121 : decode cX8_clearBy 121 = .ok (.iastore, 1) := by decide +kernel
theorem dX8_clearBy_122 : decode cX8_clearBy 122 = .ok (.iinc 5 1, 3) := by decide +kernel
theorem dX8_clearBy_125 : decode cX8_clearBy 125 = .ok (.goto (-42), 3) := by decide +kernel
theorem dX8_clearBy_128 : decode cX8_clearBy 128 = .ok (.return_, 1) := by decide +kernel
set_option maxRecDepth 20000 in
theorem ggX8_timesNumbers_X8_numberAt : GoodIn wsX8_timesNumbers wsX8_numberAt := goodIn_r _ [8, 9, 10, 11, 12, 13, 14, 15, 16, 17, 18, 19, 20, 21, 22, 23, 24, 25, 26, 27, 28, 29, 30] (by decide +kernel) (by decide +kernel)
set_option maxRecDepth 20000 in
theorem gX8_timesNumbers_X8_numberAt : GoodIn wsX8_timesNumbers (wsV RX8 202 RX8 yX8_numberAt wsX8_numberAt) := goodIn_app (goodIn_of _ (by decide +kernel)) ggX8_timesNumbers_X8_numberAt
theorem dX8_timesNumbers_0 : decode cX8_timesNumbers 0 = .ok (.lconst 0, 1) := by decide +kernel
theorem dX8_timesNumbers_1 : decode cX8_timesNumbers 1 = .ok (.lstore 4, 2) := by decide +kernel
theorem dX8_timesNumbers_3 : decode cX8_timesNumbers 3 = .ok (.iconst 0, 1) := by decide +kernel
theorem dX8_timesNumbers_4 : decode cX8_timesNumbers 4 = .ok (.istore 6, 2) := by decide +kernel
theorem dX8_timesNumbers_6 : decode cX8_timesNumbers 6 = .ok (.iload 6, 2) := by decide +kernel
theorem dX8_timesNumbers_8 : decode cX8_timesNumbers 8 = .ok (.aload_n 0, 1) := by decide +kernel
theorem dX8_timesNumbers_9 : decode cX8_timesNumbers 9 = .ok (.getfield 71, 3) := by decide +kernel
theorem dX8_timesNumbers_12 : decode cX8_timesNumbers 12 = .ok (.if_icmp .ge 60, 3) := by decide +kernel
theorem dX8_timesNumbers_15 : decode cX8_timesNumbers 15 = .ok (.iload_n 2, 1) := by decide +kernel
theorem dX8_timesNumbers_16 : decode cX8_timesNumbers 16 = .ok (.aload_n 0, 1) := by decide +kernel
theorem dX8_timesNumbers_17 : decode cX8_timesNumbers 17 = .ok (.getfield 71, 3) := by decide +kernel
theorem dX8_timesNumbers_20 : decode cX8_timesNumbers 20 = .ok (.if_icmp .ge 52, 3) := by decide +kernel
theorem dX8_timesNumbers_23 : decode cX8_timesNumbers 23 = .ok (.iload_n 3, 1) := by decide +kernel
theorem dX8_timesNumbers_24 : decode cX8_timesNumbers 24 = .ok (.aload_n 0, 1) := by decide +kernel
theorem dX8_timesNumbers_25 : decode cX8_timesNumbers 25 = .ok (.getfield 71, 3) := by decide +kernel
theorem dX8_timesNumbers_28 : decode cX8_timesNumbers 28 = .ok (.if_icmp .ge 44, 3) := by decide +kernel
theorem dX8_timesNumbers_31 : decode cX8_timesNumbers 31 = .ok (.lload 4, 2) := by decide +kernel
theorem dX8_timesNumbers_33 : decode cX8_timesNumbers 33 = .ok (.aload_n 0, 1) := by decide +kernel
theorem dX8_timesNumbers_34 : decode cX8_timesNumbers 34 = .ok (.getfield 44, 3) := by decide +kernel
theorem dX8_timesNumbers_37 : decode cX8_timesNumbers 37 = .ok (.bipush 16, 2) := by decide +kernel
theorem dX8_timesNumbers_39 : decode cX8_timesNumbers 39 = .ok (.iload_n 1, 1) := by decide +kernel
theorem dX8_timesNumbers_40 : decode cX8_timesNumbers 40 = .ok (.imul, 1) := by decide +kernel
theorem dX8_timesNumbers_41 : decode cX8_timesNumbers 41 = .ok (.iconst 4, 1) := by decide +kernel
theorem dX8_timesNumbers_42 : decode cX8_timesNumbers 42 = .ok (.iload_n 2, 1) := by decide +kernel
theorem dX8_timesNumbers_43 : decode cX8_timesNumbers 43 = .ok (.imul, 1) := by decide +kernel
theorem dX8_timesNumbers_44 : decode cX8_timesNumbers 44 = .ok (.iadd, 1) := by decide +kernel
theorem dX8_timesNumbers_45 : decode cX8_timesNumbers 45 = .ok (.iload 6, 2) := by decide +kernel
theorem dX8_timesNumbers_47 : decode cX8_timesNumbers 47 = .ok (.iadd, 1) := by decide +kernel
theorem dX8_timesNumbers_48 : decode cX8_timesNumbers 48 = .ok (.iaload, 1) := by decide +kernel
theorem dX8_timesNumbers_49 : decode cX8_timesNumbers 49 = .ok (.i2l, 1) := by decide +kernel
theorem dX8_timesNumbers_50 : decode cX8_timesNumbers 50 = .ok (.aload_n 0, 1) := by decide +kernel
theorem dX8_timesNumbers_51 : decode cX8_timesNumbers 51 = .ok (.iload 6, 2) := by decide +kernel
theorem dX8_timesNumbers_53 : decode cX8_timesNumbers 53 = .ok (.iload_n 3, 1) := by decide +kernel
theorem dX8_timesNumbers_54 : decode cX8_timesNumbers 54 = .ok (.invokevirtual 202, 3) := by decide +kernel
theorem dX8_timesNumbers_57 : decode cX8_timesNumbers 57 = .ok (.i2l, 1) := by decide +kernel
theorem dX8_timesNumbers_58 : decode cX8_timesNumbers 58 = .ok (.lmul, 1) := by decide +kernel
theorem dX8_timesNumbers_59 : decode cX8_timesNumbers 59 = .ok (.ladd, 1) := by decide +kernel
theorem dX8_timesNumbers_60 : decode cX8_timesNumbers 60 = .ok (.ldc2_w 69, 3) := by decide +kernel
theorem dX8_timesNumbers_63 : decode cX8_timesNumbers 63 = .ok (.lrem, 1) := by decide +kernel
theorem dX8_timesNumbers_64 : decode cX8_timesNumbers 64 = .ok (.lstore 4, 2) := by decide +kernel
theorem dX8_timesNumbers_66 : decode cX8_timesNumbers 66 = .ok (.iinc 6 1, 3) := by decide +kernel
theorem dX8_timesNumbers_69 : decode cX8_timesNumbers 69 = .ok (.goto (-63), 3) := by decide +kernel
theorem dX8_timesNumbers_72 : decode cX8_timesNumbers 72 = .ok (.lload 4, 2) := by decide +kernel
theorem dX8_timesNumbers_74 : decode cX8_timesNumbers 74 = .ok (.l2i, 1) := by decide +kernel
theorem dX8_timesNumbers_75 : decode cX8_timesNumbers 75 = .ok (.ireturn, 1) := by decide +kernel
set_option maxRecDepth 20000 in
theorem ggX8_minimal_X8_isSquare : GoodIn wsX8_minimal wsX8_isSquare := goodIn_r _ [6, 7, 8, 9, 41, 42, 43, 44, 45, 46, 47, 48, 49, 50, 51, 52, 53, 54, 55, 56, 57, 58, 59, 60, 61] (by decide +kernel) (by decide +kernel)
set_option maxRecDepth 20000 in
theorem gX8_minimal_X8_isSquare : GoodIn wsX8_minimal (wsV RX8 113 RX8 yX8_isSquare wsX8_isSquare) := goodIn_app (goodIn_of _ (by decide +kernel)) ggX8_minimal_X8_isSquare
set_option maxRecDepth 20000 in
theorem ggX8_minimal_X8_findLeast : GoodIn wsX8_minimal wsX8_findLeast := goodIn_r _ [13, 14, 7, 15, 1, 16, 17, 18, 19, 20, 21, 5, 22, 23, 24, 25, 26, 27, 28, 29, 30, 31, 32, 33, 34, 35, 36, 37, 41, 42, 43, 44, 45, 46, 47, 48, 49, 50, 51, 52, 53, 54, 55, 56, 57, 58, 59, 60, 61] (by decide +kernel) (by decide +kernel)
set_option maxRecDepth 20000 in
theorem gX8_minimal_X8_findLeast : GoodIn wsX8_minimal (wsV RX8 206 RX8 yX8_findLeast wsX8_findLeast) := goodIn_app (goodIn_of _ (by decide +kernel)) ggX8_minimal_X8_findLeast
set_option maxRecDepth 20000 in
theorem ggX8_minimal_X8_in : GoodIn wsX8_minimal wsX8_in := goodIn_r _ [40] (by decide +kernel) (by decide +kernel)
set_option maxRecDepth 20000 in
theorem gX8_minimal_X8_in : GoodIn wsX8_minimal (va_wsS RX8 77 yX8_in wsX8_in) := goodIn_app (goodIn_of _ (by decide +kernel)) ggX8_minimal_X8_in
theorem dX8_minimal_0 : decode cX8_minimal 0 = .ok (.aload_n 0, 1) := by decide +kernel
theorem dX8_minimal_1 : decode cX8_minimal 1 = .ok (.invokevirtual 113, 3) := by decide +kernel
theorem dX8_minimal_4 : decode cX8_minimal 4 = .ok (.ifCond .ne 5, 3) := by decide +kernel
theorem dX8_minimal_7 : decode cX8_minimal 7 = .ok (.iconst 0, 1) := by decide +kernel
theorem dX8_minimal_8 : decode cX8_minimal 8 = .ok (.ireturn, 1) := by decide +kernel
theorem dX8_minimal_9 : decode cX8_minimal 9 = .ok (.aload_n 0, 1) := by decide +kernel
theorem dX8_minimal_10 : decode cX8_minimal 10 = .ok (.invokevirtual 206, 3) := by decide +kernel
theorem dX8_minimal_13 : decode cX8_minimal 13 = .ok (.istore_n 2, 1) := by decide +kernel
theorem dX8_minimal_14 : decode cX8_minimal 14 = .ok (.iload_n 1, 1) := by decide +kernel
theorem dX8_minimal_15 : decode cX8_minimal 15 = .ok (.i2l, 1) := by decide +kernel
theorem dX8_minimal_16 : decode cX8_minimal 16 = .ok (.lconst 0, 1) := by decide +kernel
theorem dX8_minimal_17 : decode cX8_minimal 17 = .ok (.iload_n 2, 1) := by decide +kernel
theorem dX8_minimal_18 : decode cX8_minimal 18 = .ok (.i2l, 1) := by decide +kernel
theorem dX8_minimal_19 : decode cX8_minimal 19 = .ok (.invokestatic 77, 3) := by decide +kernel
theorem dX8_minimal_22 : decode cX8_minimal 22 = .ok (.ifCond .eq 12, 3) := by decide +kernel
theorem dX8_minimal_25 : decode cX8_minimal 25 = .ok (.aload_n 0, 1) := by decide +kernel
theorem dX8_minimal_26 : decode cX8_minimal 26 = .ok (.getfield 53, 3) := by decide +kernel
theorem dX8_minimal_29 : decode cX8_minimal 29 = .ok (.iload_n 1, 1) := by decide +kernel
theorem dX8_minimal_30 : decode cX8_minimal 30 = .ok (.iaload, 1) := by decide +kernel
theorem dX8_minimal_31 : decode cX8_minimal 31 = .ok (.goto 4, 3) := by decide +kernel
theorem dX8_minimal_34 : decode cX8_minimal 34 = .ok (.iconst 0, 1) := by decide +kernel
theorem dX8_minimal_35 : decode cX8_minimal 35 = .ok (.ireturn, 1) := by decide +kernel
set_option maxRecDepth 20000 in
theorem ggX8_findRoot_X8_loadNumbers : GoodIn wsX8_findRoot wsX8_loadNumbers := goodIn_r _ [7, 8, 9, 10, 11, 12, 13, 6, 14, 1, 15, 16, 17, 18, 19, 20, 21, 2, 22, 23, 24, 29, 30, 31, 32, 33, 34, 35, 36, 37, 38, 39, 40, 41, 42, 43, 44, 45, 46, 47, 48, 49] (by decide +kernel) (by decide +kernel)
set_option maxRecDepth 20000 in
theorem gX8_findRoot_X8_loadNumbers : GoodIn wsX8_findRoot (wsV RX8 192 RX8 yX8_loadNumbers wsX8_loadNumbers) := goodIn_app (goodIn_of _ (by decide +kernel)) ggX8_findRoot_X8_loadNumbers
set_option maxRecDepth 20000 in
theorem ggX8_findRoot_X8_whole : GoodIn wsX8_findRoot wsX8_whole := goodIn_r _ [28, 9, 29, 30, 31, 32, 33, 34, 35, 36, 37, 38, 39, 40, 41, 42, 43, 44, 45, 46, 47, 48, 49] (by decide +kernel) (by decide +kernel)
set_option maxRecDepth 20000 in
theorem gX8_findRoot_X8_whole : GoodIn wsX8_findRoot (wsV RX8 119 RX8 yX8_whole wsX8_whole) := goodIn_app (goodIn_of _ (by decide +kernel)) ggX8_findRoot_X8_whole
theorem dX8_findRoot_0 : decode cX8_findRoot 0 = .ok (.aload_n 0, 1) := by decide +kernel
theorem dX8_findRoot_1 : decode cX8_findRoot 1 = .ok (.invokevirtual 192, 3) := by decide +kernel
theorem dX8_findRoot_4 : decode cX8_findRoot 4 = .ok (.aload_n 0, 1) := by decide +kernel
theorem dX8_findRoot_5 : decode cX8_findRoot 5 = .ok (.invokevirtual 119, 3) := by decide +kernel
theorem dX8_findRoot_8 : decode cX8_findRoot 8 = .ok (.istore_n 2, 1) := by decide +kernel
theorem dX8_findRoot_9 : decode cX8_findRoot 9 = .ok (.iconst 0, 1) := by decide +kernel
theorem dX8_findRoot_10 : decode cX8_findRoot 10 = .ok (.istore_n 3, 1) := by decide +kernel
theorem dX8_findRoot_11 : decode cX8_findRoot 11 = .ok (.iconst 0, 1) := by decide +kernel
theorem dX8_findRoot_12 : decode cX8_findRoot 12 = .ok (.istore 4, 2) := by decide +kernel
theorem dX8_findRoot_14 : decode cX8_findRoot 14 = .ok (.iload 4, 2) := by decide +kernel
theorem dX8_findRoot_16 : decode cX8_findRoot 16 = .ok (.sipush 32003, 3) := by decide +kernel
theorem dX8_findRoot_19 : decode cX8_findRoot 19 = .ok (.if_icmp .ge 74, 3) := by decide +kernel
theorem dX8_findRoot_22 : decode cX8_findRoot 22 = .ok (.iload_n 1, 1) := by decide +kernel
theorem dX8_findRoot_23 : decode cX8_findRoot 23 = .ok (.ifCond .lt 70, 3) := by decide +kernel
theorem dX8_findRoot_26 : decode cX8_findRoot 26 = .ok (.lconst 0, 1) := by decide +kernel
theorem dX8_findRoot_27 : decode cX8_findRoot 27 = .ok (.lstore 5, 2) := by decide +kernel
theorem dX8_findRoot_29 : decode cX8_findRoot 29 = .ok (.iconst 4, 1) := by decide +kernel
theorem dX8_findRoot_30 : decode cX8_findRoot 30 = .ok (.istore 7, 2) := by decide +kernel
theorem dX8_findRoot_32 : decode cX8_findRoot 32 = .ok (.iload 7, 2) := by decide +kernel
theorem dX8_findRoot_34 : decode cX8_findRoot 34 = .ok (.ifCond .lt 32, 3) := by decide +kernel
theorem dX8_findRoot_37 : decode cX8_findRoot 37 = .ok (.lload 5, 2) := by decide +kernel
theorem dX8_findRoot_39 : decode cX8_findRoot 39 = .ok (.iload 4, 2) := by decide +kernel
theorem dX8_findRoot_41 : decode cX8_findRoot 41 = .ok (.i2l, 1) := by decide +kernel
theorem dX8_findRoot_42 : decode cX8_findRoot 42 = .ok (.lmul, 1) := by decide +kernel
theorem dX8_findRoot_43 : decode cX8_findRoot 43 = .ok (.aload_n 0, 1) := by decide +kernel
theorem dX8_findRoot_44 : decode cX8_findRoot 44 = .ok (.getfield 20, 3) := by decide +kernel
theorem dX8_findRoot_47 : decode cX8_findRoot 47 = .ok (.iload_n 2, 1) := by decide +kernel
theorem dX8_findRoot_48 : decode cX8_findRoot 48 = .ok (.iload 7, 2) := by decide +kernel
theorem dX8_findRoot_50 : decode cX8_findRoot 50 = .ok (.iadd, 1) := by decide +kernel
theorem dX8_findRoot_51 : decode cX8_findRoot 51 = .ok (.iaload, 1) := by decide +kernel
theorem dX8_findRoot_52 : decode cX8_findRoot 52 = .ok (.i2l, 1) := by decide +kernel
theorem dX8_findRoot_53 : decode cX8_findRoot 53 = .ok (.ladd, 1) := by decide +kernel
theorem dX8_findRoot_54 : decode cX8_findRoot 54 = .ok (.ldc2_w 69, 3) := by decide +kernel
theorem dX8_findRoot_57 : decode cX8_findRoot 57 = .ok (.lrem, 1) := by decide +kernel
theorem dX8_findRoot_58 : decode cX8_findRoot 58 = .ok (.lstore 5, 2) := by decide +kernel
theorem dX8_findRoot_60 : decode cX8_findRoot 60 = .ok (.iinc 7 (-1), 3) := by decide +kernel
theorem dX8_findRoot_63 : decode cX8_findRoot 63 = .ok (.goto (-31), 3) := by decide +kernel
theorem dX8_findRoot_66 : decode cX8_findRoot 66 = .ok (.lload 5, 2) := by decide +kernel
theorem dX8_findRoot_68 : decode cX8_findRoot 68 = .ok (.lconst 0, 1) := by decide +kernel
theorem dX8_findRoot_69 : decode cX8_findRoot 69 = .ok (.lcmp, 1) := by decide +kernel
theorem dX8_findRoot_70 : decode cX8_findRoot 70 = .ok (.ifCond .eq 6, 3) := by decide +kernel
theorem dX8_findRoot_73 : decode cX8_findRoot 73 = .ok (.goto 14, 3) := by decide +kernel
theorem dX8_findRoot_76 : decode cX8_findRoot 76 = .ok (.iload_n 3, 1) := by decide +kernel
theorem dX8_findRoot_77 : decode cX8_findRoot 77 = .ok (.iload_n 1, 1) := by decide +kernel
theorem dX8_findRoot_78 : decode cX8_findRoot 78 = .ok (.if_icmp .ne 6, 3) := by decide +kernel
theorem dX8_findRoot_81 : decode cX8_findRoot 81 = .ok (.iload 4, 2) := by decide +kernel
theorem dX8_findRoot_83 : decode cX8_findRoot 83 = .ok (.ireturn, 1) := by decide +kernel
theorem dX8_findRoot_84 : decode cX8_findRoot 84 = .ok (.iinc 3 1, 3) := by decide +kernel
theorem dX8_findRoot_87 : decode cX8_findRoot 87 = .ok (.iinc 4 1, 3) := by decide +kernel
theorem dX8_findRoot_90 : decode cX8_findRoot 90 = .ok (.goto (-76), 3) := by decide +kernel
theorem dX8_findRoot_93 : decode cX8_findRoot 93 = .ok (.iconst (-1), 1) := by decide +kernel
theorem dX8_findRoot_94 : decode cX8_findRoot 94 = .ok (.ireturn, 1) := by decide +kernel
set_option maxRecDepth 20000 in
theorem ggX8_root_X8_isSquare : GoodIn wsX8_root wsX8_isSquare := goodIn_r _ [5, 6, 7, 8, 39, 40, 41, 42, 43, 44, 45, 46, 47, 48, 49, 50, 51, 52, 53, 54, 55, 56, 57, 58, 59] (by decide +kernel) (by decide +kernel)
set_option maxRecDepth 20000 in
theorem gX8_root_X8_isSquare : GoodIn wsX8_root (wsV RX8 113 RX8 yX8_isSquare wsX8_isSquare) := goodIn_app (goodIn_of _ (by decide +kernel)) ggX8_root_X8_isSquare
set_option maxRecDepth 20000 in
theorem ggX8_root_X8_findRoot : GoodIn wsX8_root wsX8_findRoot := goodIn_r _ [12, 13, 14, 15, 16, 17, 4, 18, 19, 6, 20, 21, 22, 23, 24, 25, 26, 27, 28, 29, 30, 31, 32, 33, 34, 35, 36, 37, 38, 39, 40, 41, 42, 43, 44, 45, 46, 47, 48, 49, 50, 51, 52, 53, 54, 55, 56, 57, 58, 59] (by decide +kernel) (by decide +kernel)
set_option maxRecDepth 20000 in
theorem gX8_root_X8_findRoot : GoodIn wsX8_root (wsV RX8 209 RX8 yX8_findRoot wsX8_findRoot) := goodIn_app (goodIn_of _ (by decide +kernel)) ggX8_root_X8_findRoot
theorem dX8_root_0 : decode cX8_root 0 = .ok (.aload_n 0, 1) := by decide +kernel
theorem dX8_root_1 : decode cX8_root 1 = .ok (.invokevirtual 113, 3) := by decide +kernel
theorem dX8_root_4 : decode cX8_root 4 = .ok (.ifCond .eq 11, 3) := by decide +kernel
theorem dX8_root_7 : decode cX8_root 7 = .ok (.aload_n 0, 1) := by decide +kernel
theorem dX8_root_8 : decode cX8_root 8 = .ok (.iload_n 1, 1) := by decide +kernel
theorem dX8_root_9 : decode cX8_root 9 = .ok (.invokevirtual 209, 3) := by decide +kernel
theorem dX8_root_12 : decode cX8_root 12 = .ok (.goto 4, 3) := by decide +kernel
theorem dX8_root_15 : decode cX8_root 15 = .ok (.iconst 0, 1) := by decide +kernel
theorem dX8_root_16 : decode cX8_root 16 = .ok (.ireturn, 1) := by decide +kernel
set_option maxRecDepth 20000 in
theorem ggX8_rankOf_X8_numberAt : GoodIn wsX8_rankOf wsX8_numberAt := goodIn_r _ [10, 11, 35, 36, 37, 38, 39, 40, 41, 42, 43, 44, 45, 46, 47, 48, 49, 50, 51, 52, 53, 54, 55] (by decide +kernel) (by decide +kernel)
set_option maxRecDepth 20000 in
theorem gX8_rankOf_X8_numberAt : GoodIn wsX8_rankOf (wsV RX8 202 RX8 yX8_numberAt wsX8_numberAt) := goodIn_app (goodIn_of _ (by decide +kernel)) ggX8_rankOf_X8_numberAt
set_option maxRecDepth 20000 in
theorem ggX8_rankOf_X8_modulo : GoodIn wsX8_rankOf wsX8_modulo := goodIn_r _ [14, 3] (by decide +kernel) (by decide +kernel)
set_option maxRecDepth 20000 in
theorem gX8_rankOf_X8_modulo : GoodIn wsX8_rankOf (va_wsS RX8 87 yX8_modulo wsX8_modulo) := goodIn_app (goodIn_of _ (by decide +kernel)) ggX8_rankOf_X8_modulo
set_option maxRecDepth 20000 in
theorem ggX8_rankOf_X8_findMinors : GoodIn wsX8_rankOf wsX8_findMinors := goodIn_r _ [18, 19, 20, 21, 9, 22, 23, 24, 25, 26, 5, 3, 12, 13, 14, 35, 36, 37, 38, 39, 40, 41, 42, 43, 44, 45, 46, 47, 48, 49, 50, 51, 52, 53, 54, 55] (by decide +kernel) (by decide +kernel)
set_option maxRecDepth 20000 in
theorem gX8_rankOf_X8_findMinors : GoodIn wsX8_rankOf (wsV RX8 99 RX8 yX8_findMinors wsX8_findMinors) := goodIn_app (goodIn_of _ (by decide +kernel)) ggX8_rankOf_X8_findMinors
set_option maxRecDepth 20000 in
theorem ggX8_rankOf_X8_rankNow : GoodIn wsX8_rankOf wsX8_rankNow := goodIn_r _ [30, 20, 21, 9, 22, 31, 32, 33, 34, 19, 35, 36, 37, 38, 39, 40, 41, 42, 43, 44, 45, 46, 47, 48, 49, 50, 51, 52, 53, 54, 55] (by decide +kernel) (by decide +kernel)
set_option maxRecDepth 20000 in
theorem gX8_rankOf_X8_rankNow : GoodIn wsX8_rankOf (wsV RX8 109 RX8 yX8_rankNow wsX8_rankNow) := goodIn_app (goodIn_of _ (by decide +kernel)) ggX8_rankOf_X8_rankNow
theorem dX8_rankOf_0 : decode cX8_rankOf 0 = .ok (.iconst 0, 1) := by decide +kernel
theorem dX8_rankOf_1 : decode cX8_rankOf 1 = .ok (.istore_n 3, 1) := by decide +kernel
theorem dX8_rankOf_2 : decode cX8_rankOf 2 = .ok (.iload_n 3, 1) := by decide +kernel
theorem dX8_rankOf_3 : decode cX8_rankOf 3 = .ok (.bipush 16, 2) := by decide +kernel
theorem dX8_rankOf_5 : decode cX8_rankOf 5 = .ok (.if_icmp .ge 39, 3) := by decide +kernel
theorem dX8_rankOf_8 : decode cX8_rankOf 8 = .ok (.aload_n 0, 1) := by decide +kernel
theorem dX8_rankOf_9 : decode cX8_rankOf 9 = .ok (.getfield 59, 3) := by decide +kernel
theorem dX8_rankOf_12 : decode cX8_rankOf 12 = .ok (.iload_n 3, 1) := by decide +kernel
theorem dX8_rankOf_13 : decode cX8_rankOf 13 = .ok (.iload_n 3, 1) := by decide +kernel
theorem dX8_rankOf_14 : decode cX8_rankOf 14 = .ok (.iconst 4, 1) := by decide +kernel
theorem dX8_rankOf_15 : decode cX8_rankOf 15 = .ok (.idiv, 1) := by decide +kernel
theorem dX8_rankOf_16 : decode cX8_rankOf 16 = .ok (.iload_n 3, 1) := by decide +kernel
theorem dX8_rankOf_17 : decode cX8_rankOf 17 = .ok (.iconst 4, 1) := by decide +kernel
theorem dX8_rankOf_18 : decode cX8_rankOf 18 = .ok (.irem, 1) := by decide +kernel
theorem dX8_rankOf_19 : decode cX8_rankOf 19 = .ok (.if_icmp .ne 17, 3) := by decide +kernel
theorem dX8_rankOf_22 : decode cX8_rankOf 22 = .ok (.iload_n 3, 1) := by decide +kernel
theorem dX8_rankOf_23 : decode cX8_rankOf 23 = .ok (.iconst 4, 1) := by decide +kernel
theorem dX8_rankOf_24 : decode cX8_rankOf 24 = .ok (.idiv, 1) := by decide +kernel
theorem dX8_rankOf_25 : decode cX8_rankOf 25 = .ok (.aload_n 0, 1) := by decide +kernel
theorem dX8_rankOf_26 : decode cX8_rankOf 26 = .ok (.getfield 71, 3) := by decide +kernel
theorem dX8_rankOf_29 : decode cX8_rankOf 29 = .ok (.if_icmp .ge 7, 3) := by decide +kernel
theorem dX8_rankOf_32 : decode cX8_rankOf 32 = .ok (.iconst 1, 1) := by decide +kernel
theorem dX8_rankOf_33 : decode cX8_rankOf 33 = .ok (.goto 4, 3) := by decide +kernel
theorem dX8_rankOf_36 : decode cX8_rankOf 36 = .ok (.iconst 0, 1) := by decide +kernel
theorem dX8_rankOf_37 : decode cX8_rankOf 37 = .ok (.iastore, 1) := by decide +kernel
theorem dX8_rankOf_38 : decode cX8_rankOf 38 = .ok (.iinc 3 1, 3) := by decide +kernel
theorem dX8_rankOf_41 : decode cX8_rankOf 41 = .ok (.goto (-39), 3) := by decide +kernel
theorem dX8_rankOf_44 : decode cX8_rankOf 44 = .ok (.iconst 0, 1) := by decide +kernel
theorem dX8_rankOf_45 : decode cX8_rankOf 45 = .ok (.istore_n 3, 1) := by decide +kernel
theorem dX8_rankOf_46 : decode cX8_rankOf 46 = .ok (.iload_n 3, 1) := by decide +kernel
theorem dX8_rankOf_47 : decode cX8_rankOf 47 = .ok (.iload_n 2, 1) := by decide +kernel
theorem dX8_rankOf_48 : decode cX8_rankOf 48 = .ok (.if_icmp .ge 172, 3) := by decide +kernel
theorem dX8_rankOf_51 : decode cX8_rankOf 51 = .ok (.iload_n 3, 1) := by decide +kernel
theorem dX8_rankOf_52 : decode cX8_rankOf 52 = .ok (.bipush 6, 2) := by decide +kernel
theorem dX8_rankOf_54 : decode cX8_rankOf 54 = .ok (.if_icmp .ge 166, 3) := by decide +kernel
theorem dX8_rankOf_57 : decode cX8_rankOf 57 = .ok (.iconst 0, 1) := by decide +kernel
theorem dX8_rankOf_58 : decode cX8_rankOf 58 = .ok (.istore 4, 2) := by decide +kernel
theorem dX8_rankOf_60 : decode cX8_rankOf 60 = .ok (.iload 4, 2) := by decide +kernel
theorem dX8_rankOf_62 : decode cX8_rankOf 62 = .ok (.bipush 16, 2) := by decide +kernel
theorem dX8_rankOf_64 : decode cX8_rankOf 64 = .ok (.if_icmp .ge 120, 3) := by decide +kernel
theorem dX8_rankOf_67 : decode cX8_rankOf 67 = .ok (.lconst 0, 1) := by decide +kernel
theorem dX8_rankOf_68 : decode cX8_rankOf 68 = .ok (.lstore 5, 2) := by decide +kernel
theorem dX8_rankOf_70 : decode cX8_rankOf 70 = .ok (.iconst 0, 1) := by decide +kernel
theorem dX8_rankOf_71 : decode cX8_rankOf 71 = .ok (.istore 7, 2) := by decide +kernel
theorem dX8_rankOf_73 : decode cX8_rankOf 73 = .ok (.iload 7, 2) := by decide +kernel
theorem dX8_rankOf_75 : decode cX8_rankOf 75 = .ok (.aload_n 0, 1) := by decide +kernel
theorem dX8_rankOf_76 : decode cX8_rankOf 76 = .ok (.getfield 71, 3) := by decide +kernel
theorem dX8_rankOf_79 : decode cX8_rankOf 79 = .ok (.if_icmp .ge 89, 3) := by decide +kernel
theorem dX8_rankOf_82 : decode cX8_rankOf 82 = .ok (.lload 5, 2) := by decide +kernel
theorem dX8_rankOf_84 : decode cX8_rankOf 84 = .ok (.aload_n 0, 1) := by decide +kernel
theorem dX8_rankOf_85 : decode cX8_rankOf 85 = .ok (.getfield 59, 3) := by decide +kernel
theorem dX8_rankOf_88 : decode cX8_rankOf 88 = .ok (.iconst 4, 1) := by decide +kernel
theorem dX8_rankOf_89 : decode cX8_rankOf 89 = .ok (.iload 4, 2) := by decide +kernel
theorem dX8_rankOf_91 : decode cX8_rankOf 91 = .ok (.iconst 4, 1) := by decide +kernel
theorem dX8_rankOf_92 : decode cX8_rankOf 92 = .ok (.idiv, 1) := by decide +kernel
theorem dX8_rankOf_93 : decode cX8_rankOf 93 = .ok (.imul, 1) := by decide +kernel
theorem dX8_rankOf_94 : decode cX8_rankOf 94 = .ok (.iload 7, 2) := by decide +kernel
theorem dX8_rankOf_96 : decode cX8_rankOf 96 = .ok (.iadd, 1) := by decide +kernel
theorem dX8_rankOf_97 : decode cX8_rankOf 97 = .ok (.iaload, 1) := by decide +kernel
theorem dX8_rankOf_98 : decode cX8_rankOf 98 = .ok (.i2l, 1) := by decide +kernel
theorem dX8_rankOf_99 : decode cX8_rankOf 99 = .ok (.iload 7, 2) := by decide +kernel
theorem dX8_rankOf_101 : decode cX8_rankOf 101 = .ok (.aload_n 0, 1) := by decide +kernel
theorem dX8_rankOf_102 : decode cX8_rankOf 102 = .ok (.getfield 71, 3) := by decide +kernel
theorem dX8_rankOf_105 : decode cX8_rankOf 105 = .ok (.if_icmp .ge 47, 3) := by decide +kernel
theorem dX8_rankOf_108 : decode cX8_rankOf 108 = .ok (.iload 4, 2) := by decide +kernel
theorem dX8_rankOf_110 : decode cX8_rankOf 110 = .ok (.iconst 4, 1) := by decide +kernel
theorem dX8_rankOf_111 : decode cX8_rankOf 111 = .ok (.irem, 1) := by decide +kernel
theorem dX8_rankOf_112 : decode cX8_rankOf 112 = .ok (.aload_n 0, 1) := by decide +kernel
theorem dX8_rankOf_113 : decode cX8_rankOf 113 = .ok (.getfield 71, 3) := by decide +kernel
theorem dX8_rankOf_116 : decode cX8_rankOf 116 = .ok (.if_icmp .ge 36, 3) := by decide +kernel
theorem dX8_rankOf_119 : decode cX8_rankOf 119 = .ok (.aload_n 0, 1) := by decide +kernel
theorem dX8_rankOf_120 : decode cX8_rankOf 120 = .ok (.iload 7, 2) := by decide +kernel
theorem dX8_rankOf_122 : decode cX8_rankOf 122 = .ok (.iload 4, 2) := by decide +kernel
theorem dX8_rankOf_124 : decode cX8_rankOf 124 = .ok (.iconst 4, 1) := by decide +kernel
theorem dX8_rankOf_125 : decode cX8_rankOf 125 = .ok (.irem, 1) := by decide +kernel
theorem dX8_rankOf_126 : decode cX8_rankOf 126 = .ok (.invokevirtual 202, 3) := by decide +kernel
theorem dX8_rankOf_129 : decode cX8_rankOf 129 = .ok (.i2l, 1) := by decide +kernel
theorem dX8_rankOf_130 : decode cX8_rankOf 130 = .ok (.iload 7, 2) := by decide +kernel
theorem dX8_rankOf_132 : decode cX8_rankOf 132 = .ok (.iload 4, 2) := by decide +kernel
theorem dX8_rankOf_134 : decode cX8_rankOf 134 = .ok (.iconst 4, 1) := by decide +kernel
theorem dX8_rankOf_135 : decode cX8_rankOf 135 = .ok (.irem, 1) := by decide +kernel
theorem dX8_rankOf_136 : decode cX8_rankOf 136 = .ok (.if_icmp .ne 7, 3) := by decide +kernel
theorem dX8_rankOf_139 : decode cX8_rankOf 139 = .ok (.iload_n 1, 1) := by decide +kernel
theorem dX8_rankOf_140 : decode cX8_rankOf 140 = .ok (.goto 4, 3) := by decide +kernel
theorem dX8_rankOf_143 : decode cX8_rankOf 143 = .ok (.iconst 0, 1) := by decide +kernel
theorem dX8_rankOf_144 : decode cX8_rankOf 144 = .ok (.i2l, 1) := by decide +kernel
theorem dX8_rankOf_145 : decode cX8_rankOf 145 = .ok (.lsub, 1) := by decide +kernel
theorem dX8_rankOf_146 : decode cX8_rankOf 146 = .ok (.invokestatic 87, 3) := by decide +kernel
theorem dX8_rankOf_149 : decode cX8_rankOf 149 = .ok (.goto 4, 3) := by decide +kernel
theorem dX8_rankOf_152 : decode cX8_rankOf 152 = .ok (.iconst 0, 1) := by decide +kernel
theorem dX8_rankOf_153 : decode cX8_rankOf 153 = .ok (.i2l, 1) := by decide +kernel
theorem dX8_rankOf_154 : decode cX8_rankOf 154 = .ok (.lmul, 1) := by decide +kernel
theorem dX8_rankOf_155 : decode cX8_rankOf 155 = .ok (.ladd, 1) := by decide +kernel
theorem dX8_rankOf_156 : decode cX8_rankOf 156 = .ok (.ldc2_w 69, 3) := by decide +kernel
theorem dX8_rankOf_159 : decode cX8_rankOf 159 = .ok (.lrem, 1) := by decide +kernel
theorem dX8_rankOf_160 : decode cX8_rankOf 160 = .ok (.lstore 5, 2) := by decide +kernel
theorem dX8_rankOf_162 : decode cX8_rankOf 162 = .ok (.iinc 7 1, 3) := by decide +kernel
theorem dX8_rankOf_165 : decode cX8_rankOf 165 = .ok (.goto (-92), 3) := by decide +kernel
theorem dX8_rankOf_168 : decode cX8_rankOf 168 = .ok (.aload_n 0, 1) := by decide +kernel
theorem dX8_rankOf_169 : decode cX8_rankOf 169 = .ok (.getfield 62, 3) := by decide +kernel
theorem dX8_rankOf_172 : decode cX8_rankOf 172 = .ok (.iload 4, 2) := by decide +kernel
theorem dX8_rankOf_174 : decode cX8_rankOf 174 = .ok (.lload 5, 2) := by decide +kernel
theorem dX8_rankOf_176 : decode cX8_rankOf 176 = .ok (.l2i, 1) := by decide +kernel
theorem dX8_rankOf_177 : decode cX8_rankOf 177 = .ok (.iastore, 1) := by decide +kernel
theorem dX8_rankOf_178 : decode cX8_rankOf 178 = .ok (.iinc 4 1, 3) := by decide +kernel
theorem dX8_rankOf_181 : decode cX8_rankOf 181 = .ok (.goto (-121), 3) := by decide +kernel
theorem dX8_rankOf_184 : decode cX8_rankOf 184 = .ok (.iconst 0, 1) := by decide +kernel
theorem dX8_rankOf_185 : decode cX8_rankOf 185 = .ok (.istore 4, 2) := by decide +kernel
theorem dX8_rankOf_187 : decode cX8_rankOf 187 = .ok (.iload 4, 2) := by decide +kernel
theorem dX8_rankOf_189 : decode cX8_rankOf 189 = .ok (.bipush 16, 2) := by decide +kernel
theorem dX8_rankOf_191 : decode cX8_rankOf 191 = .ok (.if_icmp .ge 23, 3) := by decide +kernel
theorem dX8_rankOf_194 : decode cX8_rankOf 194 = .ok (.aload_n 0, 1) := by decide +kernel
theorem dX8_rankOf_195 : decode cX8_rankOf 195 = .ok (.getfield 59, 3) := by decide +kernel
theorem dX8_rankOf_198 : decode cX8_rankOf 198 = .ok (.iload 4, 2) := by decide +kernel
theorem dX8_rankOf_200 : decode cX8_rankOf 200 = .ok (.aload_n 0, 1) := by decide +kernel
theorem dX8_rankOf_201 : decode cX8_rankOf 201 = .ok (.getfield 62, 3) := by decide +kernel
theorem dX8_rankOf_204 : decode cX8_rankOf 204 = .ok (.iload 4, 2) := by decide +kernel
theorem dX8_rankOf_206 : decode cX8_rankOf 206 = .ok (.iaload, 1) := by decide +kernel
theorem dX8_rankOf_207 : decode cX8_rankOf 207 = .ok (.iastore, 1) := by decide +kernel
theorem dX8_rankOf_208 : decode cX8_rankOf 208 = .ok (.iinc 4 1, 3) := by decide +kernel
theorem dX8_rankOf_211 : decode cX8_rankOf 211 = .ok (.goto (-24), 3) := by decide +kernel
theorem dX8_rankOf_214 : decode cX8_rankOf 214 = .ok (.iinc 3 1, 3) := by decide +kernel
theorem dX8_rankOf_217 : decode cX8_rankOf 217 = .ok (.goto (-171), 3) := by decide +kernel
theorem dX8_rankOf_220 : decode cX8_rankOf 220 = .ok (.iconst 0, 1) := by decide +kernel
theorem dX8_rankOf_221 : decode cX8_rankOf 221 = .ok (.istore_n 3, 1) := by decide +kernel
theorem dX8_rankOf_222 : decode cX8_rankOf 222 = .ok (.iload_n 3, 1) := by decide +kernel
theorem dX8_rankOf_223 : decode cX8_rankOf 223 = .ok (.bipush 64, 2) := by decide +kernel
theorem dX8_rankOf_225 : decode cX8_rankOf 225 = .ok (.if_icmp .ge 16, 3) := by decide +kernel
theorem dX8_rankOf_228 : decode cX8_rankOf 228 = .ok (.aload_n 0, 1) := by decide +kernel
theorem dX8_rankOf_229 : decode cX8_rankOf 229 = .ok (.getfield 23, 3) := by decide +kernel
theorem dX8_rankOf_232 : decode cX8_rankOf 232 = .ok (.iload_n 3, 1) := by decide +kernel
theorem dX8_rankOf_233 : decode cX8_rankOf 233 = .ok (.iconst 0, 1) := by decide +kernel
theorem dX8_rankOf_234 : decode cX8_rankOf 234 = .ok (.iastore, 1) := by decide +kernel
theorem dX8_rankOf_235 : decode cX8_rankOf 235 = .ok (.iinc 3 1, 3) := by decide +kernel
theorem dX8_rankOf_238 : decode cX8_rankOf 238 = .ok (.goto (-16), 3) := by decide +kernel
theorem dX8_rankOf_241 : decode cX8_rankOf 241 = .ok (.iconst 0, 1) := by decide +kernel
theorem dX8_rankOf_242 : decode cX8_rankOf 242 = .ok (.istore_n 3, 1) := by decide +kernel
theorem dX8_rankOf_243 : decode cX8_rankOf 243 = .ok (.iload_n 3, 1) := by decide +kernel
theorem dX8_rankOf_244 : decode cX8_rankOf 244 = .ok (.bipush 16, 2) := by decide +kernel
theorem dX8_rankOf_246 : decode cX8_rankOf 246 = .ok (.if_icmp .ge 23, 3) := by decide +kernel
theorem dX8_rankOf_249 : decode cX8_rankOf 249 = .ok (.aload_n 0, 1) := by decide +kernel
theorem dX8_rankOf_250 : decode cX8_rankOf 250 = .ok (.getfield 23, 3) := by decide +kernel
theorem dX8_rankOf_253 : decode cX8_rankOf 253 = .ok (.iconst 4, 1) := by decide +kernel
theorem dX8_rankOf_254 : decode cX8_rankOf 254 = .ok (.iload_n 3, 1) := by decide +kernel
theorem dX8_rankOf_255 : decode cX8_rankOf 255 = .ok (.imul, 1) := by decide +kernel
theorem dX8_rankOf_256 : decode cX8_rankOf 256 = .ok (.aload_n 0, 1) := by decide +kernel
theorem dX8_rankOf_257 : decode cX8_rankOf 257 = .ok (.getfield 59, 3) := by decide +kernel
theorem dX8_rankOf_260 : decode cX8_rankOf 260 = .ok (.iload_n 3, 1) := by decide +kernel
theorem dX8_rankOf_261 : decode cX8_rankOf 261 = .ok (.iaload, 1) := by decide +kernel
theorem dX8_rankOf_262 : decode cX8_rankOf 262 = .ok (.iastore, 1) := by decide +kernel
theorem dX8_rankOf_263 : decode cX8_rankOf 263 = .ok (.iinc 3 1, 3) := by decide +kernel
theorem dX8_rankOf_266 : decode cX8_rankOf 266 = .ok (.goto (-23), 3) := by decide +kernel
theorem dX8_rankOf_269 : decode cX8_rankOf 269 = .ok (.aload_n 0, 1) := by decide +kernel
theorem dX8_rankOf_270 : decode cX8_rankOf 270 = .ok (.invokevirtual 99, 3) := by decide +kernel
theorem dX8_rankOf_273 : decode cX8_rankOf 273 = .ok (.aload_n 0, 1) := by decide +kernel
theorem dX8_rankOf_274 : decode cX8_rankOf 274 = .ok (.invokevirtual 109, 3) := by decide +kernel
theorem dX8_rankOf_277 : decode cX8_rankOf 277 = .ok (.ireturn, 1) := by decide +kernel
set_option maxRecDepth 20000 in
theorem ggX8_blocks_X8_isSquare : GoodIn wsX8_blocks wsX8_isSquare := goodIn_r _ [5, 6, 7, 8, 61, 62, 63, 64, 65, 66, 67, 68, 69, 70, 71, 72, 73, 74, 75, 76, 77, 78, 79, 80, 81] (by decide +kernel) (by decide +kernel)
set_option maxRecDepth 20000 in
theorem gX8_blocks_X8_isSquare : GoodIn wsX8_blocks (wsV RX8 113 RX8 yX8_isSquare wsX8_isSquare) := goodIn_app (goodIn_of _ (by decide +kernel)) ggX8_blocks_X8_isSquare
set_option maxRecDepth 20000 in
theorem ggX8_blocks_X8_findRoot : GoodIn wsX8_blocks wsX8_findRoot := goodIn_r _ [12, 13, 14, 15, 16, 17, 4, 18, 19, 6, 20, 21, 22, 23, 24, 25, 26, 27, 28, 29, 30, 31, 32, 33, 34, 35, 36, 37, 38, 61, 62, 63, 64, 65, 66, 67, 68, 69, 70, 71, 72, 73, 74, 75, 76, 77, 78, 79, 80, 81] (by decide +kernel) (by decide +kernel)
set_option maxRecDepth 20000 in
theorem gX8_blocks_X8_findRoot : GoodIn wsX8_blocks (wsV RX8 209 RX8 yX8_findRoot wsX8_findRoot) := goodIn_app (goodIn_of _ (by decide +kernel)) ggX8_blocks_X8_findRoot
set_option maxRecDepth 20000 in
theorem ggX8_blocks_X8_raise : GoodIn wsX8_blocks wsX8_raise := goodIn_r _ [42, 8, 61, 62, 63, 64, 65, 66, 67, 68, 69, 70, 71, 72, 73, 74, 75, 76, 77, 78, 79, 80, 81] (by decide +kernel) (by decide +kernel)
set_option maxRecDepth 20000 in
theorem gX8_blocks_X8_raise : GoodIn wsX8_blocks (wsV RX8 212 RX8 yX8_raise wsX8_raise) := goodIn_app (goodIn_of _ (by decide +kernel)) ggX8_blocks_X8_raise
set_option maxRecDepth 20000 in
theorem ggX8_blocks_X8_rankOf : GoodIn wsX8_blocks wsX8_rankOf := goodIn_r _ [46, 47, 6, 14, 48, 19, 49, 50, 51, 4, 52, 20, 32, 33, 34, 21, 22, 23, 24, 13, 25, 26, 27, 28, 29, 30, 31, 53, 54, 55, 56, 57, 58, 59, 60, 61, 62, 63, 64, 65, 66, 67, 68, 69, 70, 71, 72, 73, 74, 75, 76, 77, 78, 79, 80, 81] (by decide +kernel) (by decide +kernel)
set_option maxRecDepth 20000 in
theorem gX8_blocks_X8_rankOf : GoodIn wsX8_blocks (wsV RX8 215 RX8 yX8_rankOf wsX8_rankOf) := goodIn_app (goodIn_of _ (by decide +kernel)) ggX8_blocks_X8_rankOf
theorem dX8_blocks_0 : decode cX8_blocks 0 = .ok (.aload_n 0, 1) := by decide +kernel
theorem dX8_blocks_1 : decode cX8_blocks 1 = .ok (.invokevirtual 113, 3) := by decide +kernel
theorem dX8_blocks_4 : decode cX8_blocks 4 = .ok (.ifCond .ne 5, 3) := by decide +kernel
theorem dX8_blocks_7 : decode cX8_blocks 7 = .ok (.iconst 0, 1) := by decide +kernel
theorem dX8_blocks_8 : decode cX8_blocks 8 = .ok (.ireturn, 1) := by decide +kernel
theorem dX8_blocks_9 : decode cX8_blocks 9 = .ok (.aload_n 0, 1) := by decide +kernel
theorem dX8_blocks_10 : decode cX8_blocks 10 = .ok (.iload_n 1, 1) := by decide +kernel
theorem dX8_blocks_11 : decode cX8_blocks 11 = .ok (.invokevirtual 209, 3) := by decide +kernel
theorem dX8_blocks_14 : decode cX8_blocks 14 = .ok (.istore_n 3, 1) := by decide +kernel
theorem dX8_blocks_15 : decode cX8_blocks 15 = .ok (.iload_n 3, 1) := by decide +kernel
theorem dX8_blocks_16 : decode cX8_blocks 16 = .ok (.iconst (-1), 1) := by decide +kernel
theorem dX8_blocks_17 : decode cX8_blocks 17 = .ok (.if_icmp .eq 8, 3) := by decide +kernel
theorem dX8_blocks_20 : decode cX8_blocks 20 = .ok (.iload_n 2, 1) := by decide +kernel
theorem dX8_blocks_21 : decode cX8_blocks 21 = .ok (.iconst 1, 1) := by decide +kernel
theorem dX8_blocks_22 : decode cX8_blocks 22 = .ok (.if_icmp .ge 9, 3) := by decide +kernel
theorem dX8_blocks_25 : decode cX8_blocks 25 = .ok (.aload_n 0, 1) := by decide +kernel
theorem dX8_blocks_26 : decode cX8_blocks 26 = .ok (.iconst 2, 1) := by decide +kernel
theorem dX8_blocks_27 : decode cX8_blocks 27 = .ok (.invokevirtual 212, 3) := by decide +kernel
theorem dX8_blocks_30 : decode cX8_blocks 30 = .ok (.ireturn, 1) := by decide +kernel
theorem dX8_blocks_31 : decode cX8_blocks 31 = .ok (.iload_n 2, 1) := by decide +kernel
theorem dX8_blocks_32 : decode cX8_blocks 32 = .ok (.iconst 5, 1) := by decide +kernel
theorem dX8_blocks_33 : decode cX8_blocks 33 = .ok (.if_icmp .le 5, 3) := by decide +kernel
theorem dX8_blocks_36 : decode cX8_blocks 36 = .ok (.iconst 0, 1) := by decide +kernel
theorem dX8_blocks_37 : decode cX8_blocks 37 = .ok (.ireturn, 1) := by decide +kernel
theorem dX8_blocks_38 : decode cX8_blocks 38 = .ok (.aload_n 0, 1) := by decide +kernel
theorem dX8_blocks_39 : decode cX8_blocks 39 = .ok (.iload_n 3, 1) := by decide +kernel
theorem dX8_blocks_40 : decode cX8_blocks 40 = .ok (.iload_n 2, 1) := by decide +kernel
theorem dX8_blocks_41 : decode cX8_blocks 41 = .ok (.iconst 1, 1) := by decide +kernel
theorem dX8_blocks_42 : decode cX8_blocks 42 = .ok (.isub, 1) := by decide +kernel
theorem dX8_blocks_43 : decode cX8_blocks 43 = .ok (.invokevirtual 215, 3) := by decide +kernel
theorem dX8_blocks_46 : decode cX8_blocks 46 = .ok (.iconst 2, 1) := by decide +kernel
theorem dX8_blocks_47 : decode cX8_blocks 47 = .ok (.aload_n 0, 1) := by decide +kernel
theorem dX8_blocks_48 : decode cX8_blocks 48 = .ok (.iload_n 3, 1) := by decide +kernel
theorem dX8_blocks_49 : decode cX8_blocks 49 = .ok (.iload_n 2, 1) := by decide +kernel
theorem dX8_blocks_50 : decode cX8_blocks 50 = .ok (.invokevirtual 215, 3) := by decide +kernel
theorem dX8_blocks_53 : decode cX8_blocks 53 = .ok (.imul, 1) := by decide +kernel
theorem dX8_blocks_54 : decode cX8_blocks 54 = .ok (.isub, 1) := by decide +kernel
theorem dX8_blocks_55 : decode cX8_blocks 55 = .ok (.aload_n 0, 1) := by decide +kernel
theorem dX8_blocks_56 : decode cX8_blocks 56 = .ok (.iload_n 3, 1) := by decide +kernel
theorem dX8_blocks_57 : decode cX8_blocks 57 = .ok (.iload_n 2, 1) := by decide +kernel
theorem dX8_blocks_58 : decode cX8_blocks 58 = .ok (.iconst 1, 1) := by decide +kernel
theorem dX8_blocks_59 : decode cX8_blocks 59 = .ok (.iadd, 1) := by decide +kernel
theorem dX8_blocks_60 : decode cX8_blocks 60 = .ok (.invokevirtual 215, 3) := by decide +kernel
theorem dX8_blocks_63 : decode cX8_blocks 63 = .ok (.iadd, 1) := by decide +kernel
theorem dX8_blocks_64 : decode cX8_blocks 64 = .ok (.ireturn, 1) := by decide +kernel
theorem dX8_count_0 : decode cX8_count 0 = .ok (.aload_n 0, 1) := by decide +kernel
theorem dX8_count_1 : decode cX8_count 1 = .ok (.iconst 0, 1) := by decide +kernel
theorem dX8_count_2 : decode cX8_count 2 = .ok (.putfield 65, 3) := by decide +kernel
theorem dX8_count_5 : decode cX8_count 5 = .ok (.iconst 0, 1) := by decide +kernel
theorem dX8_count_6 : decode cX8_count 6 = .ok (.istore_n 2, 1) := by decide +kernel
theorem dX8_count_7 : decode cX8_count 7 = .ok (.iconst 0, 1) := by decide +kernel
theorem dX8_count_8 : decode cX8_count 8 = .ok (.istore_n 3, 1) := by decide +kernel
theorem dX8_count_9 : decode cX8_count 9 = .ok (.iload_n 3, 1) := by decide +kernel
theorem dX8_count_10 : decode cX8_count 10 = .ok (.iconst 3, 1) := by decide +kernel
theorem dX8_count_11 : decode cX8_count 11 = .ok (.if_icmp .ge 26, 3) := by decide +kernel
theorem dX8_count_14 : decode cX8_count 14 = .ok (.iload_n 2, 1) := by decide +kernel
theorem dX8_count_15 : decode cX8_count 15 = .ok (.aload_n 0, 1) := by decide +kernel
theorem dX8_count_16 : decode cX8_count 16 = .ok (.getfield 13, 3) := by decide +kernel
theorem dX8_count_19 : decode cX8_count 19 = .ok (.iload_n 3, 1) := by decide +kernel
theorem dX8_count_20 : decode cX8_count 20 = .ok (.baload, 1) := by decide +kernel
theorem dX8_count_21 : decode cX8_count 21 = .ok (.ifCond .eq 7, 3) := by decide +kernel
theorem dX8_count_24 : decode cX8_count 24 = .ok (.iconst 1, 1) := by decide +kernel
theorem dX8_count_25 : decode cX8_count 25 = .ok (.goto 4, 3) := by decide +kernel
theorem dX8_count_28 : decode cX8_count 28 = .ok (.iconst 0, 1) := by decide +kernel
theorem dX8_count_29 : decode cX8_count 29 = .ok (.iadd, 1) := by decide +kernel
theorem dX8_count_30 : decode cX8_count 30 = .ok (.istore_n 2, 1) := by decide +kernel
theorem dX8_count_31 : decode cX8_count 31 = .ok (.iinc 3 1, 3) := by decide +kernel
theorem dX8_count_34 : decode cX8_count 34 = .ok (.goto (-25), 3) := by decide +kernel
theorem dX8_count_37 : decode cX8_count 37 = .ok (.iload_n 1, 1) := by decide +kernel
theorem dX8_count_38 : decode cX8_count 38 = .ok (.ifCond .ne 10, 3) := by decide +kernel
theorem dX8_count_41 : decode cX8_count 41 = .ok (.aload_n 0, 1) := by decide +kernel
theorem dX8_count_42 : decode cX8_count 42 = .ok (.getfield 71, 3) := by decide +kernel
theorem dX8_count_45 : decode cX8_count 45 = .ok (.goto 25, 3) := by decide +kernel
theorem dX8_count_48 : decode cX8_count 48 = .ok (.iload_n 1, 1) := by decide +kernel
theorem dX8_count_49 : decode cX8_count 49 = .ok (.iconst 1, 1) := by decide +kernel
theorem dX8_count_50 : decode cX8_count 50 = .ok (.if_icmp .ne 10, 3) := by decide +kernel
theorem dX8_count_53 : decode cX8_count 53 = .ok (.aload_n 0, 1) := by decide +kernel
theorem dX8_count_54 : decode cX8_count 54 = .ok (.getfield 74, 3) := by decide +kernel
theorem dX8_count_57 : decode cX8_count 57 = .ok (.goto 13, 3) := by decide +kernel
theorem dX8_count_60 : decode cX8_count 60 = .ok (.iload_n 1, 1) := by decide +kernel
theorem dX8_count_61 : decode cX8_count 61 = .ok (.iconst 2, 1) := by decide +kernel
theorem dX8_count_62 : decode cX8_count 62 = .ok (.if_icmp .ne 7, 3) := by decide +kernel
theorem dX8_count_65 : decode cX8_count 65 = .ok (.iload_n 2, 1) := by decide +kernel
theorem dX8_count_66 : decode cX8_count 66 = .ok (.goto 4, 3) := by decide +kernel
theorem dX8_count_69 : decode cX8_count 69 = .ok (.iconst (-1), 1) := by decide +kernel
theorem dX8_count_70 : decode cX8_count 70 = .ok (.ireturn, 1) := by decide +kernel
theorem dJx00060_init_a7421_0 : decode cJx00060_init_a7421 0 = .ok (.aload_n 0, 1) := by decide +kernel
theorem dJx00060_init_a7421_1 : decode cJx00060_init_a7421 1 = .ok (.aload_n 1, 1) := by decide +kernel
theorem dJx00060_init_a7421_2 : decode cJx00060_init_a7421 2 = .ok (.invokespecial 7, 3) := by decide +kernel
theorem dJx00060_init_a7421_5 : decode cJx00060_init_a7421 5 = .ok (.return_, 1) := by decide +kernel
theorem dJ6_bitCount_0f7a4_0 : decode cJ6_bitCount_0f7a4 0 = .ok (.iload_n 0, 1) := by decide +kernel
theorem dJ6_bitCount_0f7a4_1 : decode cJ6_bitCount_0f7a4 1 = .ok (.iload_n 0, 1) := by decide +kernel
theorem dJ6_bitCount_0f7a4_2 : decode cJ6_bitCount_0f7a4 2 = .ok (.iconst 1, 1) := by decide +kernel
theorem dJ6_bitCount_0f7a4_3 : decode cJ6_bitCount_0f7a4 3 = .ok (.iushr, 1) := by decide +kernel
theorem dJ6_bitCount_0f7a4_4 : decode cJ6_bitCount_0f7a4 4 = .ok (.ldc_w 265, 3) := by decide +kernel
theorem dJ6_bitCount_0f7a4_7 : decode cJ6_bitCount_0f7a4 7 = .ok (.iand, 1) := by decide +kernel
theorem dJ6_bitCount_0f7a4_8 : decode cJ6_bitCount_0f7a4 8 = .ok (.isub, 1) := by decide +kernel
theorem dJ6_bitCount_0f7a4_9 : decode cJ6_bitCount_0f7a4 9 = .ok (.istore_n 0, 1) := by decide +kernel
theorem dJ6_bitCount_0f7a4_10 : decode cJ6_bitCount_0f7a4 10 = .ok (.iload_n 0, 1) := by decide +kernel
theorem dJ6_bitCount_0f7a4_11 : decode cJ6_bitCount_0f7a4 11 = .ok (.ldc_w 266, 3) := by decide +kernel
theorem dJ6_bitCount_0f7a4_14 : decode cJ6_bitCount_0f7a4 14 = .ok (.iand, 1) := by decide +kernel
theorem dJ6_bitCount_0f7a4_15 : decode cJ6_bitCount_0f7a4 15 = .ok (.iload_n 0, 1) := by decide +kernel
theorem dJ6_bitCount_0f7a4_16 : decode cJ6_bitCount_0f7a4 16 = .ok (.iconst 2, 1) := by decide +kernel
theorem dJ6_bitCount_0f7a4_17 : decode cJ6_bitCount_0f7a4 17 = .ok (.iushr, 1) := by decide +kernel
theorem dJ6_bitCount_0f7a4_18 : decode cJ6_bitCount_0f7a4 18 = .ok (.ldc_w 266, 3) := by decide +kernel
theorem dJ6_bitCount_0f7a4_21 : decode cJ6_bitCount_0f7a4 21 = .ok (.iand, 1) := by decide +kernel
theorem dJ6_bitCount_0f7a4_22 : decode cJ6_bitCount_0f7a4 22 = .ok (.iadd, 1) := by decide +kernel
theorem dJ6_bitCount_0f7a4_23 : decode cJ6_bitCount_0f7a4 23 = .ok (.istore_n 0, 1) := by decide +kernel
theorem dJ6_bitCount_0f7a4_24 : decode cJ6_bitCount_0f7a4 24 = .ok (.iload_n 0, 1) := by decide +kernel
theorem dJ6_bitCount_0f7a4_25 : decode cJ6_bitCount_0f7a4 25 = .ok (.iload_n 0, 1) := by decide +kernel
theorem dJ6_bitCount_0f7a4_26 : decode cJ6_bitCount_0f7a4 26 = .ok (.iconst 4, 1) := by decide +kernel
theorem dJ6_bitCount_0f7a4_27 : decode cJ6_bitCount_0f7a4 27 = .ok (.iushr, 1) := by decide +kernel
theorem dJ6_bitCount_0f7a4_28 : decode cJ6_bitCount_0f7a4 28 = .ok (.iadd, 1) := by decide +kernel
theorem dJ6_bitCount_0f7a4_29 : decode cJ6_bitCount_0f7a4 29 = .ok (.ldc_w 267, 3) := by decide +kernel
theorem dJ6_bitCount_0f7a4_32 : decode cJ6_bitCount_0f7a4 32 = .ok (.iand, 1) := by decide +kernel
theorem dJ6_bitCount_0f7a4_33 : decode cJ6_bitCount_0f7a4 33 = .ok (.istore_n 0, 1) := by decide +kernel
theorem dJ6_bitCount_0f7a4_34 : decode cJ6_bitCount_0f7a4 34 = .ok (.iload_n 0, 1) := by decide +kernel
theorem dJ6_bitCount_0f7a4_35 : decode cJ6_bitCount_0f7a4 35 = .ok (.iload_n 0, 1) := by decide +kernel
theorem dJ6_bitCount_0f7a4_36 : decode cJ6_bitCount_0f7a4 36 = .ok (.bipush 8, 2) := by decide +kernel
theorem dJ6_bitCount_0f7a4_38 : decode cJ6_bitCount_0f7a4 38 = .ok (.iushr, 1) := by decide +kernel
theorem dJ6_bitCount_0f7a4_39 : decode cJ6_bitCount_0f7a4 39 = .ok (.iadd, 1) := by decide +kernel
theorem dJ6_bitCount_0f7a4_40 : decode cJ6_bitCount_0f7a4 40 = .ok (.istore_n 0, 1) := by decide +kernel
theorem dJ6_bitCount_0f7a4_41 : decode cJ6_bitCount_0f7a4 41 = .ok (.iload_n 0, 1) := by decide +kernel
theorem dJ6_bitCount_0f7a4_42 : decode cJ6_bitCount_0f7a4 42 = .ok (.iload_n 0, 1) := by decide +kernel
theorem dJ6_bitCount_0f7a4_43 : decode cJ6_bitCount_0f7a4 43 = .ok (.bipush 16, 2) := by decide +kernel
theorem dJ6_bitCount_0f7a4_45 : decode cJ6_bitCount_0f7a4 45 = .ok (.iushr, 1) := by decide +kernel
theorem dJ6_bitCount_0f7a4_46 : decode cJ6_bitCount_0f7a4 46 = .ok (.iadd, 1) := by decide +kernel
theorem dJ6_bitCount_0f7a4_47 : decode cJ6_bitCount_0f7a4 47 = .ok (.istore_n 0, 1) := by decide +kernel
theorem dJ6_bitCount_0f7a4_48 : decode cJ6_bitCount_0f7a4 48 = .ok (.iload_n 0, 1) := by decide +kernel
theorem dJ6_bitCount_0f7a4_49 : decode cJ6_bitCount_0f7a4 49 = .ok (.bipush 63, 2) := by decide +kernel
theorem dJ6_bitCount_0f7a4_51 : decode cJ6_bitCount_0f7a4 51 = .ok (.iand, 1) := by decide +kernel
theorem dJ6_bitCount_0f7a4_52 : decode cJ6_bitCount_0f7a4 52 = .ok (.ireturn, 1) := by decide +kernel
theorem dJ9_floorMod_7cf53_0 : decode cJ9_floorMod_7cf53 0 = .ok (.iload_n 0, 1) := by decide +kernel
theorem dJ9_floorMod_7cf53_1 : decode cJ9_floorMod_7cf53 1 = .ok (.iload_n 1, 1) := by decide +kernel
theorem dJ9_floorMod_7cf53_2 : decode cJ9_floorMod_7cf53 2 = .ok (.irem, 1) := by decide +kernel
theorem dJ9_floorMod_7cf53_3 : decode cJ9_floorMod_7cf53 3 = .ok (.istore_n 2, 1) := by decide +kernel
theorem dJ9_floorMod_7cf53_4 : decode cJ9_floorMod_7cf53 4 = .ok (.iload_n 0, 1) := by decide +kernel
theorem dJ9_floorMod_7cf53_5 : decode cJ9_floorMod_7cf53 5 = .ok (.iload_n 1, 1) := by decide +kernel
theorem dJ9_floorMod_7cf53_6 : decode cJ9_floorMod_7cf53 6 = .ok (.ixor, 1) := by decide +kernel
theorem dJ9_floorMod_7cf53_7 : decode cJ9_floorMod_7cf53 7 = .ok (.ifCond .ge 11, 3) := by decide +kernel
theorem dJ9_floorMod_7cf53_10 : decode cJ9_floorMod_7cf53 10 = .ok (.iload_n 2, 1) := by decide +kernel
theorem dJ9_floorMod_7cf53_11 : decode cJ9_floorMod_7cf53 11 = .ok (.ifCond .eq 7, 3) := by decide +kernel
theorem dJ9_floorMod_7cf53_14 : decode cJ9_floorMod_7cf53 14 = .ok (.iload_n 2, 1) := by decide +kernel
theorem dJ9_floorMod_7cf53_15 : decode cJ9_floorMod_7cf53 15 = .ok (.iload_n 1, 1) := by decide +kernel
theorem dJ9_floorMod_7cf53_16 : decode cJ9_floorMod_7cf53 16 = .ok (.iadd, 1) := by decide +kernel
theorem dJ9_floorMod_7cf53_17 : decode cJ9_floorMod_7cf53 17 = .ok (.ireturn, 1) := by decide +kernel
theorem dJ9_floorMod_7cf53_18 : decode cJ9_floorMod_7cf53 18 = .ok (.iload_n 2, 1) := by decide +kernel
theorem dJ9_floorMod_7cf53_19 : decode cJ9_floorMod_7cf53 19 = .ok (.ireturn, 1) := by decide +kernel
theorem dJ9_max_7cf53_0 : decode cJ9_max_7cf53 0 = .ok (.iload_n 0, 1) := by decide +kernel
theorem dJ9_max_7cf53_1 : decode cJ9_max_7cf53 1 = .ok (.iload_n 1, 1) := by decide +kernel
theorem dJ9_max_7cf53_2 : decode cJ9_max_7cf53 2 = .ok (.if_icmp .lt 7, 3) := by decide +kernel
theorem dJ9_max_7cf53_5 : decode cJ9_max_7cf53 5 = .ok (.iload_n 0, 1) := by decide +kernel
theorem dJ9_max_7cf53_6 : decode cJ9_max_7cf53 6 = .ok (.goto 4, 3) := by decide +kernel
theorem dJ9_max_7cf53_9 : decode cJ9_max_7cf53 9 = .ok (.iload_n 1, 1) := by decide +kernel
theorem dJ9_max_7cf53_10 : decode cJ9_max_7cf53 10 = .ok (.ireturn, 1) := by decide +kernel
theorem dJ9_min_7cf53_0 : decode cJ9_min_7cf53 0 = .ok (.iload_n 0, 1) := by decide +kernel
theorem dJ9_min_7cf53_1 : decode cJ9_min_7cf53 1 = .ok (.iload_n 1, 1) := by decide +kernel
theorem dJ9_min_7cf53_2 : decode cJ9_min_7cf53 2 = .ok (.if_icmp .gt 7, 3) := by decide +kernel
theorem dJ9_min_7cf53_5 : decode cJ9_min_7cf53 5 = .ok (.iload_n 0, 1) := by decide +kernel
theorem dJ9_min_7cf53_6 : decode cJ9_min_7cf53 6 = .ok (.goto 4, 3) := by decide +kernel
theorem dJ9_min_7cf53_9 : decode cJ9_min_7cf53 9 = .ok (.iload_n 1, 1) := by decide +kernel
theorem dJ9_min_7cf53_10 : decode cJ9_min_7cf53 10 = .ok (.ireturn, 1) := by decide +kernel
theorem dJxde1cd_init_a7421_0 : decode cJxde1cd_init_a7421 0 = .ok (.aload_n 0, 1) := by decide +kernel
theorem dJxde1cd_init_a7421_1 : decode cJxde1cd_init_a7421 1 = .ok (.aload_n 1, 1) := by decide +kernel
theorem dJxde1cd_init_a7421_2 : decode cJxde1cd_init_a7421 2 = .ok (.invokespecial 7, 3) := by decide +kernel
theorem dJxde1cd_init_a7421_5 : decode cJxde1cd_init_a7421 5 = .ok (.return_, 1) := by decide +kernel
set_option maxRecDepth 20000 in
theorem ggL_size_X7_size : GoodIn wsL_size wsX7_size := goodIn_ca (goodIn_r _ [7, 8, 9, 10, 11, 12, 13, 14, 15, 16, 17, 18, 19, 20, 21, 22, 23, 24, 25, 26, 27, 28, 29, 30, 31, 32, 33, 34, 35, 36, 37, 6, 38, 39, 40, 41, 42, 43, 44, 45, 46, 47, 48, 49, 50, 51, 52, 53, 54, 55, 56, 57, 58, 59, 60, 61, 62, 63, 64, 65, 66, 67, 68, 69, 70, 71] (by decide +kernel) (by decide +kernel)) (goodIn_sub (fun _ h => List.mem_cons_of_mem _ (List.mem_append_right _ h)) (by decide +kernel))
set_option maxRecDepth 20000 in
theorem gL_size_X7_size : GoodIn wsL_size (wsV RL 7 RX7 yX7_size wsX7_size) := goodIn_app (goodIn_of _ (by decide +kernel)) ggL_size_X7_size
theorem dL_size_0 : decode cL_size 0 = .ok (.aload_n 0, 1) := by decide +kernel
theorem dL_size_1 : decode cL_size 1 = .ok (.iload_n 1, 1) := by decide +kernel
theorem dL_size_2 : decode cL_size 2 = .ok (.iload_n 2, 1) := by decide +kernel
theorem dL_size_3 : decode cL_size 3 = .ok (.invokevirtual 7, 3) := by decide +kernel
theorem dL_size_6 : decode cL_size 6 = .ok (.goto 9, 3) := by decide +kernel
theorem dL_size_9 : decode cL_size 9 = .ok (.astore_n 3, 1) := by decide +kernel
theorem dL_size_10 : decode cL_size 10 = .ok (.iconst 1, 1) := by decide +kernel
theorem dL_size_11 : decode cL_size 11 = .ok (.ireturn, 1) := by decide +kernel
theorem dL_size_12 : decode cL_size 12 = .ok (.astore_n 3, 1) := by decide +kernel
theorem dL_size_13 : decode cL_size 13 = .ok (.iconst 2, 1) := by decide +kernel
theorem dL_size_14 : decode cL_size 14 = .ok (.ireturn, 1) := by decide +kernel
theorem dL_size_15 : decode cL_size 15 = .ok (.iconst 0, 1) := by decide +kernel
theorem dL_size_16 : decode cL_size 16 = .ok (.ireturn, 1) := by decide +kernel
set_option maxRecDepth 20000 in
theorem ggL_put_X7_put : GoodIn wsL_put wsX7_put := goodIn_r _ [5, 6, 7, 8, 9, 4, 10, 11, 12, 13, 14, 15, 16, 17, 18, 19, 20, 21, 22, 23, 24, 25, 26, 27, 28, 29, 30, 31, 32, 33, 34, 35, 36, 37, 38, 39, 40, 41, 42, 43, 44, 45, 46, 47, 48, 49, 50, 51, 52, 53, 54, 55, 56, 57, 58, 59, 60, 61, 62, 63, 64, 65, 66, 67, 68, 69, 70, 71, 72, 73, 74, 75, 76, 77, 78, 79, 80, 81, 82, 83, 84, 85] (by decide +kernel) (by decide +kernel)
set_option maxRecDepth 20000 in
theorem gL_put_X7_put : GoodIn wsL_put (wsV RL 17 RX7 yX7_put wsX7_put) := goodIn_app (goodIn_of _ (by decide +kernel)) ggL_put_X7_put
theorem dL_put_0 : decode cL_put 0 = .ok (.aload 5, 2) := by decide +kernel
theorem dL_put_2 : decode cL_put 2 = .ok (.iconst 0, 1) := by decide +kernel
theorem dL_put_3 : decode cL_put 3 = .ok (.aload_n 0, 1) := by decide +kernel
theorem dL_put_4 : decode cL_put 4 = .ok (.iload_n 1, 1) := by decide +kernel
theorem dL_put_5 : decode cL_put 5 = .ok (.iload_n 2, 1) := by decide +kernel
theorem dL_put_6 : decode cL_put 6 = .ok (.iload_n 3, 1) := by decide +kernel
theorem dL_put_7 : decode cL_put 7 = .ok (.iload 4, 2) := by decide +kernel
theorem dL_put_9 : decode cL_put 9 = .ok (.invokevirtual 17, 3) := by decide +kernel
theorem dL_put_12 : decode cL_put 12 = .ok (.ifCond .eq 7, 3) := by decide +kernel
theorem dL_put_15 : decode cL_put 15 = .ok (.lconst 1, 1) := by decide +kernel
theorem dL_put_16 : decode cL_put 16 = .ok (.goto 4, 3) := by decide +kernel
theorem dL_put_19 : decode cL_put 19 = .ok (.lconst 0, 1) := by decide +kernel
theorem dL_put_20 : decode cL_put 20 = .ok (.lastore, 1) := by decide +kernel
theorem dL_put_21 : decode cL_put 21 = .ok (.goto 7, 3) := by decide +kernel
theorem dL_put_24 : decode cL_put 24 = .ok (.astore 6, 2) := by decide +kernel
theorem dL_put_26 : decode cL_put 26 = .ok (.iconst 1, 1) := by decide +kernel
theorem dL_put_27 : decode cL_put 27 = .ok (.ireturn, 1) := by decide +kernel
theorem dL_put_28 : decode cL_put 28 = .ok (.iconst 0, 1) := by decide +kernel
theorem dL_put_29 : decode cL_put 29 = .ok (.ireturn, 1) := by decide +kernel
set_option maxRecDepth 20000 in
theorem ggL_entry_X7_entry : GoodIn wsL_entry wsX7_entry := goodIn_r _ [5, 6, 7, 8, 9, 4, 10, 11, 12, 13, 14, 15, 16, 17, 18, 19, 20, 21, 22, 23, 24, 25, 26, 27, 28, 29, 30, 31, 32, 33, 34, 35, 36, 37, 38, 39, 40, 41, 42, 43, 44, 45, 46, 47, 48, 49, 50, 51, 52, 53, 54, 55, 56, 57] (by decide +kernel) (by decide +kernel)
set_option maxRecDepth 20000 in
theorem gL_entry_X7_entry : GoodIn wsL_entry (wsV RL 23 RX7 yX7_entry wsX7_entry) := goodIn_app (goodIn_of _ (by decide +kernel)) ggL_entry_X7_entry
theorem dL_entry_0 : decode cL_entry 0 = .ok (.aload 4, 2) := by decide +kernel
theorem dL_entry_2 : decode cL_entry 2 = .ok (.iconst 0, 1) := by decide +kernel
theorem dL_entry_3 : decode cL_entry 3 = .ok (.aload_n 0, 1) := by decide +kernel
theorem dL_entry_4 : decode cL_entry 4 = .ok (.iload_n 1, 1) := by decide +kernel
theorem dL_entry_5 : decode cL_entry 5 = .ok (.iload_n 2, 1) := by decide +kernel
theorem dL_entry_6 : decode cL_entry 6 = .ok (.iload_n 3, 1) := by decide +kernel
theorem dL_entry_7 : decode cL_entry 7 = .ok (.invokevirtual 23, 3) := by decide +kernel
theorem dL_entry_10 : decode cL_entry 10 = .ok (.i2l, 1) := by decide +kernel
theorem dL_entry_11 : decode cL_entry 11 = .ok (.lastore, 1) := by decide +kernel
theorem dL_entry_12 : decode cL_entry 12 = .ok (.goto 7, 3) := by decide +kernel
theorem dL_entry_15 : decode cL_entry 15 = .ok (.astore 5, 2) := by decide +kernel
theorem dL_entry_17 : decode cL_entry 17 = .ok (.iconst 1, 1) := by decide +kernel
theorem dL_entry_18 : decode cL_entry 18 = .ok (.ireturn, 1) := by decide +kernel
theorem dL_entry_19 : decode cL_entry 19 = .ok (.iconst 0, 1) := by decide +kernel
theorem dL_entry_20 : decode cL_entry 20 = .ok (.ireturn, 1) := by decide +kernel
set_option maxRecDepth 20000 in
theorem ggL_make_X7_make : GoodIn wsL_make wsX7_make := goodIn_ca (goodIn_r _ [6, 7, 8, 9, 10, 11, 12, 13, 14, 5, 15, 16, 17, 18, 19, 20, 21, 22, 23, 24, 25, 26, 27, 28, 29, 30, 31, 32, 33, 34, 35, 36, 37, 38, 39, 40, 41, 42, 43, 44, 45, 46, 47, 48, 49, 50, 51, 52, 53, 54, 55, 56, 57, 58, 59, 60, 61, 62, 63, 64, 65, 66, 67, 68, 69, 70, 71, 72, 73, 74, 75, 76, 77, 78, 79, 80, 81, 82, 83, 84, 85, 86, 87, 88, 89, 90, 91, 92, 93, 94, 95, 96, 97, 98, 99, 100, 101, 102, 103, 104, 105, 106, 107, 108, 109, 110, 111, 112, 113, 114, 115, 116, 117, 118, 119, 120, 121, 122, 123, 124, 125, 126, 127, 128, 129, 130, 131, 132, 133, 134, 135, 136, 137, 138, 139, 140, 141, 142, 143, 144, 145, 146, 147, 148, 149, 150, 151, 152, 153, 154, 155, 156, 157, 158, 159, 160, 161, 162, 163, 164, 165, 166, 167, 168, 169, 170, 171, 172, 173, 174, 175, 176, 177, 178, 179, 180, 181, 182, 183, 184, 185, 186, 187, 188, 189, 190, 191, 192, 193, 194, 195, 196, 197, 198, 199, 200, 201, 202, 203, 204, 205, 206, 207, 208, 209, 210, 211, 212, 213, 214, 215, 216, 217, 218, 219, 220, 221, 222, 223, 224, 225, 226, 227, 228] (by decide +kernel) (by decide +kernel)) (goodIn_sub (fun _ h => List.mem_cons_of_mem _ (List.mem_append_right _ h)) (by decide +kernel))
set_option maxRecDepth 20000 in
theorem gL_make_X7_make : GoodIn wsL_make (wsV RL 27 RX7 yX7_make wsX7_make) := goodIn_app (goodIn_of _ (by decide +kernel)) ggL_make_X7_make
theorem dL_make_0 : decode cL_make 0 = .ok (.aload_n 2, 1) := by decide +kernel
theorem dL_make_1 : decode cL_make 1 = .ok (.iconst 0, 1) := by decide +kernel
theorem dL_make_2 : decode cL_make 2 = .ok (.aload_n 0, 1) := by decide +kernel
theorem dL_make_3 : decode cL_make 3 = .ok (.iload_n 1, 1) := by decide +kernel
theorem dL_make_4 : decode cL_make 4 = .ok (.invokevirtual 27, 3) := by decide +kernel
theorem dL_make_7 : decode cL_make 7 = .ok (.i2l, 1) := by decide +kernel
theorem dL_make_8 : decode cL_make 8 = .ok (.lastore, 1) := by decide +kernel
theorem dL_make_9 : decode cL_make 9 = .ok (.goto 6, 3) := by decide +kernel
theorem dL_make_12 : decode cL_make 12 = .ok (.astore_n 3, 1) := by decide +kernel
theorem dL_make_13 : decode cL_make 13 = .ok (.iconst 1, 1) := by decide +kernel
theorem dL_make_14 : decode cL_make 14 = .ok (.ireturn, 1) := by decide +kernel
theorem dL_make_15 : decode cL_make 15 = .ok (.iconst 0, 1) := by decide +kernel
theorem dL_make_16 : decode cL_make 16 = .ok (.ireturn, 1) := by decide +kernel
set_option maxRecDepth 20000 in
theorem ggL_degree_X7_degree : GoodIn wsL_degree wsX7_degree := goodIn_ca (goodIn_ca (goodIn_r _ [7, 8, 9, 10, 6, 11, 12, 13, 14, 15, 16, 17, 18, 19, 20, 21, 22, 23, 24, 25, 26, 27, 28, 29, 30, 31, 32, 33, 34, 35, 36, 37, 38, 39, 40, 41, 42, 43, 44, 45, 46, 47, 48, 49, 50, 51, 52, 53, 54, 55, 56, 57, 58, 59, 60, 61] (by decide +kernel) (by decide +kernel)) (goodIn_sub (fun _ h => List.mem_cons_of_mem _ (List.mem_append_left _ (List.mem_append_right _ h))) (by decide +kernel))) (goodIn_sub (fun _ h => List.mem_cons_of_mem _ (List.mem_append_right _ h)) (by decide +kernel))
set_option maxRecDepth 20000 in
theorem gL_degree_X7_degree : GoodIn wsL_degree (wsV RL 31 RX7 yX7_degree wsX7_degree) := goodIn_app (goodIn_of _ (by decide +kernel)) ggL_degree_X7_degree
theorem dL_degree_0 : decode cL_degree 0 = .ok (.aload 4, 2) := by decide +kernel
theorem dL_degree_2 : decode cL_degree 2 = .ok (.iconst 0, 1) := by decide +kernel
theorem dL_degree_3 : decode cL_degree 3 = .ok (.aload_n 0, 1) := by decide +kernel
theorem dL_degree_4 : decode cL_degree 4 = .ok (.iload_n 1, 1) := by decide +kernel
theorem dL_degree_5 : decode cL_degree 5 = .ok (.iload_n 2, 1) := by decide +kernel
theorem dL_degree_6 : decode cL_degree 6 = .ok (.iload_n 3, 1) := by decide +kernel
theorem dL_degree_7 : decode cL_degree 7 = .ok (.invokevirtual 31, 3) := by decide +kernel
theorem dL_degree_10 : decode cL_degree 10 = .ok (.i2l, 1) := by decide +kernel
theorem dL_degree_11 : decode cL_degree 11 = .ok (.lastore, 1) := by decide +kernel
theorem dL_degree_12 : decode cL_degree 12 = .ok (.goto 15, 3) := by decide +kernel
theorem dL_degree_15 : decode cL_degree 15 = .ok (.astore 5, 2) := by decide +kernel
theorem dL_degree_17 : decode cL_degree 17 = .ok (.iconst 1, 1) := by decide +kernel
theorem dL_degree_18 : decode cL_degree 18 = .ok (.ireturn, 1) := by decide +kernel
theorem dL_degree_19 : decode cL_degree 19 = .ok (.astore 5, 2) := by decide +kernel
theorem dL_degree_21 : decode cL_degree 21 = .ok (.iconst 2, 1) := by decide +kernel
theorem dL_degree_22 : decode cL_degree 22 = .ok (.ireturn, 1) := by decide +kernel
theorem dL_degree_23 : decode cL_degree 23 = .ok (.astore 5, 2) := by decide +kernel
theorem dL_degree_25 : decode cL_degree 25 = .ok (.iconst 3, 1) := by decide +kernel
theorem dL_degree_26 : decode cL_degree 26 = .ok (.ireturn, 1) := by decide +kernel
theorem dL_degree_27 : decode cL_degree 27 = .ok (.iconst 0, 1) := by decide +kernel
theorem dL_degree_28 : decode cL_degree 28 = .ok (.ireturn, 1) := by decide +kernel
set_option maxRecDepth 20000 in
theorem ggL_at_X7_at : GoodIn wsL_at wsX7_at := goodIn_ca (goodIn_ca (goodIn_r _ [7, 8, 9, 10, 6, 11, 12, 13, 14, 15, 16, 17, 18, 19, 20, 21, 22, 23, 24, 25, 26, 27, 28, 29, 30, 31, 32, 33, 34, 35, 36, 37, 38, 39, 40, 41, 42, 43, 44, 45, 46, 47, 48, 49, 50, 51, 52, 53, 54, 55, 56, 57, 58, 59, 60, 61, 62, 63, 64, 65, 66, 67, 68] (by decide +kernel) (by decide +kernel)) (goodIn_sub (fun _ h => List.mem_cons_of_mem _ (List.mem_append_left _ (List.mem_append_right _ h))) (by decide +kernel))) (goodIn_sub (fun _ h => List.mem_cons_of_mem _ (List.mem_append_right _ h)) (by decide +kernel))
set_option maxRecDepth 20000 in
theorem gL_at_X7_at : GoodIn wsL_at (wsV RL 36 RX7 yX7_at wsX7_at) := goodIn_app (goodIn_of _ (by decide +kernel)) ggL_at_X7_at
theorem dL_at_0 : decode cL_at 0 = .ok (.aload 5, 2) := by decide +kernel
theorem dL_at_2 : decode cL_at 2 = .ok (.iconst 0, 1) := by decide +kernel
theorem dL_at_3 : decode cL_at 3 = .ok (.aload_n 0, 1) := by decide +kernel
theorem dL_at_4 : decode cL_at 4 = .ok (.iload_n 1, 1) := by decide +kernel
theorem dL_at_5 : decode cL_at 5 = .ok (.iload_n 2, 1) := by decide +kernel
theorem dL_at_6 : decode cL_at 6 = .ok (.iload_n 3, 1) := by decide +kernel
theorem dL_at_7 : decode cL_at 7 = .ok (.iload 4, 2) := by decide +kernel
theorem dL_at_9 : decode cL_at 9 = .ok (.invokevirtual 36, 3) := by decide +kernel
theorem dL_at_12 : decode cL_at 12 = .ok (.i2l, 1) := by decide +kernel
theorem dL_at_13 : decode cL_at 13 = .ok (.lastore, 1) := by decide +kernel
theorem dL_at_14 : decode cL_at 14 = .ok (.goto 15, 3) := by decide +kernel
theorem dL_at_17 : decode cL_at 17 = .ok (.astore 6, 2) := by decide +kernel
theorem dL_at_19 : decode cL_at 19 = .ok (.iconst 1, 1) := by decide +kernel
theorem dL_at_20 : decode cL_at 20 = .ok (.ireturn, 1) := by decide +kernel
theorem dL_at_21 : decode cL_at 21 = .ok (.astore 6, 2) := by decide +kernel
theorem dL_at_23 : decode cL_at 23 = .ok (.iconst 2, 1) := by decide +kernel
theorem dL_at_24 : decode cL_at 24 = .ok (.ireturn, 1) := by decide +kernel
theorem dL_at_25 : decode cL_at 25 = .ok (.astore 6, 2) := by decide +kernel
theorem dL_at_27 : decode cL_at 27 = .ok (.iconst 3, 1) := by decide +kernel
theorem dL_at_28 : decode cL_at 28 = .ok (.ireturn, 1) := by decide +kernel
theorem dL_at_29 : decode cL_at 29 = .ok (.iconst 0, 1) := by decide +kernel
theorem dL_at_30 : decode cL_at 30 = .ok (.ireturn, 1) := by decide +kernel
set_option maxRecDepth 20000 in
theorem ggL_determinant_X7_determinant : GoodIn wsL_determinant wsX7_determinant := goodIn_ca (goodIn_r _ [6, 7, 8, 9, 10, 11, 5, 12, 13, 14, 15, 16, 17, 18, 19, 20, 21, 22, 23, 24, 25, 26, 27, 28, 29, 30, 31, 32, 33, 34, 35, 36, 37, 38, 39, 40, 41, 42, 43, 44, 45, 46, 47, 48, 49, 50, 51, 52, 53, 54, 55, 56, 57, 58, 59, 60, 61, 62, 63, 64, 65, 66, 67, 68, 69, 70, 71, 72, 73, 74, 75, 76, 77, 78, 79, 80, 81, 82, 83, 84, 85, 86, 87, 88, 89, 90, 91, 92, 93, 94, 95, 96, 97, 98, 99, 100, 101, 102, 103, 104, 105, 106, 107, 108, 109, 110, 111, 112, 113, 114, 115, 116, 117, 118, 119, 120, 121, 122, 123, 124, 125, 126, 127, 128, 129, 130, 131, 132, 133, 134, 135, 136, 137, 138, 139, 140, 141, 142, 143, 144, 145, 146, 147, 148, 149, 150, 151] (by decide +kernel) (by decide +kernel)) (goodIn_sub (fun _ h => List.mem_cons_of_mem _ (List.mem_append_right _ h)) (by decide +kernel))
set_option maxRecDepth 20000 in
theorem gL_determinant_X7_determinant : GoodIn wsL_determinant (wsV RL 40 RX7 yX7_determinant wsX7_determinant) := goodIn_app (goodIn_of _ (by decide +kernel)) ggL_determinant_X7_determinant
theorem dL_determinant_0 : decode cL_determinant 0 = .ok (.aload_n 2, 1) := by decide +kernel
theorem dL_determinant_1 : decode cL_determinant 1 = .ok (.iconst 0, 1) := by decide +kernel
theorem dL_determinant_2 : decode cL_determinant 2 = .ok (.aload_n 0, 1) := by decide +kernel
theorem dL_determinant_3 : decode cL_determinant 3 = .ok (.iload_n 1, 1) := by decide +kernel
theorem dL_determinant_4 : decode cL_determinant 4 = .ok (.invokevirtual 40, 3) := by decide +kernel
theorem dL_determinant_7 : decode cL_determinant 7 = .ok (.i2l, 1) := by decide +kernel
theorem dL_determinant_8 : decode cL_determinant 8 = .ok (.lastore, 1) := by decide +kernel
theorem dL_determinant_9 : decode cL_determinant 9 = .ok (.goto 6, 3) := by decide +kernel
theorem dL_determinant_12 : decode cL_determinant 12 = .ok (.astore_n 3, 1) := by decide +kernel
theorem dL_determinant_13 : decode cL_determinant 13 = .ok (.iconst 1, 1) := by decide +kernel
theorem dL_determinant_14 : decode cL_determinant 14 = .ok (.ireturn, 1) := by decide +kernel
theorem dL_determinant_15 : decode cL_determinant 15 = .ok (.iconst 0, 1) := by decide +kernel
theorem dL_determinant_16 : decode cL_determinant 16 = .ok (.ireturn, 1) := by decide +kernel
set_option maxRecDepth 20000 in
theorem ggL_characteristic_X7_characteristic : GoodIn wsL_characteristic wsX7_characteristic := goodIn_ca (goodIn_r _ [6, 7, 8, 9, 10, 11, 5, 12, 13, 14, 15, 16, 17, 18, 19, 20, 21, 22, 23, 24, 25, 26, 27, 28, 29, 30, 31, 32, 33, 34, 35, 36, 37, 38, 39, 40, 41, 42, 43, 44, 45, 46, 47, 48, 49, 50, 51, 52, 53, 54, 55, 56, 57, 58, 59, 60, 61, 62, 63, 64, 65, 66, 67, 68, 69, 70, 71, 72, 73, 74, 75, 76, 77, 78, 79, 80, 81, 82, 83, 84, 85, 86, 87, 88, 89, 90, 91, 92, 93, 94, 95, 96, 97, 98, 99, 100, 101, 102, 103, 104, 105, 106, 107, 108, 109, 110, 111, 112, 113, 114, 115, 116, 117, 118, 119, 120, 121, 122, 123, 124, 125, 126, 127, 128, 129, 130, 131, 132, 133, 134, 135, 136, 137, 138, 139, 140, 141, 142, 143, 144, 145, 146, 147, 148, 149, 150, 151, 152, 153, 154, 155, 156, 157, 158, 159, 160, 161, 162, 163, 164, 165, 166, 167, 168] (by decide +kernel) (by decide +kernel)) (goodIn_sub (fun _ h => List.mem_cons_of_mem _ (List.mem_append_right _ h)) (by decide +kernel))
set_option maxRecDepth 20000 in
theorem gL_characteristic_X7_characteristic : GoodIn wsL_characteristic (wsV RL 43 RX7 yX7_characteristic wsX7_characteristic) := goodIn_app (goodIn_of _ (by decide +kernel)) ggL_characteristic_X7_characteristic
theorem dL_characteristic_0 : decode cL_characteristic 0 = .ok (.aload_n 2, 1) := by decide +kernel
theorem dL_characteristic_1 : decode cL_characteristic 1 = .ok (.iconst 0, 1) := by decide +kernel
theorem dL_characteristic_2 : decode cL_characteristic 2 = .ok (.aload_n 0, 1) := by decide +kernel
theorem dL_characteristic_3 : decode cL_characteristic 3 = .ok (.iload_n 1, 1) := by decide +kernel
theorem dL_characteristic_4 : decode cL_characteristic 4 = .ok (.invokevirtual 43, 3) := by decide +kernel
theorem dL_characteristic_7 : decode cL_characteristic 7 = .ok (.i2l, 1) := by decide +kernel
theorem dL_characteristic_8 : decode cL_characteristic 8 = .ok (.lastore, 1) := by decide +kernel
theorem dL_characteristic_9 : decode cL_characteristic 9 = .ok (.goto 6, 3) := by decide +kernel
theorem dL_characteristic_12 : decode cL_characteristic 12 = .ok (.astore_n 3, 1) := by decide +kernel
theorem dL_characteristic_13 : decode cL_characteristic 13 = .ok (.iconst 1, 1) := by decide +kernel
theorem dL_characteristic_14 : decode cL_characteristic 14 = .ok (.ireturn, 1) := by decide +kernel
theorem dL_characteristic_15 : decode cL_characteristic 15 = .ok (.iconst 0, 1) := by decide +kernel
theorem dL_characteristic_16 : decode cL_characteristic 16 = .ok (.ireturn, 1) := by decide +kernel
set_option maxRecDepth 20000 in
theorem ggL_minimal_X7_minimal : GoodIn wsL_minimal wsX7_minimal := goodIn_ca (goodIn_r _ [6, 7, 8, 9, 10, 11, 5, 12, 13, 14, 15, 16, 17, 18, 19, 20, 21, 22, 23, 24, 25, 26, 27, 28, 29, 30, 31, 32, 33, 34, 35, 36, 37, 38, 39, 40, 41, 42, 43, 44, 45, 46, 47, 48, 49, 50, 51, 52, 53, 54, 55, 56, 57, 58, 59, 60, 61, 62, 63, 64, 65, 66, 67, 68, 69, 70, 71, 72, 73, 74, 75, 76, 77, 78, 79, 80, 81, 82, 83, 84, 85, 86, 87, 88, 89, 90, 91, 92, 93, 94, 95, 96, 97, 98, 99, 100, 101, 102, 103, 104, 105, 106, 107, 108, 109, 110, 111, 112, 113, 114, 115, 116, 117, 118, 119, 120, 121, 122, 123, 124, 125, 126, 127, 128, 129, 130, 131, 132, 133, 134, 135, 136, 137, 138, 139, 140, 141, 142, 143, 144, 145, 146, 147, 148, 149, 150, 151, 152, 153, 154, 155, 156, 157, 158, 159, 160, 161, 162, 163, 164] (by decide +kernel) (by decide +kernel)) (goodIn_sub (fun _ h => List.mem_cons_of_mem _ (List.mem_append_right _ h)) (by decide +kernel))
set_option maxRecDepth 20000 in
theorem gL_minimal_X7_minimal : GoodIn wsL_minimal (wsV RL 46 RX7 yX7_minimal wsX7_minimal) := goodIn_app (goodIn_of _ (by decide +kernel)) ggL_minimal_X7_minimal
theorem dL_minimal_0 : decode cL_minimal 0 = .ok (.aload_n 2, 1) := by decide +kernel
theorem dL_minimal_1 : decode cL_minimal 1 = .ok (.iconst 0, 1) := by decide +kernel
theorem dL_minimal_2 : decode cL_minimal 2 = .ok (.aload_n 0, 1) := by decide +kernel
theorem dL_minimal_3 : decode cL_minimal 3 = .ok (.iload_n 1, 1) := by decide +kernel
theorem dL_minimal_4 : decode cL_minimal 4 = .ok (.invokevirtual 46, 3) := by decide +kernel
theorem dL_minimal_7 : decode cL_minimal 7 = .ok (.i2l, 1) := by decide +kernel
theorem dL_minimal_8 : decode cL_minimal 8 = .ok (.lastore, 1) := by decide +kernel
theorem dL_minimal_9 : decode cL_minimal 9 = .ok (.goto 6, 3) := by decide +kernel
theorem dL_minimal_12 : decode cL_minimal 12 = .ok (.astore_n 3, 1) := by decide +kernel
theorem dL_minimal_13 : decode cL_minimal 13 = .ok (.iconst 1, 1) := by decide +kernel
theorem dL_minimal_14 : decode cL_minimal 14 = .ok (.ireturn, 1) := by decide +kernel
theorem dL_minimal_15 : decode cL_minimal 15 = .ok (.iconst 0, 1) := by decide +kernel
theorem dL_minimal_16 : decode cL_minimal 16 = .ok (.ireturn, 1) := by decide +kernel
set_option maxRecDepth 20000 in
theorem ggL_root_X7_root : GoodIn wsL_root wsX7_root := goodIn_ca (goodIn_r _ [6, 7, 8, 9, 10, 5, 11, 12, 13, 14, 15, 16, 17, 18, 19, 20, 21, 22, 23, 24, 25, 26, 27, 28, 29, 30, 31, 32, 33, 34, 35, 36, 37, 38, 39, 40, 41, 42, 43, 44, 45, 46, 47, 48, 49, 50, 51, 52, 53, 54, 55, 56, 57, 58, 59, 60, 61, 62, 63, 64, 65, 66, 67, 68, 69, 70, 71, 72, 73, 74, 75, 76, 77, 78, 79, 80, 81, 82, 83, 84, 85, 86, 87, 88, 89, 90, 91, 92, 93, 94, 95, 96, 97, 98, 99, 100, 101, 102, 103, 104, 105, 106, 107, 108, 109, 110, 111, 112, 113, 114, 115, 116, 117, 118, 119, 120, 121, 122, 123, 124, 125, 126, 127, 128, 129, 130, 131, 132, 133, 134, 135, 136, 137, 138, 139, 140, 141, 142, 143, 144, 145, 146, 147, 148, 149, 150, 151, 152, 153, 154, 155, 156, 157, 158, 159, 160, 161, 162, 163, 164, 165, 166, 167, 168, 169, 170, 171, 172, 173, 174, 175, 176, 177, 178, 179, 180, 181, 182, 183, 184, 185, 186, 187, 188, 189, 190, 191, 192, 193, 194, 195, 196, 197, 198, 199, 200, 201, 202, 203, 204, 205, 206, 207, 208, 209, 210, 211, 212, 213, 214, 215, 216, 217, 218, 219, 220, 221] (by decide +kernel) (by decide +kernel)) (goodIn_sub (fun _ h => List.mem_cons_of_mem _ (List.mem_append_right _ h)) (by decide +kernel))
set_option maxRecDepth 20000 in
theorem gL_root_X7_root : GoodIn wsL_root (wsV RL 49 RX7 yX7_root wsX7_root) := goodIn_app (goodIn_of _ (by decide +kernel)) ggL_root_X7_root
theorem dL_root_0 : decode cL_root 0 = .ok (.aload_n 2, 1) := by decide +kernel
theorem dL_root_1 : decode cL_root 1 = .ok (.iconst 0, 1) := by decide +kernel
theorem dL_root_2 : decode cL_root 2 = .ok (.aload_n 0, 1) := by decide +kernel
theorem dL_root_3 : decode cL_root 3 = .ok (.iload_n 1, 1) := by decide +kernel
theorem dL_root_4 : decode cL_root 4 = .ok (.invokevirtual 49, 3) := by decide +kernel
theorem dL_root_7 : decode cL_root 7 = .ok (.i2l, 1) := by decide +kernel
theorem dL_root_8 : decode cL_root 8 = .ok (.lastore, 1) := by decide +kernel
theorem dL_root_9 : decode cL_root 9 = .ok (.goto 6, 3) := by decide +kernel
theorem dL_root_12 : decode cL_root 12 = .ok (.astore_n 3, 1) := by decide +kernel
theorem dL_root_13 : decode cL_root 13 = .ok (.iconst 1, 1) := by decide +kernel
theorem dL_root_14 : decode cL_root 14 = .ok (.ireturn, 1) := by decide +kernel
theorem dL_root_15 : decode cL_root 15 = .ok (.iconst 0, 1) := by decide +kernel
theorem dL_root_16 : decode cL_root 16 = .ok (.ireturn, 1) := by decide +kernel
set_option maxRecDepth 20000 in
theorem ggL_blocks_X7_blocks : GoodIn wsL_blocks wsX7_blocks := goodIn_ca (goodIn_ca (goodIn_r _ [7, 8, 9, 10, 11, 12, 13, 14, 15, 16, 17, 6, 18, 19, 20, 21, 22, 23, 24, 25, 26, 27, 28, 29, 30, 31, 32, 33, 34, 35, 36, 37, 38, 39, 40, 41, 42, 43, 44, 45, 46, 47, 48, 49, 50, 51, 52, 53, 54, 55, 56, 57, 58, 59, 60, 61, 62, 63, 64, 65, 66, 67, 68, 69, 70, 71, 72, 73, 74, 75, 76, 77, 78, 79, 80, 81, 82, 83, 84, 85, 86, 87, 88, 89, 90, 91, 92, 93, 94, 95, 96, 97, 98, 99, 100, 101, 102, 103, 104, 105, 106, 107, 108, 109, 110, 111, 112, 113, 114, 115, 116, 117, 118, 119, 120, 121, 122, 123, 124, 125, 126, 127, 128, 129, 130, 131, 132, 133, 134, 135, 136, 137, 138, 139, 140, 141, 142, 143, 144, 145, 146, 147, 148, 149, 150, 151, 152, 153, 154, 155, 156, 157, 158, 159, 160, 161, 162, 163, 164, 165, 166, 167, 168, 169, 170, 171, 172, 173, 174, 175, 176, 177, 178, 179, 180, 181, 182, 183, 184, 185, 186, 187, 188, 189, 190, 191, 192, 193, 194, 195, 196, 197, 198, 199, 200, 201, 202, 203, 204, 205, 206, 207, 208, 209, 210, 211, 212, 213, 214, 215, 216, 217, 218, 219, 220, 221, 222, 223, 224, 225, 226, 227, 228, 229, 230] (by decide +kernel) (by decide +kernel)) (goodIn_sub (fun _ h => List.mem_cons_of_mem _ (List.mem_append_left _ (List.mem_append_right _ h))) (by decide +kernel))) (goodIn_sub (fun _ h => List.mem_cons_of_mem _ (List.mem_append_right _ h)) (by decide +kernel))
set_option maxRecDepth 20000 in
theorem gL_blocks_X7_blocks : GoodIn wsL_blocks (wsV RL 52 RX7 yX7_blocks wsX7_blocks) := goodIn_app (goodIn_of _ (by decide +kernel)) ggL_blocks_X7_blocks
theorem dL_blocks_0 : decode cL_blocks 0 = .ok (.aload_n 3, 1) := by decide +kernel
theorem dL_blocks_1 : decode cL_blocks 1 = .ok (.iconst 0, 1) := by decide +kernel
theorem dL_blocks_2 : decode cL_blocks 2 = .ok (.aload_n 0, 1) := by decide +kernel
theorem dL_blocks_3 : decode cL_blocks 3 = .ok (.iload_n 1, 1) := by decide +kernel
theorem dL_blocks_4 : decode cL_blocks 4 = .ok (.iload_n 2, 1) := by decide +kernel
theorem dL_blocks_5 : decode cL_blocks 5 = .ok (.invokevirtual 52, 3) := by decide +kernel
theorem dL_blocks_8 : decode cL_blocks 8 = .ok (.i2l, 1) := by decide +kernel
theorem dL_blocks_9 : decode cL_blocks 9 = .ok (.lastore, 1) := by decide +kernel
theorem dL_blocks_10 : decode cL_blocks 10 = .ok (.goto 11, 3) := by decide +kernel
theorem dL_blocks_13 : decode cL_blocks 13 = .ok (.astore 4, 2) := by decide +kernel
theorem dL_blocks_15 : decode cL_blocks 15 = .ok (.iconst 1, 1) := by decide +kernel
theorem dL_blocks_16 : decode cL_blocks 16 = .ok (.ireturn, 1) := by decide +kernel
theorem dL_blocks_17 : decode cL_blocks 17 = .ok (.astore 4, 2) := by decide +kernel
theorem dL_blocks_19 : decode cL_blocks 19 = .ok (.iconst 2, 1) := by decide +kernel
theorem dL_blocks_20 : decode cL_blocks 20 = .ok (.ireturn, 1) := by decide +kernel
theorem dL_blocks_21 : decode cL_blocks 21 = .ok (.iconst 0, 1) := by decide +kernel
theorem dL_blocks_22 : decode cL_blocks 22 = .ok (.ireturn, 1) := by decide +kernel
theorem dL_law_0 : decode cL_law 0 = .ok (.new 8, 3) := by decide +kernel
theorem dL_law_3 : decode cL_law 3 = .ok (.dup, 1) := by decide +kernel
theorem dL_law_4 : decode cL_law 4 = .ok (.invokespecial 56, 3) := by decide +kernel
theorem dL_law_7 : decode cL_law 7 = .ok (.astore_n 1, 1) := by decide +kernel
theorem dL_law_8 : decode cL_law 8 = .ok (.new 57, 3) := by decide +kernel
theorem dL_law_11 : decode cL_law 11 = .ok (.dup, 1) := by decide +kernel
theorem dL_law_12 : decode cL_law 12 = .ok (.invokespecial 59, 3) := by decide +kernel
theorem dL_law_15 : decode cL_law 15 = .ok (.astore_n 2, 1) := by decide +kernel
theorem dL_law_16 : decode cL_law 16 = .ok (.iconst 1, 1) := by decide +kernel
theorem dL_law_17 : decode cL_law 17 = .ok (.newarray .long, 2) := by decide +kernel
theorem dL_law_19 : decode cL_law 19 = .ok (.astore_n 3, 1) := by decide +kernel
theorem dL_law_20 : decode cL_law 20 = .ok (.iconst 0, 1) := by decide +kernel
theorem dL_law_21 : decode cL_law 21 = .ok (.istore 4, 2) := by decide +kernel
theorem dL_law_23 : decode cL_law 23 = .ok (.iload 4, 2) := by decide +kernel
theorem dL_law_25 : decode cL_law 25 = .ok (.aload_n 0, 1) := by decide +kernel
theorem dL_law_26 : decode cL_law 26 = .ok (.arraylength, 1) := by decide +kernel
theorem dL_law_27 : decode cL_law 27 = .ok (.iconst 5, 1) := by decide +kernel
theorem dL_law_28 : decode cL_law 28 = .ok (.isub, 1) := by decide +kernel
theorem dL_law_29 : decode cL_law 29 = .ok (.if_icmp .gt 866, 3) := by decide +kernel
theorem dL_law_32 : decode cL_law 32 = .ok (.aload_n 0, 1) := by decide +kernel
theorem dL_law_33 : decode cL_law 33 = .ok (.iload 4, 2) := by decide +kernel
theorem dL_law_35 : decode cL_law 35 = .ok (.iaload, 1) := by decide +kernel
theorem dL_law_36 : decode cL_law 36 = .ok (.bipush 15, 2) := by decide +kernel
theorem dL_law_38 : decode cL_law 38 = .ok (.iand, 1) := by decide +kernel
theorem dL_law_39 : decode cL_law 39 = .ok (.tableswitch 850 0 12 #[65, 113, 212, 292, 348, 428, 520, 533, 589, 645, 701, 757, 825], 65) := by decide +kernel
theorem dL_law_104 : decode cL_law 104 = .ok (.aload_n 1, 1) := by decide +kernel
theorem dL_law_105 : decode cL_law 105 = .ok (.aload_n 0, 1) := by decide +kernel
theorem dL_law_106 : decode cL_law 106 = .ok (.iload 4, 2) := by decide +kernel
theorem dL_law_108 : decode cL_law 108 = .ok (.iconst 1, 1) := by decide +kernel
theorem dL_law_109 : decode cL_law 109 = .ok (.iadd, 1) := by decide +kernel
theorem dL_law_110 : decode cL_law 110 = .ok (.iaload, 1) := by decide +kernel
theorem dL_law_111 : decode cL_law 111 = .ok (.aload_n 0, 1) := by decide +kernel
theorem dL_law_112 : decode cL_law 112 = .ok (.iload 4, 2) := by decide +kernel
theorem dL_law_114 : decode cL_law 114 = .ok (.iconst 2, 1) := by decide +kernel
theorem dL_law_115 : decode cL_law 115 = .ok (.iadd, 1) := by decide +kernel
theorem dL_law_116 : decode cL_law 116 = .ok (.iaload, 1) := by decide +kernel
theorem dL_law_117 : decode cL_law 117 = .ok (.invokestatic 60, 3) := by decide +kernel
theorem dL_law_120 : decode cL_law 120 = .ok (.istore 5, 2) := by decide +kernel
theorem dL_law_122 : decode cL_law 122 = .ok (.aload_n 2, 1) := by decide +kernel
theorem dL_law_123 : decode cL_law 123 = .ok (.aload_n 0, 1) := by decide +kernel
theorem dL_law_124 : decode cL_law 124 = .ok (.iload 4, 2) := by decide +kernel
theorem dL_law_126 : decode cL_law 126 = .ok (.iconst 1, 1) := by decide +kernel
theorem dL_law_127 : decode cL_law 127 = .ok (.iadd, 1) := by decide +kernel
theorem dL_law_128 : decode cL_law 128 = .ok (.iaload, 1) := by decide +kernel
theorem dL_law_129 : decode cL_law 129 = .ok (.aload_n 0, 1) := by decide +kernel
theorem dL_law_130 : decode cL_law 130 = .ok (.iload 4, 2) := by decide +kernel
theorem dL_law_132 : decode cL_law 132 = .ok (.iconst 2, 1) := by decide +kernel
theorem dL_law_133 : decode cL_law 133 = .ok (.iadd, 1) := by decide +kernel
theorem dL_law_134 : decode cL_law 134 = .ok (.iaload, 1) := by decide +kernel
theorem dL_law_135 : decode cL_law 135 = .ok (.invokevirtual 65, 3) := by decide +kernel
theorem dL_law_138 : decode cL_law 138 = .ok (.aload_n 2, 1) := by decide +kernel
theorem dL_law_139 : decode cL_law 139 = .ok (.invokevirtual 66, 3) := by decide +kernel
theorem dL_law_142 : decode cL_law 142 = .ok (.iload 5, 2) := by decide +kernel
theorem dL_law_144 : decode cL_law 144 = .ok (.if_icmp .eq 5, 3) := by decide +kernel
theorem dL_law_147 : decode cL_law 147 = .ok (.iconst 0, 1) := by decide +kernel
theorem dL_law_148 : decode cL_law 148 = .ok (.ireturn, 1) := by decide +kernel
theorem dL_law_149 : decode cL_law 149 = .ok (.goto 740, 3) := by decide +kernel
theorem dL_law_152 : decode cL_law 152 = .ok (.aload_n 1, 1) := by decide +kernel
theorem dL_law_153 : decode cL_law 153 = .ok (.aload_n 0, 1) := by decide +kernel
theorem dL_law_154 : decode cL_law 154 = .ok (.iload 4, 2) := by decide +kernel
theorem dL_law_156 : decode cL_law 156 = .ok (.iconst 1, 1) := by decide +kernel
theorem dL_law_157 : decode cL_law 157 = .ok (.iadd, 1) := by decide +kernel
theorem dL_law_158 : decode cL_law 158 = .ok (.iaload, 1) := by decide +kernel
theorem dL_law_159 : decode cL_law 159 = .ok (.aload_n 0, 1) := by decide +kernel
theorem dL_law_160 : decode cL_law 160 = .ok (.iload 4, 2) := by decide +kernel
theorem dL_law_162 : decode cL_law 162 = .ok (.iconst 2, 1) := by decide +kernel
theorem dL_law_163 : decode cL_law 163 = .ok (.iadd, 1) := by decide +kernel
theorem dL_law_164 : decode cL_law 164 = .ok (.iaload, 1) := by decide +kernel
theorem dL_law_165 : decode cL_law 165 = .ok (.aload_n 0, 1) := by decide +kernel
theorem dL_law_166 : decode cL_law 166 = .ok (.iload 4, 2) := by decide +kernel
theorem dL_law_168 : decode cL_law 168 = .ok (.iconst 3, 1) := by decide +kernel
theorem dL_law_169 : decode cL_law 169 = .ok (.iadd, 1) := by decide +kernel
theorem dL_law_170 : decode cL_law 170 = .ok (.iaload, 1) := by decide +kernel
theorem dL_law_171 : decode cL_law 171 = .ok (.aload_n 0, 1) := by decide +kernel
theorem dL_law_172 : decode cL_law 172 = .ok (.iload 4, 2) := by decide +kernel
theorem dL_law_174 : decode cL_law 174 = .ok (.iconst 4, 1) := by decide +kernel
theorem dL_law_175 : decode cL_law 175 = .ok (.iadd, 1) := by decide +kernel
theorem dL_law_176 : decode cL_law 176 = .ok (.iaload, 1) := by decide +kernel
theorem dL_law_177 : decode cL_law 177 = .ok (.aload_n 3, 1) := by decide +kernel
theorem dL_law_178 : decode cL_law 178 = .ok (.invokestatic 70, 3) := by decide +kernel
theorem dL_law_181 : decode cL_law 181 = .ok (.istore 5, 2) := by decide +kernel
theorem dL_law_183 : decode cL_law 183 = .ok (.aload_n 2, 1) := by decide +kernel
theorem dL_law_184 : decode cL_law 184 = .ok (.aload_n 0, 1) := by decide +kernel
theorem dL_law_185 : decode cL_law 185 = .ok (.iload 4, 2) := by decide +kernel
theorem dL_law_187 : decode cL_law 187 = .ok (.iconst 1, 1) := by decide +kernel
theorem dL_law_188 : decode cL_law 188 = .ok (.iadd, 1) := by decide +kernel
theorem dL_law_189 : decode cL_law 189 = .ok (.iaload, 1) := by decide +kernel
theorem dL_law_190 : decode cL_law 190 = .ok (.aload_n 0, 1) := by decide +kernel
theorem dL_law_191 : decode cL_law 191 = .ok (.iload 4, 2) := by decide +kernel
theorem dL_law_193 : decode cL_law 193 = .ok (.iconst 2, 1) := by decide +kernel
theorem dL_law_194 : decode cL_law 194 = .ok (.iadd, 1) := by decide +kernel
theorem dL_law_195 : decode cL_law 195 = .ok (.iaload, 1) := by decide +kernel
theorem dL_law_196 : decode cL_law 196 = .ok (.aload_n 0, 1) := by decide +kernel
theorem dL_law_197 : decode cL_law 197 = .ok (.iload 4, 2) := by decide +kernel
theorem dL_law_199 : decode cL_law 199 = .ok (.iconst 3, 1) := by decide +kernel
theorem dL_law_200 : decode cL_law 200 = .ok (.iadd, 1) := by decide +kernel
theorem dL_law_201 : decode cL_law 201 = .ok (.iaload, 1) := by decide +kernel
theorem dL_law_202 : decode cL_law 202 = .ok (.aload_n 0, 1) := by decide +kernel
theorem dL_law_203 : decode cL_law 203 = .ok (.iload 4, 2) := by decide +kernel
theorem dL_law_205 : decode cL_law 205 = .ok (.iconst 4, 1) := by decide +kernel
theorem dL_law_206 : decode cL_law 206 = .ok (.iadd, 1) := by decide +kernel
theorem dL_law_207 : decode cL_law 207 = .ok (.iaload, 1) := by decide +kernel
theorem dL_law_208 : decode cL_law 208 = .ok (.invokevirtual 73, 3) := by decide +kernel
theorem dL_law_211 : decode cL_law 211 = .ok (.istore 6, 2) := by decide +kernel
theorem dL_law_213 : decode cL_law 213 = .ok (.aload_n 2, 1) := by decide +kernel
theorem dL_law_214 : decode cL_law 214 = .ok (.invokevirtual 66, 3) := by decide +kernel
theorem dL_law_217 : decode cL_law 217 = .ok (.iload 5, 2) := by decide +kernel
theorem dL_law_219 : decode cL_law 219 = .ok (.if_icmp .eq 5, 3) := by decide +kernel
theorem dL_law_222 : decode cL_law 222 = .ok (.iconst 0, 1) := by decide +kernel
theorem dL_law_223 : decode cL_law 223 = .ok (.ireturn, 1) := by decide +kernel
theorem dL_law_224 : decode cL_law 224 = .ok (.iload 5, 2) := by decide +kernel
theorem dL_law_226 : decode cL_law 226 = .ok (.ifCond .ne 22, 3) := by decide +kernel
theorem dL_law_229 : decode cL_law 229 = .ok (.aload_n 3, 1) := by decide +kernel
theorem dL_law_230 : decode cL_law 230 = .ok (.iconst 0, 1) := by decide +kernel
theorem dL_law_231 : decode cL_law 231 = .ok (.laload, 1) := by decide +kernel
theorem dL_law_232 : decode cL_law 232 = .ok (.iload 6, 2) := by decide +kernel
theorem dL_law_234 : decode cL_law 234 = .ok (.ifCond .eq 7, 3) := by decide +kernel
theorem dL_law_237 : decode cL_law 237 = .ok (.lconst 1, 1) := by decide +kernel
theorem dL_law_238 : decode cL_law 238 = .ok (.goto 4, 3) := by decide +kernel
theorem dL_law_241 : decode cL_law 241 = .ok (.lconst 0, 1) := by decide +kernel
theorem dL_law_242 : decode cL_law 242 = .ok (.lcmp, 1) := by decide +kernel
theorem dL_law_243 : decode cL_law 243 = .ok (.ifCond .eq 5, 3) := by decide +kernel
theorem dL_law_246 : decode cL_law 246 = .ok (.iconst 0, 1) := by decide +kernel
theorem dL_law_247 : decode cL_law 247 = .ok (.ireturn, 1) := by decide +kernel
theorem dL_law_248 : decode cL_law 248 = .ok (.goto 641, 3) := by decide +kernel
theorem dL_law_251 : decode cL_law 251 = .ok (.aload_n 1, 1) := by decide +kernel
theorem dL_law_252 : decode cL_law 252 = .ok (.aload_n 0, 1) := by decide +kernel
theorem dL_law_253 : decode cL_law 253 = .ok (.iload 4, 2) := by decide +kernel
theorem dL_law_255 : decode cL_law 255 = .ok (.iconst 1, 1) := by decide +kernel
theorem dL_law_256 : decode cL_law 256 = .ok (.iadd, 1) := by decide +kernel
theorem dL_law_257 : decode cL_law 257 = .ok (.iaload, 1) := by decide +kernel
theorem dL_law_258 : decode cL_law 258 = .ok (.aload_n 0, 1) := by decide +kernel
theorem dL_law_259 : decode cL_law 259 = .ok (.iload 4, 2) := by decide +kernel
theorem dL_law_261 : decode cL_law 261 = .ok (.iconst 2, 1) := by decide +kernel
theorem dL_law_262 : decode cL_law 262 = .ok (.iadd, 1) := by decide +kernel
theorem dL_law_263 : decode cL_law 263 = .ok (.iaload, 1) := by decide +kernel
theorem dL_law_264 : decode cL_law 264 = .ok (.aload_n 0, 1) := by decide +kernel
theorem dL_law_265 : decode cL_law 265 = .ok (.iload 4, 2) := by decide +kernel
theorem dL_law_267 : decode cL_law 267 = .ok (.iconst 3, 1) := by decide +kernel
theorem dL_law_268 : decode cL_law 268 = .ok (.iadd, 1) := by decide +kernel
theorem dL_law_269 : decode cL_law 269 = .ok (.iaload, 1) := by decide +kernel
theorem dL_law_270 : decode cL_law 270 = .ok (.aload_n 3, 1) := by decide +kernel
theorem dL_law_271 : decode cL_law 271 = .ok (.invokestatic 74, 3) := by decide +kernel
theorem dL_law_274 : decode cL_law 274 = .ok (.istore 5, 2) := by decide +kernel
theorem dL_law_276 : decode cL_law 276 = .ok (.aload_n 2, 1) := by decide +kernel
theorem dL_law_277 : decode cL_law 277 = .ok (.aload_n 0, 1) := by decide +kernel
theorem dL_law_278 : decode cL_law 278 = .ok (.iload 4, 2) := by decide +kernel
theorem dL_law_280 : decode cL_law 280 = .ok (.iconst 1, 1) := by decide +kernel
theorem dL_law_281 : decode cL_law 281 = .ok (.iadd, 1) := by decide +kernel
theorem dL_law_282 : decode cL_law 282 = .ok (.iaload, 1) := by decide +kernel
theorem dL_law_283 : decode cL_law 283 = .ok (.aload_n 0, 1) := by decide +kernel
theorem dL_law_284 : decode cL_law 284 = .ok (.iload 4, 2) := by decide +kernel
theorem dL_law_286 : decode cL_law 286 = .ok (.iconst 2, 1) := by decide +kernel
theorem dL_law_287 : decode cL_law 287 = .ok (.iadd, 1) := by decide +kernel
theorem dL_law_288 : decode cL_law 288 = .ok (.iaload, 1) := by decide +kernel
theorem dL_law_289 : decode cL_law 289 = .ok (.aload_n 0, 1) := by decide +kernel
theorem dL_law_290 : decode cL_law 290 = .ok (.iload 4, 2) := by decide +kernel
theorem dL_law_292 : decode cL_law 292 = .ok (.iconst 3, 1) := by decide +kernel
theorem dL_law_293 : decode cL_law 293 = .ok (.iadd, 1) := by decide +kernel
theorem dL_law_294 : decode cL_law 294 = .ok (.iaload, 1) := by decide +kernel
theorem dL_law_295 : decode cL_law 295 = .ok (.invokevirtual 77, 3) := by decide +kernel
theorem dL_law_298 : decode cL_law 298 = .ok (.istore 6, 2) := by decide +kernel
theorem dL_law_300 : decode cL_law 300 = .ok (.aload_n 2, 1) := by decide +kernel
theorem dL_law_301 : decode cL_law 301 = .ok (.invokevirtual 66, 3) := by decide +kernel
theorem dL_law_304 : decode cL_law 304 = .ok (.iload 5, 2) := by decide +kernel
theorem dL_law_306 : decode cL_law 306 = .ok (.if_icmp .eq 5, 3) := by decide +kernel
theorem dL_law_309 : decode cL_law 309 = .ok (.iconst 0, 1) := by decide +kernel
theorem dL_law_310 : decode cL_law 310 = .ok (.ireturn, 1) := by decide +kernel
theorem dL_law_311 : decode cL_law 311 = .ok (.iload 5, 2) := by decide +kernel
theorem dL_law_313 : decode cL_law 313 = .ok (.ifCond .ne 15, 3) := by decide +kernel
theorem dL_law_316 : decode cL_law 316 = .ok (.aload_n 3, 1) := by decide +kernel
theorem dL_law_317 : decode cL_law 317 = .ok (.iconst 0, 1) := by decide +kernel
theorem dL_law_318 : decode cL_law 318 = .ok (.laload, 1) := by decide +kernel
theorem dL_law_319 : decode cL_law 319 = .ok (.iload 6, 2) := by decide +kernel
theorem dL_law_321 : decode cL_law 321 = .ok (.i2l, 1) := by decide +kernel
theorem dL_law_322 : decode cL_law 322 = .ok (.lcmp, 1) := by decide +kernel
theorem dL_law_323 : decode cL_law 323 = .ok (.ifCond .eq 5, 3) := by decide +kernel
theorem dL_law_326 : decode cL_law 326 = .ok (.iconst 0, 1) := by decide +kernel
theorem dL_law_327 : decode cL_law 327 = .ok (.ireturn, 1) := by decide +kernel
theorem dL_law_328 : decode cL_law 328 = .ok (.goto 561, 3) := by decide +kernel
theorem dL_law_331 : decode cL_law 331 = .ok (.aload_n 1, 1) := by decide +kernel
theorem dL_law_332 : decode cL_law 332 = .ok (.aload_n 0, 1) := by decide +kernel
theorem dL_law_333 : decode cL_law 333 = .ok (.iload 4, 2) := by decide +kernel
theorem dL_law_335 : decode cL_law 335 = .ok (.iconst 1, 1) := by decide +kernel
theorem dL_law_336 : decode cL_law 336 = .ok (.iadd, 1) := by decide +kernel
