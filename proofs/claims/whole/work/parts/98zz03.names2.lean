theorem dX3_init_122 : decode cX3_init 122 = .ok (.goto (-23), 3) := by decide +kernel
theorem dX3_init_125 : decode cX3_init 125 = .ok (.aload_n 0, 1) := by decide +kernel
theorem dX3_init_126 : decode cX3_init 126 = .ok (.iconst 4, 1) := by decide +kernel
theorem dX3_init_127 : decode cX3_init 127 = .ok (.anewarray 9, 3) := by decide +kernel
theorem dX3_init_130 : decode cX3_init 130 = .ok (.putfield 29, 3) := by decide +kernel
theorem dX3_init_133 : decode cX3_init 133 = .ok (.iconst 0, 1) := by decide +kernel
theorem dX3_init_134 : decode cX3_init 134 = .ok (.istore_n 2, 1) := by decide +kernel
theorem dX3_init_135 : decode cX3_init 135 = .ok (.iload_n 2, 1) := by decide +kernel
theorem dX3_init_136 : decode cX3_init 136 = .ok (.iconst 4, 1) := by decide +kernel
theorem dX3_init_137 : decode cX3_init 137 = .ok (.if_icmp .ge 24, 3) := by decide +kernel
theorem dX3_init_140 : decode cX3_init 140 = .ok (.aload_n 0, 1) := by decide +kernel
theorem dX3_init_141 : decode cX3_init 141 = .ok (.getfield 29, 3) := by decide +kernel
theorem dX3_init_144 : decode cX3_init 144 = .ok (.iload_n 2, 1) := by decide +kernel
theorem dX3_init_145 : decode cX3_init 145 = .ok (.new 9, 3) := by decide +kernel
theorem dX3_init_148 : decode cX3_init 148 = .ok (.dup, 1) := by decide +kernel
theorem dX3_init_149 : decode cX3_init 149 = .ok (.bipush 13, 2) := by decide +kernel
theorem dX3_init_151 : decode cX3_init 151 = .ok (.invokespecial 17, 3) := by decide +kernel
theorem dX3_init_154 : decode cX3_init 154 = .ok (.aastore, 1) := by decide +kernel
theorem dX3_init_155 : decode cX3_init 155 = .ok (.iinc 2 1, 3) := by decide +kernel
theorem dX3_init_158 : decode cX3_init 158 = .ok (.goto (-23), 3) := by decide +kernel
theorem dX3_init_161 : decode cX3_init 161 = .ok (.aload_n 0, 1) := by decide +kernel
theorem dX3_init_162 : decode cX3_init 162 = .ok (.new 32, 3) := by decide +kernel
theorem dX3_init_165 : decode cX3_init 165 = .ok (.dup, 1) := by decide +kernel
theorem dX3_init_166 : decode cX3_init 166 = .ok (.invokespecial 34, 3) := by decide +kernel
theorem dX3_init_169 : decode cX3_init 169 = .ok (.putfield 35, 3) := by decide +kernel
theorem dX3_init_172 : decode cX3_init 172 = .ok (.aload_n 0, 1) := by decide +kernel
theorem dX3_init_173 : decode cX3_init 173 = .ok (.iconst 0, 1) := by decide +kernel
theorem dX3_init_174 : decode cX3_init 174 = .ok (.putfield 39, 3) := by decide +kernel
theorem dX3_init_177 : decode cX3_init 177 = .ok (.return_, 1) := by decide +kernel
theorem dX3_of_0 : decode cX3_of 0 = .ok (.aload_n 0, 1) := by decide +kernel
theorem dX3_of_1 : decode cX3_of 1 = .ok (.getfield 11, 3) := by decide +kernel
theorem dX3_of_4 : decode cX3_of 4 = .ok (.iload_n 1, 1) := by decide +kernel
theorem dX3_of_5 : decode cX3_of 5 = .ok (.bipush 15, 2) := by decide +kernel
theorem dX3_of_7 : decode cX3_of 7 = .ok (.iand, 1) := by decide +kernel
theorem dX3_of_8 : decode cX3_of 8 = .ok (.iconst 4, 1) := by decide +kernel
theorem dX3_of_9 : decode cX3_of 9 = .ok (.ishl, 1) := by decide +kernel
theorem dX3_of_10 : decode cX3_of 10 = .ok (.iload_n 2, 1) := by decide +kernel
theorem dX3_of_11 : decode cX3_of 11 = .ok (.bipush 15, 2) := by decide +kernel
theorem dX3_of_13 : decode cX3_of 13 = .ok (.iand, 1) := by decide +kernel
theorem dX3_of_14 : decode cX3_of 14 = .ok (.ior, 1) := by decide +kernel
theorem dX3_of_15 : decode cX3_of 15 = .ok (.aaload, 1) := by decide +kernel
theorem dX3_of_16 : decode cX3_of 16 = .ok (.areturn, 1) := by decide +kernel
set_option maxRecDepth 20000 in
theorem ggX3_leading_X3_of : GoodIn wsX3_leading wsX3_of := goodIn_r _ [5, 6, 7, 8, 9, 10, 11] (by decide +kernel) (by decide +kernel)
set_option maxRecDepth 20000 in
theorem gX3_leading_X3_of : GoodIn wsX3_leading (wsV RX3 43 RX3 yX3_of wsX3_of) := goodIn_app (goodIn_of _ (by decide +kernel)) ggX3_leading_X3_of
theorem dX3_leading_0 : decode cX3_leading 0 = .ok (.iconst 1, 1) := by decide +kernel
theorem dX3_leading_1 : decode cX3_leading 1 = .ok (.iload_n 1, 1) := by decide +kernel
theorem dX3_leading_2 : decode cX3_leading 2 = .ok (.ishl, 1) := by decide +kernel
theorem dX3_leading_3 : decode cX3_leading 3 = .ok (.iconst 1, 1) := by decide +kernel
theorem dX3_leading_4 : decode cX3_leading 4 = .ok (.isub, 1) := by decide +kernel
theorem dX3_leading_5 : decode cX3_leading 5 = .ok (.istore_n 2, 1) := by decide +kernel
theorem dX3_leading_6 : decode cX3_leading 6 = .ok (.aload_n 0, 1) := by decide +kernel
theorem dX3_leading_7 : decode cX3_leading 7 = .ok (.iload_n 2, 1) := by decide +kernel
theorem dX3_leading_8 : decode cX3_leading 8 = .ok (.iload_n 2, 1) := by decide +kernel
theorem dX3_leading_9 : decode cX3_leading 9 = .ok (.invokevirtual 43, 3) := by decide +kernel
theorem dX3_leading_12 : decode cX3_leading 12 = .ok (.areturn, 1) := by decide +kernel
set_option maxRecDepth 20000 in
theorem ggX3_reckon_X3_of : GoodIn wsX3_reckon wsX3_of := goodIn_r _ [7, 8, 93, 94, 95, 96, 97] (by decide +kernel) (by decide +kernel)
set_option maxRecDepth 20000 in
theorem gX3_reckon_X3_of : GoodIn wsX3_reckon (wsV RX3 43 RX3 yX3_of wsX3_of) := goodIn_app (goodIn_of _ (by decide +kernel)) ggX3_reckon_X3_of
set_option maxRecDepth 20000 in
theorem ggX3_reckon_X4_setNumber : GoodIn wsX3_reckon wsX4_setNumber := goodIn_r _ [13, 14, 15, 16, 17, 18, 19, 20, 21, 22, 12, 23, 98, 99] (by decide +kernel) (by decide +kernel)
set_option maxRecDepth 20000 in
theorem gX3_reckon_X4_setNumber : GoodIn wsX3_reckon (wsV RX3 47 RX4 yX4_setNumber wsX4_setNumber) := goodIn_app (goodIn_of _ (by decide +kernel)) ggX3_reckon_X4_setNumber
set_option maxRecDepth 20000 in
theorem ggX3_reckon_X4_clear : GoodIn wsX3_reckon wsX4_clear := goodIn_r _ [27, 15, 14, 98, 99] (by decide +kernel) (by decide +kernel)
set_option maxRecDepth 20000 in
theorem gX3_reckon_X4_clear : GoodIn wsX3_reckon (wsV RX3 51 RX4 yX4_clear wsX4_clear) := goodIn_app (goodIn_of _ (by decide +kernel)) ggX3_reckon_X4_clear
set_option maxRecDepth 20000 in
theorem ggX3_reckon_J6_bitCount_0f7a4 : GoodIn wsX3_reckon wsJ6_bitCount_0f7a4 := goodIn_r _ [31, 32, 33, 34] (by decide +kernel) (by decide +kernel)
set_option maxRecDepth 20000 in
theorem gX3_reckon_J6_bitCount_0f7a4 : GoodIn wsX3_reckon (va_wsS RX3 20 yJ6_bitCount_0f7a4 wsJ6_bitCount_0f7a4) := goodIn_app (goodIn_of _ (by decide +kernel)) ggX3_reckon_J6_bitCount_0f7a4
set_option maxRecDepth 20000 in
theorem ggX3_reckon_X3_expand : GoodIn wsX3_reckon wsX3_expand := goodIn_r _ [38, 3, 4, 5, 6, 7, 8, 24, 25, 26, 12, 27, 15, 14, 39, 40, 41, 42, 43, 44, 45, 46, 47, 48, 49, 50, 51, 52, 53, 18, 54, 16, 17, 19, 20, 21, 22, 23, 93, 94, 95, 96, 97, 98, 99, 100, 101] (by decide +kernel) (by decide +kernel)
set_option maxRecDepth 20000 in
theorem gX3_reckon_X3_expand : GoodIn wsX3_reckon (wsV RX3 54 RX3 yX3_expand wsX3_expand) := goodIn_app (goodIn_of _ (by decide +kernel)) ggX3_reckon_X3_expand
set_option maxRecDepth 20000 in
theorem ggX3_reckon_X0_shrinkToCommon : GoodIn wsX3_reckon wsX0_shrinkToCommon := goodIn_r _ [59, 60, 61, 62, 63, 64, 65, 12, 66, 15, 14, 52, 53, 18, 54, 67, 25, 26, 27, 20, 21, 22, 23, 68, 69, 70, 71, 72, 73, 74, 75, 76, 77, 78, 79, 80, 81, 82, 102, 103, 104, 98, 99] (by decide +kernel) (by decide +kernel)
set_option maxRecDepth 20000 in
theorem gX3_reckon_X0_shrinkToCommon : GoodIn wsX3_reckon (wsV RX3 58 RX0 yX0_shrinkToCommon wsX0_shrinkToCommon) := goodIn_app (goodIn_of _ (by decide +kernel)) ggX3_reckon_X0_shrinkToCommon
set_option maxRecDepth 20000 in
theorem ggX3_reckon_X3_findInvariants : GoodIn wsX3_reckon wsX3_findInvariants := goodIn_r _ [86, 87, 88, 1, 2, 24, 25, 26, 12, 27, 15, 14, 89, 90, 91, 58, 92, 60, 62, 63, 64, 65, 66, 52, 53, 18, 54, 67, 20, 21, 22, 23, 68, 69, 70, 71, 72, 73, 74, 93, 94, 95, 96, 97, 98, 99, 102, 103, 104] (by decide +kernel) (by decide +kernel)
set_option maxRecDepth 20000 in
theorem gX3_reckon_X3_findInvariants : GoodIn wsX3_reckon (wsV RX3 62 RX3 yX3_findInvariants wsX3_findInvariants) := goodIn_app (goodIn_of _ (by decide +kernel)) ggX3_reckon_X3_findInvariants
theorem dX3_reckon_0 : decode cX3_reckon 0 = .ok (.aload_n 0, 1) := by decide +kernel
theorem dX3_reckon_1 : decode cX3_reckon 1 = .ok (.iconst 0, 1) := by decide +kernel
theorem dX3_reckon_2 : decode cX3_reckon 2 = .ok (.iconst 0, 1) := by decide +kernel
theorem dX3_reckon_3 : decode cX3_reckon 3 = .ok (.invokevirtual 43, 3) := by decide +kernel
theorem dX3_reckon_6 : decode cX3_reckon 6 = .ok (.iconst 0, 1) := by decide +kernel
theorem dX3_reckon_7 : decode cX3_reckon 7 = .ok (.iconst 1, 1) := by decide +kernel
theorem dX3_reckon_8 : decode cX3_reckon 8 = .ok (.invokevirtual 47, 3) := by decide +kernel
theorem dX3_reckon_11 : decode cX3_reckon 11 = .ok (.iconst 0, 1) := by decide +kernel
theorem dX3_reckon_12 : decode cX3_reckon 12 = .ok (.istore_n 2, 1) := by decide +kernel
theorem dX3_reckon_13 : decode cX3_reckon 13 = .ok (.iload_n 2, 1) := by decide +kernel
theorem dX3_reckon_14 : decode cX3_reckon 14 = .ok (.iconst 4, 1) := by decide +kernel
theorem dX3_reckon_15 : decode cX3_reckon 15 = .ok (.if_icmp .gt 18, 3) := by decide +kernel
theorem dX3_reckon_18 : decode cX3_reckon 18 = .ok (.aload_n 0, 1) := by decide +kernel
theorem dX3_reckon_19 : decode cX3_reckon 19 = .ok (.getfield 26, 3) := by decide +kernel
theorem dX3_reckon_22 : decode cX3_reckon 22 = .ok (.iload_n 2, 1) := by decide +kernel
theorem dX3_reckon_23 : decode cX3_reckon 23 = .ok (.aaload, 1) := by decide +kernel
theorem dX3_reckon_24 : decode cX3_reckon 24 = .ok (.invokevirtual 51, 3) := by decide +kernel
theorem dX3_reckon_27 : decode cX3_reckon 27 = .ok (.iinc 2 1, 3) := by decide +kernel
theorem dX3_reckon_30 : decode cX3_reckon 30 = .ok (.goto (-17), 3) := by decide +kernel
theorem dX3_reckon_33 : decode cX3_reckon 33 = .ok (.aload_n 0, 1) := by decide +kernel
theorem dX3_reckon_34 : decode cX3_reckon 34 = .ok (.getfield 26, 3) := by decide +kernel
theorem dX3_reckon_37 : decode cX3_reckon 37 = .ok (.iconst 0, 1) := by decide +kernel
theorem dX3_reckon_38 : decode cX3_reckon 38 = .ok (.aaload, 1) := by decide +kernel
theorem dX3_reckon_39 : decode cX3_reckon 39 = .ok (.iconst 0, 1) := by decide +kernel
theorem dX3_reckon_40 : decode cX3_reckon 40 = .ok (.iconst 1, 1) := by decide +kernel
theorem dX3_reckon_41 : decode cX3_reckon 41 = .ok (.invokevirtual 47, 3) := by decide +kernel
theorem dX3_reckon_44 : decode cX3_reckon 44 = .ok (.iconst 1, 1) := by decide +kernel
theorem dX3_reckon_45 : decode cX3_reckon 45 = .ok (.istore_n 2, 1) := by decide +kernel
theorem dX3_reckon_46 : decode cX3_reckon 46 = .ok (.iload_n 2, 1) := by decide +kernel
theorem dX3_reckon_47 : decode cX3_reckon 47 = .ok (.bipush 15, 2) := by decide +kernel
theorem dX3_reckon_49 : decode cX3_reckon 49 = .ok (.if_icmp .gt 67, 3) := by decide +kernel
theorem dX3_reckon_52 : decode cX3_reckon 52 = .ok (.iload_n 2, 1) := by decide +kernel
theorem dX3_reckon_53 : decode cX3_reckon 53 = .ok (.invokestatic 20, 3) := by decide +kernel
theorem dX3_reckon_56 : decode cX3_reckon 56 = .ok (.istore_n 3, 1) := by decide +kernel
theorem dX3_reckon_57 : decode cX3_reckon 57 = .ok (.iconst 1, 1) := by decide +kernel
theorem dX3_reckon_58 : decode cX3_reckon 58 = .ok (.istore 4, 2) := by decide +kernel
theorem dX3_reckon_60 : decode cX3_reckon 60 = .ok (.iload 4, 2) := by decide +kernel
theorem dX3_reckon_62 : decode cX3_reckon 62 = .ok (.bipush 15, 2) := by decide +kernel
theorem dX3_reckon_64 : decode cX3_reckon 64 = .ok (.if_icmp .gt 46, 3) := by decide +kernel
theorem dX3_reckon_67 : decode cX3_reckon 67 = .ok (.iload 4, 2) := by decide +kernel
theorem dX3_reckon_69 : decode cX3_reckon 69 = .ok (.invokestatic 20, 3) := by decide +kernel
theorem dX3_reckon_72 : decode cX3_reckon 72 = .ok (.iload_n 3, 1) := by decide +kernel
theorem dX3_reckon_73 : decode cX3_reckon 73 = .ok (.if_icmp .ne 31, 3) := by decide +kernel
theorem dX3_reckon_76 : decode cX3_reckon 76 = .ok (.aload_n 0, 1) := by decide +kernel
theorem dX3_reckon_77 : decode cX3_reckon 77 = .ok (.aload_n 1, 1) := by decide +kernel
theorem dX3_reckon_78 : decode cX3_reckon 78 = .ok (.iload_n 2, 1) := by decide +kernel
theorem dX3_reckon_79 : decode cX3_reckon 79 = .ok (.iload 4, 2) := by decide +kernel
theorem dX3_reckon_81 : decode cX3_reckon 81 = .ok (.invokevirtual 54, 3) := by decide +kernel
theorem dX3_reckon_84 : decode cX3_reckon 84 = .ok (.aload_n 0, 1) := by decide +kernel
theorem dX3_reckon_85 : decode cX3_reckon 85 = .ok (.getfield 35, 3) := by decide +kernel
theorem dX3_reckon_88 : decode cX3_reckon 88 = .ok (.aload_n 0, 1) := by decide +kernel
theorem dX3_reckon_89 : decode cX3_reckon 89 = .ok (.getfield 26, 3) := by decide +kernel
theorem dX3_reckon_92 : decode cX3_reckon 92 = .ok (.iload_n 3, 1) := by decide +kernel
theorem dX3_reckon_93 : decode cX3_reckon 93 = .ok (.aaload, 1) := by decide +kernel
theorem dX3_reckon_94 : decode cX3_reckon 94 = .ok (.aload_n 0, 1) := by decide +kernel
theorem dX3_reckon_95 : decode cX3_reckon 95 = .ok (.iload_n 2, 1) := by decide +kernel
theorem dX3_reckon_96 : decode cX3_reckon 96 = .ok (.iload 4, 2) := by decide +kernel
theorem dX3_reckon_98 : decode cX3_reckon 98 = .ok (.invokevirtual 43, 3) := by decide +kernel
theorem dX3_reckon_101 : decode cX3_reckon 101 = .ok (.invokevirtual 58, 3) := by decide +kernel
theorem dX3_reckon_104 : decode cX3_reckon 104 = .ok (.iinc 4 1, 3) := by decide +kernel
theorem dX3_reckon_107 : decode cX3_reckon 107 = .ok (.goto (-47), 3) := by decide +kernel
theorem dX3_reckon_110 : decode cX3_reckon 110 = .ok (.iinc 2 1, 3) := by decide +kernel
theorem dX3_reckon_113 : decode cX3_reckon 113 = .ok (.goto (-67), 3) := by decide +kernel
theorem dX3_reckon_116 : decode cX3_reckon 116 = .ok (.aload_n 0, 1) := by decide +kernel
theorem dX3_reckon_117 : decode cX3_reckon 117 = .ok (.invokevirtual 62, 3) := by decide +kernel
theorem dX3_reckon_120 : decode cX3_reckon 120 = .ok (.return_, 1) := by decide +kernel
set_option maxRecDepth 20000 in
theorem ggX3_expand_X3_of : GoodIn wsX3_expand wsX3_of := goodIn_r _ [5, 6, 38, 39, 40, 41, 42] (by decide +kernel) (by decide +kernel)
set_option maxRecDepth 20000 in
theorem gX3_expand_X3_of : GoodIn wsX3_expand (wsV RX3 43 RX3 yX3_of wsX3_of) := goodIn_app (goodIn_of _ (by decide +kernel)) ggX3_expand_X3_of
set_option maxRecDepth 20000 in
theorem ggX3_expand_X4_clear : GoodIn wsX3_expand wsX4_clear := goodIn_r _ [11, 12, 13, 43, 44] (by decide +kernel) (by decide +kernel)
set_option maxRecDepth 20000 in
theorem gX3_expand_X4_clear : GoodIn wsX3_expand (wsV RX3 51 RX4 yX4_clear wsX4_clear) := goodIn_app (goodIn_of _ (by decide +kernel)) ggX3_expand_X4_clear
set_option maxRecDepth 20000 in
theorem ggX3_expand_X3_lowestIn : GoodIn wsX3_expand wsX3_lowestIn := goodIn_r _ [16] (by decide +kernel) (by decide +kernel)
set_option maxRecDepth 20000 in
theorem gX3_expand_X3_lowestIn : GoodIn wsX3_expand (va_wsS RX3 65 yX3_lowestIn wsX3_lowestIn) := goodIn_app (goodIn_of _ (by decide +kernel)) ggX3_expand_X3_lowestIn
set_option maxRecDepth 20000 in
theorem ggX3_expand_X2_cell : GoodIn wsX3_expand wsX2_cell := goodIn_r _ [21, 22, 45, 46] (by decide +kernel) (by decide +kernel)
set_option maxRecDepth 20000 in
theorem gX3_expand_X2_cell : GoodIn wsX3_expand (wsV RX3 68 RX2 yX2_cell wsX2_cell) := goodIn_app (goodIn_of _ (by decide +kernel)) ggX3_expand_X2_cell
set_option maxRecDepth 20000 in
theorem ggX3_expand_X4_addProduct : GoodIn wsX3_expand wsX4_addProduct := goodIn_r _ [26, 12, 13, 27, 28, 29, 30, 31, 32, 33, 34, 35, 36, 10, 37, 43, 44] (by decide +kernel) (by decide +kernel)
set_option maxRecDepth 20000 in
theorem gX3_expand_X4_addProduct : GoodIn wsX3_expand (wsV RX3 73 RX4 yX4_addProduct wsX4_addProduct) := goodIn_app (goodIn_of _ (by decide +kernel)) ggX3_expand_X4_addProduct
theorem dX3_expand_0 : decode cX3_expand 0 = .ok (.aload_n 0, 1) := by decide +kernel
theorem dX3_expand_1 : decode cX3_expand 1 = .ok (.iload_n 2, 1) := by decide +kernel
theorem dX3_expand_2 : decode cX3_expand 2 = .ok (.iload_n 3, 1) := by decide +kernel
theorem dX3_expand_3 : decode cX3_expand 3 = .ok (.invokevirtual 43, 3) := by decide +kernel
theorem dX3_expand_6 : decode cX3_expand 6 = .ok (.astore 4, 2) := by decide +kernel
theorem dX3_expand_8 : decode cX3_expand 8 = .ok (.aload 4, 2) := by decide +kernel
theorem dX3_expand_10 : decode cX3_expand 10 = .ok (.invokevirtual 51, 3) := by decide +kernel
theorem dX3_expand_13 : decode cX3_expand 13 = .ok (.iload_n 2, 1) := by decide +kernel
theorem dX3_expand_14 : decode cX3_expand 14 = .ok (.invokestatic 65, 3) := by decide +kernel
theorem dX3_expand_17 : decode cX3_expand 17 = .ok (.istore 5, 2) := by decide +kernel
theorem dX3_expand_19 : decode cX3_expand 19 = .ok (.iconst 1, 1) := by decide +kernel
theorem dX3_expand_20 : decode cX3_expand 20 = .ok (.istore 6, 2) := by decide +kernel
theorem dX3_expand_22 : decode cX3_expand 22 = .ok (.iconst 0, 1) := by decide +kernel
theorem dX3_expand_23 : decode cX3_expand 23 = .ok (.istore 7, 2) := by decide +kernel
theorem dX3_expand_25 : decode cX3_expand 25 = .ok (.iload 7, 2) := by decide +kernel
theorem dX3_expand_27 : decode cX3_expand 27 = .ok (.iconst 4, 1) := by decide +kernel
theorem dX3_expand_28 : decode cX3_expand 28 = .ok (.if_icmp .ge 66, 3) := by decide +kernel
theorem dX3_expand_31 : decode cX3_expand 31 = .ok (.iload_n 3, 1) := by decide +kernel
theorem dX3_expand_32 : decode cX3_expand 32 = .ok (.iload 7, 2) := by decide +kernel
theorem dX3_expand_34 : decode cX3_expand 34 = .ok (.ishr, 1) := by decide +kernel
theorem dX3_expand_35 : decode cX3_expand 35 = .ok (.iconst 1, 1) := by decide +kernel
theorem dX3_expand_36 : decode cX3_expand 36 = .ok (.iand, 1) := by decide +kernel
theorem dX3_expand_37 : decode cX3_expand 37 = .ok (.iconst 1, 1) := by decide +kernel
theorem dX3_expand_38 : decode cX3_expand 38 = .ok (.if_icmp .ne 50, 3) := by decide +kernel
theorem dX3_expand_41 : decode cX3_expand 41 = .ok (.aload_n 0, 1) := by decide +kernel
theorem dX3_expand_42 : decode cX3_expand 42 = .ok (.iload_n 2, 1) := by decide +kernel
theorem dX3_expand_43 : decode cX3_expand 43 = .ok (.iconst 1, 1) := by decide +kernel
theorem dX3_expand_44 : decode cX3_expand 44 = .ok (.iload 5, 2) := by decide +kernel
theorem dX3_expand_46 : decode cX3_expand 46 = .ok (.ishl, 1) := by decide +kernel
theorem dX3_expand_47 : decode cX3_expand 47 = .ok (.iconst (-1), 1) := by decide +kernel
theorem dX3_expand_48 : decode cX3_expand 48 = .ok (.ixor, 1) := by decide +kernel
theorem dX3_expand_49 : decode cX3_expand 49 = .ok (.iand, 1) := by decide +kernel
theorem dX3_expand_50 : decode cX3_expand 50 = .ok (.iload_n 3, 1) := by decide +kernel
theorem dX3_expand_51 : decode cX3_expand 51 = .ok (.iconst 1, 1) := by decide +kernel
theorem dX3_expand_52 : decode cX3_expand 52 = .ok (.iload 7, 2) := by decide +kernel
theorem dX3_expand_54 : decode cX3_expand 54 = .ok (.ishl, 1) := by decide +kernel
theorem dX3_expand_55 : decode cX3_expand 55 = .ok (.iconst (-1), 1) := by decide +kernel
theorem dX3_expand_56 : decode cX3_expand 56 = .ok (.ixor, 1) := by decide +kernel
theorem dX3_expand_57 : decode cX3_expand 57 = .ok (.iand, 1) := by decide +kernel
theorem dX3_expand_58 : decode cX3_expand 58 = .ok (.invokevirtual 43, 3) := by decide +kernel
theorem dX3_expand_61 : decode cX3_expand 61 = .ok (.astore 8, 2) := by decide +kernel
theorem dX3_expand_63 : decode cX3_expand 63 = .ok (.aload 4, 2) := by decide +kernel
theorem dX3_expand_65 : decode cX3_expand 65 = .ok (.iload 6, 2) := by decide +kernel
theorem dX3_expand_67 : decode cX3_expand 67 = .ok (.aload_n 1, 1) := by decide +kernel
theorem dX3_expand_68 : decode cX3_expand 68 = .ok (.iload 5, 2) := by decide +kernel
theorem dX3_expand_70 : decode cX3_expand 70 = .ok (.iload 7, 2) := by decide +kernel
theorem dX3_expand_72 : decode cX3_expand 72 = .ok (.invokevirtual 68, 3) := by decide +kernel
theorem dX3_expand_75 : decode cX3_expand 75 = .ok (.aload 8, 2) := by decide +kernel
theorem dX3_expand_77 : decode cX3_expand 77 = .ok (.invokevirtual 73, 3) := by decide +kernel
theorem dX3_expand_80 : decode cX3_expand 80 = .ok (.sipush 32003, 3) := by decide +kernel
theorem dX3_expand_83 : decode cX3_expand 83 = .ok (.iload 6, 2) := by decide +kernel
theorem dX3_expand_85 : decode cX3_expand 85 = .ok (.isub, 1) := by decide +kernel
theorem dX3_expand_86 : decode cX3_expand 86 = .ok (.istore 6, 2) := by decide +kernel
theorem dX3_expand_88 : decode cX3_expand 88 = .ok (.iinc 7 1, 3) := by decide +kernel
theorem dX3_expand_91 : decode cX3_expand 91 = .ok (.goto (-66), 3) := by decide +kernel
theorem dX3_expand_94 : decode cX3_expand 94 = .ok (.return_, 1) := by decide +kernel
theorem dX3_lowestIn_0 : decode cX3_lowestIn 0 = .ok (.iconst 0, 1) := by decide +kernel
theorem dX3_lowestIn_1 : decode cX3_lowestIn 1 = .ok (.istore_n 1, 1) := by decide +kernel
theorem dX3_lowestIn_2 : decode cX3_lowestIn 2 = .ok (.iload_n 1, 1) := by decide +kernel
theorem dX3_lowestIn_3 : decode cX3_lowestIn 3 = .ok (.iconst 3, 1) := by decide +kernel
theorem dX3_lowestIn_4 : decode cX3_lowestIn 4 = .ok (.if_icmp .ge 17, 3) := by decide +kernel
theorem dX3_lowestIn_7 : decode cX3_lowestIn 7 = .ok (.iload_n 0, 1) := by decide +kernel
theorem dX3_lowestIn_8 : decode cX3_lowestIn 8 = .ok (.iload_n 1, 1) := by decide +kernel
theorem dX3_lowestIn_9 : decode cX3_lowestIn 9 = .ok (.ishr, 1) := by decide +kernel
theorem dX3_lowestIn_10 : decode cX3_lowestIn 10 = .ok (.iconst 1, 1) := by decide +kernel
theorem dX3_lowestIn_11 : decode cX3_lowestIn 11 = .ok (.iand, 1) := by decide +kernel
theorem dX3_lowestIn_12 : decode cX3_lowestIn 12 = .ok (.ifCond .ne 9, 3) := by decide +kernel
theorem dX3_lowestIn_15 : decode cX3_lowestIn 15 = .ok (.iinc 1 1, 3) := by decide +kernel
theorem dX3_lowestIn_18 : decode cX3_lowestIn 18 = .ok (.goto (-16), 3) := by decide +kernel
theorem dX3_lowestIn_21 : decode cX3_lowestIn 21 = .ok (.iload_n 1, 1) := by decide +kernel
theorem dX3_lowestIn_22 : decode cX3_lowestIn 22 = .ok (.ireturn, 1) := by decide +kernel
set_option maxRecDepth 20000 in
theorem ggX3_findInvariants_X4_clear : GoodIn wsX3_findInvariants wsX4_clear := goodIn_r _ [9, 10, 11, 44, 45] (by decide +kernel) (by decide +kernel)
set_option maxRecDepth 20000 in
theorem gX3_findInvariants_X4_clear : GoodIn wsX3_findInvariants (wsV RX3 51 RX4 yX4_clear wsX4_clear) := goodIn_app (goodIn_of _ (by decide +kernel)) ggX3_findInvariants_X4_clear
set_option maxRecDepth 20000 in
theorem ggX3_findInvariants_X0_writeQuotient : GoodIn wsX3_findInvariants wsX0_writeQuotient := goodIn_r _ [16, 17, 18, 19, 20, 21, 8, 22, 10, 11, 23, 24, 25, 26, 27, 6, 7, 9, 28, 29, 30, 31, 32, 33, 34, 35, 36, 37, 38, 46, 47, 48, 44, 45] (by decide +kernel) (by decide +kernel)
set_option maxRecDepth 20000 in
theorem gX3_findInvariants_X0_writeQuotient : GoodIn wsX3_findInvariants (wsV RX3 80 RX0 yX0_writeQuotient wsX0_writeQuotient) := goodIn_app (goodIn_of _ (by decide +kernel)) ggX3_findInvariants_X0_writeQuotient
theorem dX3_findInvariants_0 : decode cX3_findInvariants 0 = .ok (.aload_n 0, 1) := by decide +kernel
theorem dX3_findInvariants_1 : decode cX3_findInvariants 1 = .ok (.iconst 0, 1) := by decide +kernel
theorem dX3_findInvariants_2 : decode cX3_findInvariants 2 = .ok (.putfield 39, 3) := by decide +kernel
theorem dX3_findInvariants_5 : decode cX3_findInvariants 5 = .ok (.iconst 0, 1) := by decide +kernel
theorem dX3_findInvariants_6 : decode cX3_findInvariants 6 = .ok (.istore_n 1, 1) := by decide +kernel
theorem dX3_findInvariants_7 : decode cX3_findInvariants 7 = .ok (.iload_n 1, 1) := by decide +kernel
theorem dX3_findInvariants_8 : decode cX3_findInvariants 8 = .ok (.iconst 4, 1) := by decide +kernel
theorem dX3_findInvariants_9 : decode cX3_findInvariants 9 = .ok (.if_icmp .ge 66, 3) := by decide +kernel
theorem dX3_findInvariants_12 : decode cX3_findInvariants 12 = .ok (.aload_n 0, 1) := by decide +kernel
theorem dX3_findInvariants_13 : decode cX3_findInvariants 13 = .ok (.getfield 29, 3) := by decide +kernel
theorem dX3_findInvariants_16 : decode cX3_findInvariants 16 = .ok (.iload_n 1, 1) := by decide +kernel
theorem dX3_findInvariants_17 : decode cX3_findInvariants 17 = .ok (.aaload, 1) := by decide +kernel
theorem dX3_findInvariants_18 : decode cX3_findInvariants 18 = .ok (.invokevirtual 51, 3) := by decide +kernel
theorem dX3_findInvariants_21 : decode cX3_findInvariants 21 = .ok (.aload_n 0, 1) := by decide +kernel
theorem dX3_findInvariants_22 : decode cX3_findInvariants 22 = .ok (.getfield 26, 3) := by decide +kernel
theorem dX3_findInvariants_25 : decode cX3_findInvariants 25 = .ok (.iload_n 1, 1) := by decide +kernel
theorem dX3_findInvariants_26 : decode cX3_findInvariants 26 = .ok (.iconst 1, 1) := by decide +kernel
theorem dX3_findInvariants_27 : decode cX3_findInvariants 27 = .ok (.iadd, 1) := by decide +kernel
theorem dX3_findInvariants_28 : decode cX3_findInvariants 28 = .ok (.aaload, 1) := by decide +kernel
theorem dX3_findInvariants_29 : decode cX3_findInvariants 29 = .ok (.getfield 77, 3) := by decide +kernel
theorem dX3_findInvariants_32 : decode cX3_findInvariants 32 = .ok (.ifCond .lt 37, 3) := by decide +kernel
theorem dX3_findInvariants_35 : decode cX3_findInvariants 35 = .ok (.aload_n 0, 1) := by decide +kernel
theorem dX3_findInvariants_36 : decode cX3_findInvariants 36 = .ok (.getfield 35, 3) := by decide +kernel
theorem dX3_findInvariants_39 : decode cX3_findInvariants 39 = .ok (.aload_n 0, 1) := by decide +kernel
theorem dX3_findInvariants_40 : decode cX3_findInvariants 40 = .ok (.getfield 29, 3) := by decide +kernel
theorem dX3_findInvariants_43 : decode cX3_findInvariants 43 = .ok (.iload_n 1, 1) := by decide +kernel
theorem dX3_findInvariants_44 : decode cX3_findInvariants 44 = .ok (.aaload, 1) := by decide +kernel
theorem dX3_findInvariants_45 : decode cX3_findInvariants 45 = .ok (.aload_n 0, 1) := by decide +kernel
theorem dX3_findInvariants_46 : decode cX3_findInvariants 46 = .ok (.getfield 26, 3) := by decide +kernel
theorem dX3_findInvariants_49 : decode cX3_findInvariants 49 = .ok (.iload_n 1, 1) := by decide +kernel
theorem dX3_findInvariants_50 : decode cX3_findInvariants 50 = .ok (.iconst 1, 1) := by decide +kernel
theorem dX3_findInvariants_51 : decode cX3_findInvariants 51 = .ok (.iadd, 1) := by decide +kernel
theorem dX3_findInvariants_52 : decode cX3_findInvariants 52 = .ok (.aaload, 1) := by decide +kernel
theorem dX3_findInvariants_53 : decode cX3_findInvariants 53 = .ok (.aload_n 0, 1) := by decide +kernel
theorem dX3_findInvariants_54 : decode cX3_findInvariants 54 = .ok (.getfield 26, 3) := by decide +kernel
theorem dX3_findInvariants_57 : decode cX3_findInvariants 57 = .ok (.iload_n 1, 1) := by decide +kernel
theorem dX3_findInvariants_58 : decode cX3_findInvariants 58 = .ok (.aaload, 1) := by decide +kernel
theorem dX3_findInvariants_59 : decode cX3_findInvariants 59 = .ok (.invokevirtual 80, 3) := by decide +kernel
theorem dX3_findInvariants_62 : decode cX3_findInvariants 62 = .ok (.aload_n 0, 1) := by decide +kernel
theorem dX3_findInvariants_63 : decode cX3_findInvariants 63 = .ok (.iload_n 1, 1) := by decide +kernel
theorem dX3_findInvariants_64 : decode cX3_findInvariants 64 = .ok (.iconst 1, 1) := by decide +kernel
theorem dX3_findInvariants_65 : decode cX3_findInvariants 65 = .ok (.iadd, 1) := by decide +kernel
theorem dX3_findInvariants_66 : decode cX3_findInvariants 66 = .ok (.putfield 39, 3) := by decide +kernel
theorem dX3_findInvariants_69 : decode cX3_findInvariants 69 = .ok (.iinc 1 1, 3) := by decide +kernel
theorem dX3_findInvariants_72 : decode cX3_findInvariants 72 = .ok (.goto (-65), 3) := by decide +kernel
theorem dX3_findInvariants_75 : decode cX3_findInvariants 75 = .ok (.return_, 1) := by decide +kernel
theorem dX4_init_0 : decode cX4_init 0 = .ok (.aload_n 0, 1) := by decide +kernel
theorem dX4_init_1 : decode cX4_init 1 = .ok (.invokespecial 3, 3) := by decide +kernel
theorem dX4_init_4 : decode cX4_init 4 = .ok (.aload_n 0, 1) := by decide +kernel
theorem dX4_init_5 : decode cX4_init 5 = .ok (.iload_n 1, 1) := by decide +kernel
theorem dX4_init_6 : decode cX4_init 6 = .ok (.newarray .int, 2) := by decide +kernel
theorem dX4_init_8 : decode cX4_init 8 = .ok (.putfield 9, 3) := by decide +kernel
theorem dX4_init_11 : decode cX4_init 11 = .ok (.aload_n 0, 1) := by decide +kernel
theorem dX4_init_12 : decode cX4_init 12 = .ok (.iconst (-1), 1) := by decide +kernel
theorem dX4_init_13 : decode cX4_init 13 = .ok (.putfield 15, 3) := by decide +kernel
theorem dX4_init_16 : decode cX4_init 16 = .ok (.return_, 1) := by decide +kernel
theorem dX4_numberAt_0 : decode cX4_numberAt 0 = .ok (.iload_n 1, 1) := by decide +kernel
theorem dX4_numberAt_1 : decode cX4_numberAt 1 = .ok (.ifCond .lt 11, 3) := by decide +kernel
theorem dX4_numberAt_4 : decode cX4_numberAt 4 = .ok (.iload_n 1, 1) := by decide +kernel
theorem dX4_numberAt_5 : decode cX4_numberAt 5 = .ok (.aload_n 0, 1) := by decide +kernel
theorem dX4_numberAt_6 : decode cX4_numberAt 6 = .ok (.getfield 15, 3) := by decide +kernel
theorem dX4_numberAt_9 : decode cX4_numberAt 9 = .ok (.if_icmp .le 7, 3) := by decide +kernel
theorem dX4_numberAt_12 : decode cX4_numberAt 12 = .ok (.iconst 0, 1) := by decide +kernel
theorem dX4_numberAt_13 : decode cX4_numberAt 13 = .ok (.goto 9, 3) := by decide +kernel
theorem dX4_numberAt_16 : decode cX4_numberAt 16 = .ok (.aload_n 0, 1) := by decide +kernel
theorem dX4_numberAt_17 : decode cX4_numberAt 17 = .ok (.getfield 9, 3) := by decide +kernel
theorem dX4_numberAt_20 : decode cX4_numberAt 20 = .ok (.iload_n 1, 1) := by decide +kernel
theorem dX4_numberAt_21 : decode cX4_numberAt 21 = .ok (.iaload, 1) := by decide +kernel
theorem dX4_numberAt_22 : decode cX4_numberAt 22 = .ok (.ireturn, 1) := by decide +kernel
theorem dX4_clear_0 : decode cX4_clear 0 = .ok (.iconst 0, 1) := by decide +kernel
theorem dX4_clear_1 : decode cX4_clear 1 = .ok (.istore_n 1, 1) := by decide +kernel
theorem dX4_clear_2 : decode cX4_clear 2 = .ok (.iload_n 1, 1) := by decide +kernel
theorem dX4_clear_3 : decode cX4_clear 3 = .ok (.aload_n 0, 1) := by decide +kernel
theorem dX4_clear_4 : decode cX4_clear 4 = .ok (.getfield 15, 3) := by decide +kernel
theorem dX4_clear_7 : decode cX4_clear 7 = .ok (.if_icmp .gt 16, 3) := by decide +kernel
theorem dX4_clear_10 : decode cX4_clear 10 = .ok (.aload_n 0, 1) := by decide +kernel
theorem dX4_clear_11 : decode cX4_clear 11 = .ok (.getfield 9, 3) := by decide +kernel
theorem dX4_clear_14 : decode cX4_clear 14 = .ok (.iload_n 1, 1) := by decide +kernel
theorem dX4_clear_15 : decode cX4_clear 15 = .ok (.iconst 0, 1) := by decide +kernel
theorem dX4_clear_16 : decode cX4_clear 16 = .ok (.iastore, 1) := by decide +kernel
theorem dX4_clear_17 : decode cX4_clear 17 = .ok (.iinc 1 1, 3) := by decide +kernel
theorem dX4_clear_20 : decode cX4_clear 20 = .ok (.goto (-18), 3) := by decide +kernel
theorem dX4_clear_23 : decode cX4_clear 23 = .ok (.aload_n 0, 1) := by decide +kernel
theorem dX4_clear_24 : decode cX4_clear 24 = .ok (.iconst (-1), 1) := by decide +kernel
theorem dX4_clear_25 : decode cX4_clear 25 = .ok (.putfield 15, 3) := by decide +kernel
theorem dX4_clear_28 : decode cX4_clear 28 = .ok (.return_, 1) := by decide +kernel
set_option maxRecDepth 20000 in
theorem ggX4_setNumber_X4_findDegree : GoodIn wsX4_setNumber wsX4_findDegree := goodIn_r _ [11, 2, 1, 12, 13] (by decide +kernel) (by decide +kernel)
set_option maxRecDepth 20000 in
theorem gX4_setNumber_X4_findDegree : GoodIn wsX4_setNumber (wsV RX4 25 RX4 yX4_findDegree wsX4_findDegree) := goodIn_app (goodIn_of _ (by decide +kernel)) ggX4_setNumber_X4_findDegree
theorem dX4_setNumber_0 : decode cX4_setNumber 0 = .ok (.iload_n 1, 1) := by decide +kernel
theorem dX4_setNumber_1 : decode cX4_setNumber 1 = .ok (.ifCond .lt 12, 3) := by decide +kernel
theorem dX4_setNumber_4 : decode cX4_setNumber 4 = .ok (.iload_n 1, 1) := by decide +kernel
theorem dX4_setNumber_5 : decode cX4_setNumber 5 = .ok (.aload_n 0, 1) := by decide +kernel
theorem dX4_setNumber_6 : decode cX4_setNumber 6 = .ok (.getfield 9, 3) := by decide +kernel
theorem dX4_setNumber_9 : decode cX4_setNumber 9 = .ok (.arraylength, 1) := by decide +kernel
theorem dX4_setNumber_10 : decode cX4_setNumber 10 = .ok (.if_icmp .lt 4, 3) := by decide +kernel
theorem dX4_setNumber_13 : decode cX4_setNumber 13 = .ok (.return_, 1) := by decide +kernel
theorem dX4_setNumber_14 : decode cX4_setNumber 14 = .ok (.aload_n 0, 1) := by decide +kernel
theorem dX4_setNumber_15 : decode cX4_setNumber 15 = .ok (.getfield 9, 3) := by decide +kernel
theorem dX4_setNumber_18 : decode cX4_setNumber 18 = .ok (.iload_n 1, 1) := by decide +kernel
theorem dX4_setNumber_19 : decode cX4_setNumber 19 = .ok (.iload_n 2, 1) := by decide +kernel
theorem dX4_setNumber_20 : decode cX4_setNumber 20 = .ok (.iastore, 1) := by decide +kernel
theorem dX4_setNumber_21 : decode cX4_setNumber 21 = .ok (.aload_n 0, 1) := by decide +kernel
theorem dX4_setNumber_22 : decode cX4_setNumber 22 = .ok (.aload_n 0, 1) := by decide +kernel
theorem dX4_setNumber_23 : decode cX4_setNumber 23 = .ok (.getfield 15, 3) := by decide +kernel
theorem dX4_setNumber_26 : decode cX4_setNumber 26 = .ok (.iload_n 1, 1) := by decide +kernel
theorem dX4_setNumber_27 : decode cX4_setNumber 27 = .ok (.invokestatic 19, 3) := by decide +kernel
theorem dX4_setNumber_30 : decode cX4_setNumber 30 = .ok (.invokevirtual 25, 3) := by decide +kernel
theorem dX4_setNumber_33 : decode cX4_setNumber 33 = .ok (.return_, 1) := by decide +kernel
set_option maxRecDepth 20000 in
theorem ggX4_copyFrom_X4_clear : GoodIn wsX4_copyFrom wsX4_clear := goodIn_r _ [11, 1, 2, 16, 17] (by decide +kernel) (by decide +kernel)
set_option maxRecDepth 20000 in
theorem gX4_copyFrom_X4_clear : GoodIn wsX4_copyFrom (wsV RX4 29 RX4 yX4_clear wsX4_clear) := goodIn_app (goodIn_of _ (by decide +kernel)) ggX4_copyFrom_X4_clear
set_option maxRecDepth 20000 in
theorem ggX4_copyFrom_X4_findDegree : GoodIn wsX4_copyFrom wsX4_findDegree := goodIn_r _ [15, 1, 2, 16, 17] (by decide +kernel) (by decide +kernel)
set_option maxRecDepth 20000 in
theorem gX4_copyFrom_X4_findDegree : GoodIn wsX4_copyFrom (wsV RX4 25 RX4 yX4_findDegree wsX4_findDegree) := goodIn_app (goodIn_of _ (by decide +kernel)) ggX4_copyFrom_X4_findDegree
theorem dX4_copyFrom_0 : decode cX4_copyFrom 0 = .ok (.aload_n 0, 1) := by decide +kernel
theorem dX4_copyFrom_1 : decode cX4_copyFrom 1 = .ok (.invokevirtual 29, 3) := by decide +kernel
theorem dX4_copyFrom_4 : decode cX4_copyFrom 4 = .ok (.aload_n 1, 1) := by decide +kernel
theorem dX4_copyFrom_5 : decode cX4_copyFrom 5 = .ok (.getfield 15, 3) := by decide +kernel
theorem dX4_copyFrom_8 : decode cX4_copyFrom 8 = .ok (.aload_n 0, 1) := by decide +kernel
theorem dX4_copyFrom_9 : decode cX4_copyFrom 9 = .ok (.getfield 9, 3) := by decide +kernel
theorem dX4_copyFrom_12 : decode cX4_copyFrom 12 = .ok (.arraylength, 1) := by decide +kernel
theorem dX4_copyFrom_13 : decode cX4_copyFrom 13 = .ok (.iconst 1, 1) := by decide +kernel
theorem dX4_copyFrom_14 : decode cX4_copyFrom 14 = .ok (.isub, 1) := by decide +kernel
theorem dX4_copyFrom_15 : decode cX4_copyFrom 15 = .ok (.invokestatic 32, 3) := by decide +kernel
theorem dX4_copyFrom_18 : decode cX4_copyFrom 18 = .ok (.istore_n 2, 1) := by decide +kernel
theorem dX4_copyFrom_19 : decode cX4_copyFrom 19 = .ok (.iconst 0, 1) := by decide +kernel
theorem dX4_copyFrom_20 : decode cX4_copyFrom 20 = .ok (.istore_n 3, 1) := by decide +kernel
theorem dX4_copyFrom_21 : decode cX4_copyFrom 21 = .ok (.iload_n 3, 1) := by decide +kernel
theorem dX4_copyFrom_22 : decode cX4_copyFrom 22 = .ok (.iload_n 2, 1) := by decide +kernel
theorem dX4_copyFrom_23 : decode cX4_copyFrom 23 = .ok (.if_icmp .gt 21, 3) := by decide +kernel
theorem dX4_copyFrom_26 : decode cX4_copyFrom 26 = .ok (.aload_n 0, 1) := by decide +kernel
theorem dX4_copyFrom_27 : decode cX4_copyFrom 27 = .ok (.getfield 9, 3) := by decide +kernel
theorem dX4_copyFrom_30 : decode cX4_copyFrom 30 = .ok (.iload_n 3, 1) := by decide +kernel
theorem dX4_copyFrom_31 : decode cX4_copyFrom 31 = .ok (.aload_n 1, 1) := by decide +kernel
theorem dX4_copyFrom_32 : decode cX4_copyFrom 32 = .ok (.getfield 9, 3) := by decide +kernel
theorem dX4_copyFrom_35 : decode cX4_copyFrom 35 = .ok (.iload_n 3, 1) := by decide +kernel
theorem dX4_copyFrom_36 : decode cX4_copyFrom 36 = .ok (.iaload, 1) := by decide +kernel
theorem dX4_copyFrom_37 : decode cX4_copyFrom 37 = .ok (.iastore, 1) := by decide +kernel
theorem dX4_copyFrom_38 : decode cX4_copyFrom 38 = .ok (.iinc 3 1, 3) := by decide +kernel
theorem dX4_copyFrom_41 : decode cX4_copyFrom 41 = .ok (.goto (-20), 3) := by decide +kernel
theorem dX4_copyFrom_44 : decode cX4_copyFrom 44 = .ok (.aload_n 0, 1) := by decide +kernel
theorem dX4_copyFrom_45 : decode cX4_copyFrom 45 = .ok (.iload_n 2, 1) := by decide +kernel
theorem dX4_copyFrom_46 : decode cX4_copyFrom 46 = .ok (.invokevirtual 25, 3) := by decide +kernel
theorem dX4_copyFrom_49 : decode cX4_copyFrom 49 = .ok (.return_, 1) := by decide +kernel
theorem dX4_multiply_0 : decode cX4_multiply 0 = .ok (.iconst 0, 1) := by decide +kernel
theorem dX4_multiply_1 : decode cX4_multiply 1 = .ok (.istore_n 2, 1) := by decide +kernel
theorem dX4_multiply_2 : decode cX4_multiply 2 = .ok (.iload_n 2, 1) := by decide +kernel
theorem dX4_multiply_3 : decode cX4_multiply 3 = .ok (.aload_n 0, 1) := by decide +kernel
theorem dX4_multiply_4 : decode cX4_multiply 4 = .ok (.getfield 15, 3) := by decide +kernel
theorem dX4_multiply_7 : decode cX4_multiply 7 = .ok (.if_icmp .gt 27, 3) := by decide +kernel
theorem dX4_multiply_10 : decode cX4_multiply 10 = .ok (.aload_n 0, 1) := by decide +kernel
theorem dX4_multiply_11 : decode cX4_multiply 11 = .ok (.getfield 9, 3) := by decide +kernel
theorem dX4_multiply_14 : decode cX4_multiply 14 = .ok (.iload_n 2, 1) := by decide +kernel
theorem dX4_multiply_15 : decode cX4_multiply 15 = .ok (.aload_n 0, 1) := by decide +kernel
theorem dX4_multiply_16 : decode cX4_multiply 16 = .ok (.getfield 9, 3) := by decide +kernel
theorem dX4_multiply_19 : decode cX4_multiply 19 = .ok (.iload_n 2, 1) := by decide +kernel
theorem dX4_multiply_20 : decode cX4_multiply 20 = .ok (.iaload, 1) := by decide +kernel
theorem dX4_multiply_21 : decode cX4_multiply 21 = .ok (.iload_n 1, 1) := by decide +kernel
theorem dX4_multiply_22 : decode cX4_multiply 22 = .ok (.imul, 1) := by decide +kernel
theorem dX4_multiply_23 : decode cX4_multiply 23 = .ok (.sipush 32003, 3) := by decide +kernel
theorem dX4_multiply_26 : decode cX4_multiply 26 = .ok (.irem, 1) := by decide +kernel
theorem dX4_multiply_27 : decode cX4_multiply 27 = .ok (.iastore, 1) := by decide +kernel
theorem dX4_multiply_28 : decode cX4_multiply 28 = .ok (.iinc 2 1, 3) := by decide +kernel
theorem dX4_multiply_31 : decode cX4_multiply 31 = .ok (.goto (-29), 3) := by decide +kernel
theorem dX4_multiply_34 : decode cX4_multiply 34 = .ok (.return_, 1) := by decide +kernel
set_option maxRecDepth 20000 in
theorem ggX4_makeMonic_X7_inverseOf : GoodIn wsX4_makeMonic wsX7_inverseOf := goodIn_r _ [5] (by decide +kernel) (by decide +kernel)
set_option maxRecDepth 20000 in
theorem gX4_makeMonic_X7_inverseOf_n35 : GoodIn wsX4_makeMonic (wsX7_inverseOf) := ggX4_makeMonic_X7_inverseOf
set_option maxRecDepth 20000 in
theorem ggX4_makeMonic_X4_multiply : GoodIn wsX4_makeMonic wsX4_multiply := goodIn_r _ [10, 1, 2, 11, 12] (by decide +kernel) (by decide +kernel)
set_option maxRecDepth 20000 in
theorem gX4_makeMonic_X4_multiply : GoodIn wsX4_makeMonic (wsV RX4 39 RX4 yX4_multiply wsX4_multiply) := goodIn_app (goodIn_of _ (by decide +kernel)) ggX4_makeMonic_X4_multiply
theorem dX4_makeMonic_0 : decode cX4_makeMonic 0 = .ok (.aload_n 0, 1) := by decide +kernel
theorem dX4_makeMonic_1 : decode cX4_makeMonic 1 = .ok (.getfield 15, 3) := by decide +kernel
theorem dX4_makeMonic_4 : decode cX4_makeMonic 4 = .ok (.ifCond .lt 19, 3) := by decide +kernel
theorem dX4_makeMonic_7 : decode cX4_makeMonic 7 = .ok (.aload_n 0, 1) := by decide +kernel
theorem dX4_makeMonic_8 : decode cX4_makeMonic 8 = .ok (.aload_n 0, 1) := by decide +kernel
theorem dX4_makeMonic_9 : decode cX4_makeMonic 9 = .ok (.getfield 9, 3) := by decide +kernel
theorem dX4_makeMonic_12 : decode cX4_makeMonic 12 = .ok (.aload_n 0, 1) := by decide +kernel
theorem dX4_makeMonic_13 : decode cX4_makeMonic 13 = .ok (.getfield 15, 3) := by decide +kernel
theorem dX4_makeMonic_16 : decode cX4_makeMonic 16 = .ok (.iaload, 1) := by decide +kernel
theorem dX4_makeMonic_17 : decode cX4_makeMonic 17 = .ok (.invokestatic 35, 3) := by decide +kernel
theorem dX4_makeMonic_20 : decode cX4_makeMonic 20 = .ok (.invokevirtual 39, 3) := by decide +kernel
theorem dX4_makeMonic_23 : decode cX4_makeMonic 23 = .ok (.return_, 1) := by decide +kernel
set_option maxRecDepth 20000 in
theorem ggX4_addProduct_X4_findDegree : GoodIn wsX4_addProduct wsX4_findDegree := goodIn_r _ [14, 1, 2, 15, 16] (by decide +kernel) (by decide +kernel)
set_option maxRecDepth 20000 in
theorem gX4_addProduct_X4_findDegree : GoodIn wsX4_addProduct (wsV RX4 25 RX4 yX4_findDegree wsX4_findDegree) := goodIn_app (goodIn_of _ (by decide +kernel)) ggX4_addProduct_X4_findDegree
theorem dX4_addProduct_0 : decode cX4_addProduct 0 = .ok (.iconst 0, 1) := by decide +kernel
theorem dX4_addProduct_1 : decode cX4_addProduct 1 = .ok (.istore 4, 2) := by decide +kernel
theorem dX4_addProduct_3 : decode cX4_addProduct 3 = .ok (.iload 4, 2) := by decide +kernel
theorem dX4_addProduct_5 : decode cX4_addProduct 5 = .ok (.aload_n 2, 1) := by decide +kernel
theorem dX4_addProduct_6 : decode cX4_addProduct 6 = .ok (.getfield 15, 3) := by decide +kernel
theorem dX4_addProduct_9 : decode cX4_addProduct 9 = .ok (.if_icmp .gt 94, 3) := by decide +kernel
theorem dX4_addProduct_12 : decode cX4_addProduct 12 = .ok (.aload_n 2, 1) := by decide +kernel
theorem dX4_addProduct_13 : decode cX4_addProduct 13 = .ok (.getfield 9, 3) := by decide +kernel
theorem dX4_addProduct_16 : decode cX4_addProduct 16 = .ok (.iload 4, 2) := by decide +kernel
theorem dX4_addProduct_18 : decode cX4_addProduct 18 = .ok (.iaload, 1) := by decide +kernel
theorem dX4_addProduct_19 : decode cX4_addProduct 19 = .ok (.iload_n 1, 1) := by decide +kernel
theorem dX4_addProduct_20 : decode cX4_addProduct 20 = .ok (.imul, 1) := by decide +kernel
theorem dX4_addProduct_21 : decode cX4_addProduct 21 = .ok (.sipush 32003, 3) := by decide +kernel
theorem dX4_addProduct_24 : decode cX4_addProduct 24 = .ok (.irem, 1) := by decide +kernel
theorem dX4_addProduct_25 : decode cX4_addProduct 25 = .ok (.istore 5, 2) := by decide +kernel
theorem dX4_addProduct_27 : decode cX4_addProduct 27 = .ok (.aload_n 3, 1) := by decide +kernel
theorem dX4_addProduct_28 : decode cX4_addProduct 28 = .ok (.getfield 15, 3) := by decide +kernel
theorem dX4_addProduct_31 : decode cX4_addProduct 31 = .ok (.aload_n 0, 1) := by decide +kernel
theorem dX4_addProduct_32 : decode cX4_addProduct 32 = .ok (.getfield 9, 3) := by decide +kernel
theorem dX4_addProduct_35 : decode cX4_addProduct 35 = .ok (.arraylength, 1) := by decide +kernel
theorem dX4_addProduct_36 : decode cX4_addProduct 36 = .ok (.iconst 1, 1) := by decide +kernel
theorem dX4_addProduct_37 : decode cX4_addProduct 37 = .ok (.isub, 1) := by decide +kernel
theorem dX4_addProduct_38 : decode cX4_addProduct 38 = .ok (.iload 4, 2) := by decide +kernel
theorem dX4_addProduct_40 : decode cX4_addProduct 40 = .ok (.isub, 1) := by decide +kernel
theorem dX4_addProduct_41 : decode cX4_addProduct 41 = .ok (.invokestatic 32, 3) := by decide +kernel
theorem dX4_addProduct_44 : decode cX4_addProduct 44 = .ok (.istore 6, 2) := by decide +kernel
theorem dX4_addProduct_46 : decode cX4_addProduct 46 = .ok (.iconst 0, 1) := by decide +kernel
theorem dX4_addProduct_47 : decode cX4_addProduct 47 = .ok (.istore 7, 2) := by decide +kernel
theorem dX4_addProduct_49 : decode cX4_addProduct 49 = .ok (.iload 7, 2) := by decide +kernel
theorem dX4_addProduct_51 : decode cX4_addProduct 51 = .ok (.iload 6, 2) := by decide +kernel
theorem dX4_addProduct_53 : decode cX4_addProduct 53 = .ok (.if_icmp .gt 44, 3) := by decide +kernel
theorem dX4_addProduct_56 : decode cX4_addProduct 56 = .ok (.aload_n 0, 1) := by decide +kernel
theorem dX4_addProduct_57 : decode cX4_addProduct 57 = .ok (.getfield 9, 3) := by decide +kernel
theorem dX4_addProduct_60 : decode cX4_addProduct 60 = .ok (.iload 4, 2) := by decide +kernel
theorem dX4_addProduct_62 : decode cX4_addProduct 62 = .ok (.iload 7, 2) := by decide +kernel
theorem dX4_addProduct_64 : decode cX4_addProduct 64 = .ok (.iadd, 1) := by decide +kernel
theorem dX4_addProduct_65 : decode cX4_addProduct 65 = .ok (.aload_n 0, 1) := by decide +kernel
theorem dX4_addProduct_66 : decode cX4_addProduct 66 = .ok (.getfield 9, 3) := by decide +kernel
theorem dX4_addProduct_69 : decode cX4_addProduct 69 = .ok (.iload 4, 2) := by decide +kernel
theorem dX4_addProduct_71 : decode cX4_addProduct 71 = .ok (.iload 7, 2) := by decide +kernel
theorem dX4_addProduct_73 : decode cX4_addProduct 73 = .ok (.iadd, 1) := by decide +kernel
theorem dX4_addProduct_74 : decode cX4_addProduct 74 = .ok (.iaload, 1) := by decide +kernel
theorem dX4_addProduct_75 : decode cX4_addProduct 75 = .ok (.iload 5, 2) := by decide +kernel
theorem dX4_addProduct_77 : decode cX4_addProduct 77 = .ok (.aload_n 3, 1) := by decide +kernel
theorem dX4_addProduct_78 : decode cX4_addProduct 78 = .ok (.getfield 9, 3) := by decide +kernel
theorem dX4_addProduct_81 : decode cX4_addProduct 81 = .ok (.iload 7, 2) := by decide +kernel
theorem dX4_addProduct_83 : decode cX4_addProduct 83 = .ok (.iaload, 1) := by decide +kernel
theorem dX4_addProduct_84 : decode cX4_addProduct 84 = .ok (.imul, 1) := by decide +kernel
theorem dX4_addProduct_85 : decode cX4_addProduct 85 = .ok (.iadd, 1) := by decide +kernel
theorem dX4_addProduct_86 : decode cX4_addProduct 86 = .ok (.sipush 32003, 3) := by decide +kernel
theorem dX4_addProduct_89 : decode cX4_addProduct 89 = .ok (.irem, 1) := by decide +kernel
theorem dX4_addProduct_90 : decode cX4_addProduct 90 = .ok (.iastore, 1) := by decide +kernel
theorem dX4_addProduct_91 : decode cX4_addProduct 91 = .ok (.iinc 7 1, 3) := by decide +kernel
theorem dX4_addProduct_94 : decode cX4_addProduct 94 = .ok (.goto (-45), 3) := by decide +kernel
theorem dX4_addProduct_97 : decode cX4_addProduct 97 = .ok (.iinc 4 1, 3) := by decide +kernel
theorem dX4_addProduct_100 : decode cX4_addProduct 100 = .ok (.goto (-97), 3) := by decide +kernel
theorem dX4_addProduct_103 : decode cX4_addProduct 103 = .ok (.aload_n 0, 1) := by decide +kernel
theorem dX4_addProduct_104 : decode cX4_addProduct 104 = .ok (.aload_n 0, 1) := by decide +kernel
theorem dX4_addProduct_105 : decode cX4_addProduct 105 = .ok (.getfield 15, 3) := by decide +kernel
theorem dX4_addProduct_108 : decode cX4_addProduct 108 = .ok (.aload_n 2, 1) := by decide +kernel
theorem dX4_addProduct_109 : decode cX4_addProduct 109 = .ok (.getfield 15, 3) := by decide +kernel
theorem dX4_addProduct_112 : decode cX4_addProduct 112 = .ok (.aload_n 3, 1) := by decide +kernel
theorem dX4_addProduct_113 : decode cX4_addProduct 113 = .ok (.getfield 15, 3) := by decide +kernel
theorem dX4_addProduct_116 : decode cX4_addProduct 116 = .ok (.iadd, 1) := by decide +kernel
theorem dX4_addProduct_117 : decode cX4_addProduct 117 = .ok (.invokestatic 19, 3) := by decide +kernel
theorem dX4_addProduct_120 : decode cX4_addProduct 120 = .ok (.aload_n 0, 1) := by decide +kernel
theorem dX4_addProduct_121 : decode cX4_addProduct 121 = .ok (.getfield 9, 3) := by decide +kernel
theorem dX4_addProduct_124 : decode cX4_addProduct 124 = .ok (.arraylength, 1) := by decide +kernel
theorem dX4_addProduct_125 : decode cX4_addProduct 125 = .ok (.iconst 1, 1) := by decide +kernel
theorem dX4_addProduct_126 : decode cX4_addProduct 126 = .ok (.isub, 1) := by decide +kernel
theorem dX4_addProduct_127 : decode cX4_addProduct 127 = .ok (.invokestatic 32, 3) := by decide +kernel
theorem dX4_addProduct_130 : decode cX4_addProduct 130 = .ok (.invokevirtual 25, 3) := by decide +kernel
theorem dX4_addProduct_133 : decode cX4_addProduct 133 = .ok (.return_, 1) := by decide +kernel
set_option maxRecDepth 20000 in
theorem ggX4_divideBy_X4_clear : GoodIn wsX4_divideBy wsX4_clear := goodIn_r _ [7, 1, 2, 15, 16] (by decide +kernel) (by decide +kernel)
set_option maxRecDepth 20000 in
theorem gX4_divideBy_X4_clear : GoodIn wsX4_divideBy (wsV RX4 29 RX4 yX4_clear wsX4_clear) := goodIn_app (goodIn_of _ (by decide +kernel)) ggX4_divideBy_X4_clear
set_option maxRecDepth 20000 in
theorem ggX4_divideBy_X7_inverseOf : GoodIn wsX4_divideBy wsX7_inverseOf := goodIn_r _ [10] (by decide +kernel) (by decide +kernel)
set_option maxRecDepth 20000 in
theorem gX4_divideBy_X7_inverseOf_n35 : GoodIn wsX4_divideBy (wsX7_inverseOf) := ggX4_divideBy_X7_inverseOf
set_option maxRecDepth 20000 in
theorem ggX4_divideBy_X4_findDegree : GoodIn wsX4_divideBy wsX4_findDegree := goodIn_r _ [14, 1, 2, 15, 16] (by decide +kernel) (by decide +kernel)
set_option maxRecDepth 20000 in
theorem gX4_divideBy_X4_findDegree : GoodIn wsX4_divideBy (wsV RX4 25 RX4 yX4_findDegree wsX4_findDegree) := goodIn_app (goodIn_of _ (by decide +kernel)) ggX4_divideBy_X4_findDegree
theorem dX4_divideBy_0 : decode cX4_divideBy 0 = .ok (.aload_n 2, 1) := by decide +kernel
theorem dX4_divideBy_1 : decode cX4_divideBy 1 = .ok (.invokevirtual 29, 3) := by decide +kernel
theorem dX4_divideBy_4 : decode cX4_divideBy 4 = .ok (.aload_n 1, 1) := by decide +kernel
theorem dX4_divideBy_5 : decode cX4_divideBy 5 = .ok (.getfield 15, 3) := by decide +kernel
theorem dX4_divideBy_8 : decode cX4_divideBy 8 = .ok (.istore_n 3, 1) := by decide +kernel
theorem dX4_divideBy_9 : decode cX4_divideBy 9 = .ok (.iload_n 3, 1) := by decide +kernel
theorem dX4_divideBy_10 : decode cX4_divideBy 10 = .ok (.ifCond .lt 25, 3) := by decide +kernel
theorem dX4_divideBy_13 : decode cX4_divideBy 13 = .ok (.aload_n 0, 1) := by decide +kernel
theorem dX4_divideBy_14 : decode cX4_divideBy 14 = .ok (.getfield 15, 3) := by decide +kernel
theorem dX4_divideBy_17 : decode cX4_divideBy 17 = .ok (.iload_n 3, 1) := by decide +kernel
theorem dX4_divideBy_18 : decode cX4_divideBy 18 = .ok (.if_icmp .lt 17, 3) := by decide +kernel
theorem dX4_divideBy_21 : decode cX4_divideBy 21 = .ok (.aload_n 0, 1) := by decide +kernel
theorem dX4_divideBy_22 : decode cX4_divideBy 22 = .ok (.getfield 15, 3) := by decide +kernel
theorem dX4_divideBy_25 : decode cX4_divideBy 25 = .ok (.iload_n 3, 1) := by decide +kernel
theorem dX4_divideBy_26 : decode cX4_divideBy 26 = .ok (.isub, 1) := by decide +kernel
theorem dX4_divideBy_27 : decode cX4_divideBy 27 = .ok (.aload_n 2, 1) := by decide +kernel
theorem dX4_divideBy_28 : decode cX4_divideBy 28 = .ok (.getfield 9, 3) := by decide +kernel
theorem dX4_divideBy_31 : decode cX4_divideBy 31 = .ok (.arraylength, 1) := by decide +kernel
theorem dX4_divideBy_32 : decode cX4_divideBy 32 = .ok (.if_icmp .lt 4, 3) := by decide +kernel
theorem dX4_divideBy_35 : decode cX4_divideBy 35 = .ok (.return_, 1) := by decide +kernel
theorem dX4_divideBy_36 : decode cX4_divideBy 36 = .ok (.aload_n 1, 1) := by decide +kernel
theorem dX4_divideBy_37 : decode cX4_divideBy 37 = .ok (.getfield 9, 3) := by decide +kernel
theorem dX4_divideBy_40 : decode cX4_divideBy 40 = .ok (.iload_n 3, 1) := by decide +kernel
theorem dX4_divideBy_41 : decode cX4_divideBy 41 = .ok (.iaload, 1) := by decide +kernel
theorem dX4_divideBy_42 : decode cX4_divideBy 42 = .ok (.invokestatic 35, 3) := by decide +kernel
theorem dX4_divideBy_45 : decode cX4_divideBy 45 = .ok (.istore 4, 2) := by decide +kernel
theorem dX4_divideBy_47 : decode cX4_divideBy 47 = .ok (.aload_n 2, 1) := by decide +kernel
theorem dX4_divideBy_48 : decode cX4_divideBy 48 = .ok (.aload_n 0, 1) := by decide +kernel
theorem dX4_divideBy_49 : decode cX4_divideBy 49 = .ok (.getfield 15, 3) := by decide +kernel
theorem dX4_divideBy_52 : decode cX4_divideBy 52 = .ok (.iload_n 3, 1) := by decide +kernel
theorem dX4_divideBy_53 : decode cX4_divideBy 53 = .ok (.isub, 1) := by decide +kernel
theorem dX4_divideBy_54 : decode cX4_divideBy 54 = .ok (.putfield 15, 3) := by decide +kernel
theorem dX4_divideBy_57 : decode cX4_divideBy 57 = .ok (.aload_n 0, 1) := by decide +kernel
theorem dX4_divideBy_58 : decode cX4_divideBy 58 = .ok (.getfield 15, 3) := by decide +kernel
theorem dX4_divideBy_61 : decode cX4_divideBy 61 = .ok (.iload_n 3, 1) := by decide +kernel
theorem dX4_divideBy_62 : decode cX4_divideBy 62 = .ok (.isub, 1) := by decide +kernel
theorem dX4_divideBy_63 : decode cX4_divideBy 63 = .ok (.istore 5, 2) := by decide +kernel
theorem dX4_divideBy_65 : decode cX4_divideBy 65 = .ok (.iload 5, 2) := by decide +kernel
theorem dX4_divideBy_67 : decode cX4_divideBy 67 = .ok (.ifCond .lt 94, 3) := by decide +kernel
theorem dX4_divideBy_70 : decode cX4_divideBy 70 = .ok (.aload_n 0, 1) := by decide +kernel
theorem dX4_divideBy_71 : decode cX4_divideBy 71 = .ok (.getfield 9, 3) := by decide +kernel
theorem dX4_divideBy_74 : decode cX4_divideBy 74 = .ok (.iload 5, 2) := by decide +kernel
theorem dX4_divideBy_76 : decode cX4_divideBy 76 = .ok (.iload_n 3, 1) := by decide +kernel
theorem dX4_divideBy_77 : decode cX4_divideBy 77 = .ok (.iadd, 1) := by decide +kernel
theorem dX4_divideBy_78 : decode cX4_divideBy 78 = .ok (.iaload, 1) := by decide +kernel
theorem dX4_divideBy_79 : decode cX4_divideBy 79 = .ok (.iload 4, 2) := by decide +kernel
theorem dX4_divideBy_81 : decode cX4_divideBy 81 = .ok (.imul, 1) := by decide +kernel
theorem dX4_divideBy_82 : decode cX4_divideBy 82 = .ok (.sipush 32003, 3) := by decide +kernel
theorem dX4_divideBy_85 : decode cX4_divideBy 85 = .ok (.irem, 1) := by decide +kernel
theorem dX4_divideBy_86 : decode cX4_divideBy 86 = .ok (.istore 6, 2) := by decide +kernel
theorem dX4_divideBy_88 : decode cX4_divideBy 88 = .ok (.aload_n 2, 1) := by decide +kernel
theorem dX4_divideBy_89 : decode cX4_divideBy 89 = .ok (.getfield 9, 3) := by decide +kernel
theorem dX4_divideBy_92 : decode cX4_divideBy 92 = .ok (.iload 5, 2) := by decide +kernel
theorem dX4_divideBy_94 : decode cX4_divideBy 94 = .ok (.iload 6, 2) := by decide +kernel
theorem dX4_divideBy_96 : decode cX4_divideBy 96 = .ok (.iastore, 1) := by decide +kernel
theorem dX4_divideBy_97 : decode cX4_divideBy 97 = .ok (.sipush 32003, 3) := by decide +kernel
theorem dX4_divideBy_100 : decode cX4_divideBy 100 = .ok (.iload 6, 2) := by decide +kernel
theorem dX4_divideBy_102 : decode cX4_divideBy 102 = .ok (.isub, 1) := by decide +kernel
theorem dX4_divideBy_103 : decode cX4_divideBy 103 = .ok (.istore 7, 2) := by decide +kernel
theorem dX4_divideBy_105 : decode cX4_divideBy 105 = .ok (.iconst 0, 1) := by decide +kernel
theorem dX4_divideBy_106 : decode cX4_divideBy 106 = .ok (.istore 8, 2) := by decide +kernel
theorem dX4_divideBy_108 : decode cX4_divideBy 108 = .ok (.iload 8, 2) := by decide +kernel
theorem dX4_divideBy_110 : decode cX4_divideBy 110 = .ok (.iload_n 3, 1) := by decide +kernel
theorem dX4_divideBy_111 : decode cX4_divideBy 111 = .ok (.if_icmp .gt 44, 3) := by decide +kernel
theorem dX4_divideBy_114 : decode cX4_divideBy 114 = .ok (.aload_n 0, 1) := by decide +kernel
theorem dX4_divideBy_115 : decode cX4_divideBy 115 = .ok (.getfield 9, 3) := by decide +kernel
theorem dX4_divideBy_118 : decode cX4_divideBy 118 = .ok (.iload 5, 2) := by decide +kernel
theorem dX4_divideBy_120 : decode cX4_divideBy 120 = .ok (.iload 8, 2) := by decide +kernel
theorem dX4_divideBy_122 : decode cX4_divideBy 122 = .ok (.iadd, 1) := by decide +kernel
theorem dX4_divideBy_123 : decode cX4_divideBy 123 = .ok (.aload_n 0, 1) := by decide +kernel
theorem dX4_divideBy_124 : decode cX4_divideBy 124 = .ok (.getfield 9, 3) := by decide +kernel
theorem dX4_divideBy_127 : decode cX4_divideBy 127 = .ok (.iload 5, 2) := by decide +kernel
theorem dX4_divideBy_129 : decode cX4_divideBy 129 = .ok (.iload 8, 2) := by decide +kernel
theorem dX4_divideBy_131 : decode cX4_divideBy 131 = .ok (.iadd, 1) := by decide +kernel
theorem dX4_divideBy_132 : decode cX4_divideBy 132 = .ok (.iaload, 1) := by decide +kernel
theorem dX4_divideBy_133 : decode cX4_divideBy 133 = .ok (.iload 7, 2) := by decide +kernel
theorem dX4_divideBy_135 : decode cX4_divideBy 135 = .ok (.aload_n 1, 1) := by decide +kernel
theorem dX4_divideBy_136 : decode cX4_divideBy 136 = .ok (.getfield 9, 3) := by decide +kernel
theorem dX4_divideBy_139 : decode cX4_divideBy 139 = .ok (.iload 8, 2) := by decide +kernel
theorem dX4_divideBy_141 : decode cX4_divideBy 141 = .ok (.iaload, 1) := by decide +kernel
theorem dX4_divideBy_142 : decode cX4_divideBy 142 = .ok (.imul, 1) := by decide +kernel
theorem dX4_divideBy_143 : decode cX4_divideBy 143 = .ok (.iadd, 1) := by decide +kernel
theorem dX4_divideBy_144 : decode cX4_divideBy 144 = .ok (.sipush 32003, 3) := by decide +kernel
theorem dX4_divideBy_147 : decode cX4_divideBy 147 = .ok (.irem, 1) := by decide +kernel
theorem dX4_divideBy_148 : decode cX4_divideBy 148 = .ok (.iastore, 1) := by decide +kernel
theorem dX4_divideBy_149 : decode cX4_divideBy 149 = .ok (.iinc 8 1, 3) := by decide +kernel
theorem dX4_divideBy_152 : decode cX4_divideBy 152 = .ok (.goto (-44), 3) := by decide +kernel
theorem dX4_divideBy_155 : decode cX4_divideBy 155 = .ok (.iinc 5 (-1), 3) := by decide +kernel
theorem dX4_divideBy_158 : decode cX4_divideBy 158 = .ok (.goto (-93), 3) := by decide +kernel
theorem dX4_divideBy_161 : decode cX4_divideBy 161 = .ok (.aload_n 0, 1) := by decide +kernel
theorem dX4_divideBy_162 : decode cX4_divideBy 162 = .ok (.iload_n 3, 1) := by decide +kernel
theorem dX4_divideBy_163 : decode cX4_divideBy 163 = .ok (.iconst 1, 1) := by decide +kernel
theorem dX4_divideBy_164 : decode cX4_divideBy 164 = .ok (.isub, 1) := by decide +kernel
theorem dX4_divideBy_165 : decode cX4_divideBy 165 = .ok (.invokevirtual 25, 3) := by decide +kernel
theorem dX4_divideBy_168 : decode cX4_divideBy 168 = .ok (.return_, 1) := by decide +kernel
theorem dX4_findDegree_0 : decode cX4_findDegree 0 = .ok (.aload_n 0, 1) := by decide +kernel
theorem dX4_findDegree_1 : decode cX4_findDegree 1 = .ok (.iload_n 1, 1) := by decide +kernel
theorem dX4_findDegree_2 : decode cX4_findDegree 2 = .ok (.putfield 15, 3) := by decide +kernel
theorem dX4_findDegree_5 : decode cX4_findDegree 5 = .ok (.aload_n 0, 1) := by decide +kernel
theorem dX4_findDegree_6 : decode cX4_findDegree 6 = .ok (.getfield 15, 3) := by decide +kernel
theorem dX4_findDegree_9 : decode cX4_findDegree 9 = .ok (.ifCond .lt 28, 3) := by decide +kernel
theorem dX4_findDegree_12 : decode cX4_findDegree 12 = .ok (.aload_n 0, 1) := by decide +kernel
theorem dX4_findDegree_13 : decode cX4_findDegree 13 = .ok (.getfield 9, 3) := by decide +kernel
theorem dX4_findDegree_16 : decode cX4_findDegree 16 = .ok (.aload_n 0, 1) := by decide +kernel
theorem dX4_findDegree_17 : decode cX4_findDegree 17 = .ok (.getfield 15, 3) := by decide +kernel
theorem dX4_findDegree_20 : decode cX4_findDegree 20 = .ok (.iaload, 1) := by decide +kernel
theorem dX4_findDegree_21 : decode cX4_findDegree 21 = .ok (.ifCond .ne 16, 3) := by decide +kernel
theorem dX4_findDegree_24 : decode cX4_findDegree 24 = .ok (.aload_n 0, 1) := by decide +kernel
theorem dX4_findDegree_25 : decode cX4_findDegree 25 = .ok (.dup, 1) := by decide +kernel
theorem dX4_findDegree_26 : decode cX4_findDegree 26 = .ok (.getfield 15, 3) := by decide +kernel
theorem dX4_findDegree_29 : decode cX4_findDegree 29 = .ok (.iconst 1, 1) := by decide +kernel
theorem dX4_findDegree_30 : decode cX4_findDegree 30 = .ok (.isub, 1) := by decide +kernel
theorem dX4_findDegree_31 : decode cX4_findDegree 31 = .ok (.putfield 15, 3) := by decide +kernel
theorem dX4_findDegree_34 : decode cX4_findDegree 34 = .ok (.goto (-29), 3) := by decide +kernel
theorem dX4_findDegree_37 : decode cX4_findDegree 37 = .ok (.return_, 1) := by decide +kernel
set_option maxRecDepth 20000 in
theorem ggX5_init_X4_init : GoodIn wsX5_init wsX4_init := goodIn_r _ [20, 21, 2, 3, 4, 22, 23, 42, 43] (by decide +kernel) (by decide +kernel)
set_option maxRecDepth 20000 in
theorem gX5_init_X4_init : GoodIn wsX5_init (wsX4_init) := ggX5_init_X4_init
set_option maxRecDepth 20000 in
theorem ggX5_init_X0_init : GoodIn wsX5_init wsX0_init := goodIn_r _ [26, 27, 2, 3, 28, 8, 9, 29, 30, 31, 32, 19, 20, 21, 4, 22, 23, 42, 43, 44, 45, 46] (by decide +kernel) (by decide +kernel)
set_option maxRecDepth 20000 in
theorem gX5_init_X0_init : GoodIn wsX5_init (wsX0_init) := ggX5_init_X0_init
theorem dX5_init_0 : decode cX5_init 0 = .ok (.aload_n 0, 1) := by decide +kernel
theorem dX5_init_1 : decode cX5_init 1 = .ok (.invokespecial 3, 3) := by decide +kernel
theorem dX5_init_4 : decode cX5_init 4 = .ok (.aload_n 0, 1) := by decide +kernel
theorem dX5_init_5 : decode cX5_init 5 = .ok (.iconst 4, 1) := by decide +kernel
theorem dX5_init_6 : decode cX5_init 6 = .ok (.newarray .int, 2) := by decide +kernel
theorem dX5_init_8 : decode cX5_init 8 = .ok (.putfield 9, 3) := by decide +kernel
theorem dX5_init_11 : decode cX5_init 11 = .ok (.aload_n 0, 1) := by decide +kernel
theorem dX5_init_12 : decode cX5_init 12 = .ok (.iconst 4, 1) := by decide +kernel
theorem dX5_init_13 : decode cX5_init 13 = .ok (.anewarray 15, 3) := by decide +kernel
theorem dX5_init_16 : decode cX5_init 16 = .ok (.putfield 17, 3) := by decide +kernel
theorem dX5_init_19 : decode cX5_init 19 = .ok (.iconst 0, 1) := by decide +kernel
theorem dX5_init_20 : decode cX5_init 20 = .ok (.istore_n 1, 1) := by decide +kernel
theorem dX5_init_21 : decode cX5_init 21 = .ok (.iload_n 1, 1) := by decide +kernel
theorem dX5_init_22 : decode cX5_init 22 = .ok (.iconst 4, 1) := by decide +kernel
theorem dX5_init_23 : decode cX5_init 23 = .ok (.if_icmp .ge 24, 3) := by decide +kernel
theorem dX5_init_26 : decode cX5_init 26 = .ok (.aload_n 0, 1) := by decide +kernel
theorem dX5_init_27 : decode cX5_init 27 = .ok (.getfield 17, 3) := by decide +kernel
theorem dX5_init_30 : decode cX5_init 30 = .ok (.iload_n 1, 1) := by decide +kernel
theorem dX5_init_31 : decode cX5_init 31 = .ok (.new 15, 3) := by decide +kernel
theorem dX5_init_34 : decode cX5_init 34 = .ok (.dup, 1) := by decide +kernel
theorem dX5_init_35 : decode cX5_init 35 = .ok (.bipush 7, 2) := by decide +kernel
theorem dX5_init_37 : decode cX5_init 37 = .ok (.invokespecial 21, 3) := by decide +kernel
theorem dX5_init_40 : decode cX5_init 40 = .ok (.aastore, 1) := by decide +kernel
theorem dX5_init_41 : decode cX5_init 41 = .ok (.iinc 1 1, 3) := by decide +kernel
theorem dX5_init_44 : decode cX5_init 44 = .ok (.goto (-23), 3) := by decide +kernel
theorem dX5_init_47 : decode cX5_init 47 = .ok (.aload_n 0, 1) := by decide +kernel
theorem dX5_init_48 : decode cX5_init 48 = .ok (.new 15, 3) := by decide +kernel
theorem dX5_init_51 : decode cX5_init 51 = .ok (.dup, 1) := by decide +kernel
theorem dX5_init_52 : decode cX5_init 52 = .ok (.bipush 7, 2) := by decide +kernel
theorem dX5_init_54 : decode cX5_init 54 = .ok (.invokespecial 21, 3) := by decide +kernel
theorem dX5_init_57 : decode cX5_init 57 = .ok (.putfield 24, 3) := by decide +kernel
theorem dX5_init_60 : decode cX5_init 60 = .ok (.aload_n 0, 1) := by decide +kernel
theorem dX5_init_61 : decode cX5_init 61 = .ok (.new 15, 3) := by decide +kernel
theorem dX5_init_64 : decode cX5_init 64 = .ok (.dup, 1) := by decide +kernel
theorem dX5_init_65 : decode cX5_init 65 = .ok (.bipush 7, 2) := by decide +kernel
theorem dX5_init_67 : decode cX5_init 67 = .ok (.invokespecial 21, 3) := by decide +kernel
theorem dX5_init_70 : decode cX5_init 70 = .ok (.putfield 28, 3) := by decide +kernel
theorem dX5_init_73 : decode cX5_init 73 = .ok (.aload_n 0, 1) := by decide +kernel
theorem dX5_init_74 : decode cX5_init 74 = .ok (.new 15, 3) := by decide +kernel
theorem dX5_init_77 : decode cX5_init 77 = .ok (.dup, 1) := by decide +kernel
theorem dX5_init_78 : decode cX5_init 78 = .ok (.bipush 7, 2) := by decide +kernel
theorem dX5_init_80 : decode cX5_init 80 = .ok (.invokespecial 21, 3) := by decide +kernel
theorem dX5_init_83 : decode cX5_init 83 = .ok (.putfield 31, 3) := by decide +kernel
theorem dX5_init_86 : decode cX5_init 86 = .ok (.aload_n 0, 1) := by decide +kernel
theorem dX5_init_87 : decode cX5_init 87 = .ok (.new 15, 3) := by decide +kernel
theorem dX5_init_90 : decode cX5_init 90 = .ok (.dup, 1) := by decide +kernel
theorem dX5_init_91 : decode cX5_init 91 = .ok (.bipush 7, 2) := by decide +kernel
theorem dX5_init_93 : decode cX5_init 93 = .ok (.invokespecial 21, 3) := by decide +kernel
theorem dX5_init_96 : decode cX5_init 96 = .ok (.putfield 34, 3) := by decide +kernel
theorem dX5_init_99 : decode cX5_init 99 = .ok (.aload_n 0, 1) := by decide +kernel
theorem dX5_init_100 : decode cX5_init 100 = .ok (.new 37, 3) := by decide +kernel
theorem dX5_init_103 : decode cX5_init 103 = .ok (.dup, 1) := by decide +kernel
theorem dX5_init_104 : decode cX5_init 104 = .ok (.invokespecial 39, 3) := by decide +kernel
theorem dX5_init_107 : decode cX5_init 107 = .ok (.putfield 40, 3) := by decide +kernel
theorem dX5_init_110 : decode cX5_init 110 = .ok (.return_, 1) := by decide +kernel
set_option maxRecDepth 20000 in
theorem ggX5_reckon_X5_raise : GoodIn wsX5_reckon wsX5_raise := goodIn_r _ [10, 11, 3, 12, 13, 14, 15, 16, 17, 18, 19, 20, 21, 22, 23, 24, 25, 26, 27, 28, 29, 30, 31, 32, 33, 34, 35, 36, 37, 38, 39, 40, 41, 42, 43, 44, 45, 46, 47, 48, 49, 50, 51, 93, 94, 95, 96, 97, 98, 99, 100, 101, 102, 103] (by decide +kernel) (by decide +kernel)
set_option maxRecDepth 20000 in
theorem gX5_reckon_X5_raise : GoodIn wsX5_reckon (wsV RX5 54 RX5 yX5_raise wsX5_raise) := goodIn_app (goodIn_of _ (by decide +kernel)) ggX5_reckon_X5_raise
set_option maxRecDepth 20000 in
theorem ggX5_reckon_X4_numberAt : GoodIn wsX5_reckon wsX4_numberAt := goodIn_r _ [55, 20, 19, 102, 103] (by decide +kernel) (by decide +kernel)
set_option maxRecDepth 20000 in
theorem gX5_reckon_X4_numberAt : GoodIn wsX5_reckon (wsV RX5 58 RX4 yX4_numberAt wsX4_numberAt) := goodIn_app (goodIn_of _ (by decide +kernel)) ggX5_reckon_X4_numberAt
set_option maxRecDepth 20000 in
theorem ggX5_reckon_J9_floorMod_7cf53 : GoodIn wsX5_reckon wsJ9_floorMod_7cf53 := goodIn_r _ [59] (by decide +kernel) (by decide +kernel)
set_option maxRecDepth 20000 in
theorem gX5_reckon_J9_floorMod_7cf53 : GoodIn wsX5_reckon (va_wsS RX5 62 yJ9_floorMod_7cf53 wsJ9_floorMod_7cf53) := goodIn_app (goodIn_of _ (by decide +kernel)) ggX5_reckon_J9_floorMod_7cf53
set_option maxRecDepth 20000 in
theorem ggX5_reckon_X4_setNumber : GoodIn wsX5_reckon wsX4_setNumber := goodIn_r _ [18, 19, 20, 21, 22, 23, 24, 25, 26, 27, 17, 28, 102, 103] (by decide +kernel) (by decide +kernel)
set_option maxRecDepth 20000 in
theorem gX5_reckon_X4_setNumber : GoodIn wsX5_reckon (wsV RX5 68 RX4 yX4_setNumber wsX4_setNumber) := goodIn_app (goodIn_of _ (by decide +kernel)) ggX5_reckon_X4_setNumber
set_option maxRecDepth 20000 in
theorem ggX5_reckon_X4_copyFrom : GoodIn wsX5_reckon wsX4_copyFrom := goodIn_r _ [51, 20, 19, 37, 38, 23, 39, 44, 30, 31, 17, 32, 25, 26, 27, 28, 102, 103] (by decide +kernel) (by decide +kernel)
set_option maxRecDepth 20000 in
theorem gX5_reckon_X4_copyFrom : GoodIn wsX5_reckon (wsV RX5 72 RX4 yX4_copyFrom wsX4_copyFrom) := goodIn_app (goodIn_of _ (by decide +kernel)) ggX5_reckon_X4_copyFrom
set_option maxRecDepth 20000 in
theorem ggX5_reckon_X0_shrinkToCommon : GoodIn wsX5_reckon wsX0_shrinkToCommon := goodIn_r _ [64, 65, 66, 67, 68, 49, 50, 17, 51, 20, 19, 37, 38, 23, 39, 44, 30, 31, 32, 25, 26, 27, 28, 69, 41, 42, 43, 45, 46, 47, 70, 71, 72, 73, 74, 75, 76, 77, 104, 105, 106, 102, 103] (by decide +kernel) (by decide +kernel)
set_option maxRecDepth 20000 in
theorem gX5_reckon_X0_shrinkToCommon : GoodIn wsX5_reckon (wsV RX5 76 RX0 yX0_shrinkToCommon wsX0_shrinkToCommon) := goodIn_app (goodIn_of _ (by decide +kernel)) ggX5_reckon_X0_shrinkToCommon
set_option maxRecDepth 20000 in
theorem ggX5_reckon_X5_split : GoodIn wsX5_reckon wsX5_split := goodIn_r _ [81, 3, 5, 2, 4, 6, 7, 8, 9, 10, 11, 12, 13, 14, 15, 16, 17, 18, 19, 20, 21, 22, 23, 24, 25, 26, 27, 28, 29, 30, 31, 32, 33, 34, 35, 36, 37, 38, 39, 40, 41, 42, 43, 44, 45, 46, 47, 48, 49, 50, 51, 52, 53, 54, 55, 56, 57, 58, 59, 60, 61, 62, 63, 64, 65, 66, 67, 68, 69, 70, 71, 72, 73, 74, 75, 76, 77, 82, 83, 84, 85, 93, 94, 95, 96, 97, 98, 99, 100, 101, 102, 103, 104, 105, 106] (by decide +kernel) (by decide +kernel)
set_option maxRecDepth 20000 in
theorem gX5_reckon_X5_split : GoodIn wsX5_reckon (wsV RX5 80 RX5 yX5_split wsX5_split) := goodIn_app (goodIn_of _ (by decide +kernel)) ggX5_reckon_X5_split
set_option maxRecDepth 20000 in
theorem ggX5_reckon_X7_negative : GoodIn wsX5_reckon wsX7_negative := goodIn_r _ [87] (by decide +kernel) (by decide +kernel)
set_option maxRecDepth 20000 in
theorem gX5_reckon_X7_negative_n84 : GoodIn wsX5_reckon (wsX7_negative) := ggX5_reckon_X7_negative
set_option maxRecDepth 20000 in
theorem ggX5_reckon_X5_insert : GoodIn wsX5_reckon wsX5_insert := goodIn_r _ [91, 1, 92, 93, 94, 95, 96, 97, 98, 99, 100, 101] (by decide +kernel) (by decide +kernel)
set_option maxRecDepth 20000 in
theorem gX5_reckon_X5_insert : GoodIn wsX5_reckon (wsV RX5 87 RX5 yX5_insert wsX5_insert) := goodIn_app (goodIn_of _ (by decide +kernel)) ggX5_reckon_X5_insert
theorem dX5_reckon_0 : decode cX5_reckon 0 = .ok (.aload_n 0, 1) := by decide +kernel
theorem dX5_reckon_1 : decode cX5_reckon 1 = .ok (.iconst 0, 1) := by decide +kernel
theorem dX5_reckon_2 : decode cX5_reckon 2 = .ok (.putfield 44, 3) := by decide +kernel
theorem dX5_reckon_5 : decode cX5_reckon 5 = .ok (.aload_n 0, 1) := by decide +kernel
theorem dX5_reckon_6 : decode cX5_reckon 6 = .ok (.iconst 0, 1) := by decide +kernel
theorem dX5_reckon_7 : decode cX5_reckon 7 = .ok (.putfield 48, 3) := by decide +kernel
theorem dX5_reckon_10 : decode cX5_reckon 10 = .ok (.aload_n 1, 1) := by decide +kernel
theorem dX5_reckon_11 : decode cX5_reckon 11 = .ok (.getfield 51, 3) := by decide +kernel
theorem dX5_reckon_14 : decode cX5_reckon 14 = .ok (.iconst 1, 1) := by decide +kernel
theorem dX5_reckon_15 : decode cX5_reckon 15 = .ok (.if_icmp .ge 4, 3) := by decide +kernel
theorem dX5_reckon_18 : decode cX5_reckon 18 = .ok (.return_, 1) := by decide +kernel
theorem dX5_reckon_19 : decode cX5_reckon 19 = .ok (.aload_n 0, 1) := by decide +kernel
theorem dX5_reckon_20 : decode cX5_reckon 20 = .ok (.iconst 0, 1) := by decide +kernel
theorem dX5_reckon_21 : decode cX5_reckon 21 = .ok (.sipush 32003, 3) := by decide +kernel
theorem dX5_reckon_24 : decode cX5_reckon 24 = .ok (.aload_n 1, 1) := by decide +kernel
theorem dX5_reckon_25 : decode cX5_reckon 25 = .ok (.invokevirtual 54, 3) := by decide +kernel
theorem dX5_reckon_28 : decode cX5_reckon 28 = .ok (.aload_n 0, 1) := by decide +kernel
theorem dX5_reckon_29 : decode cX5_reckon 29 = .ok (.getfield 28, 3) := by decide +kernel
theorem dX5_reckon_32 : decode cX5_reckon 32 = .ok (.iconst 1, 1) := by decide +kernel
theorem dX5_reckon_33 : decode cX5_reckon 33 = .ok (.aload_n 0, 1) := by decide +kernel
theorem dX5_reckon_34 : decode cX5_reckon 34 = .ok (.getfield 28, 3) := by decide +kernel
theorem dX5_reckon_37 : decode cX5_reckon 37 = .ok (.iconst 1, 1) := by decide +kernel
theorem dX5_reckon_38 : decode cX5_reckon 38 = .ok (.invokevirtual 58, 3) := by decide +kernel
theorem dX5_reckon_41 : decode cX5_reckon 41 = .ok (.iconst 1, 1) := by decide +kernel
theorem dX5_reckon_42 : decode cX5_reckon 42 = .ok (.isub, 1) := by decide +kernel
theorem dX5_reckon_43 : decode cX5_reckon 43 = .ok (.sipush 32003, 3) := by decide +kernel
theorem dX5_reckon_46 : decode cX5_reckon 46 = .ok (.invokestatic 62, 3) := by decide +kernel
theorem dX5_reckon_49 : decode cX5_reckon 49 = .ok (.invokevirtual 68, 3) := by decide +kernel
theorem dX5_reckon_52 : decode cX5_reckon 52 = .ok (.aload_n 0, 1) := by decide +kernel
theorem dX5_reckon_53 : decode cX5_reckon 53 = .ok (.getfield 17, 3) := by decide +kernel
theorem dX5_reckon_56 : decode cX5_reckon 56 = .ok (.iconst 0, 1) := by decide +kernel
theorem dX5_reckon_57 : decode cX5_reckon 57 = .ok (.aaload, 1) := by decide +kernel
theorem dX5_reckon_58 : decode cX5_reckon 58 = .ok (.aload_n 1, 1) := by decide +kernel
theorem dX5_reckon_59 : decode cX5_reckon 59 = .ok (.invokevirtual 72, 3) := by decide +kernel
theorem dX5_reckon_62 : decode cX5_reckon 62 = .ok (.aload_n 0, 1) := by decide +kernel
theorem dX5_reckon_63 : decode cX5_reckon 63 = .ok (.getfield 40, 3) := by decide +kernel
theorem dX5_reckon_66 : decode cX5_reckon 66 = .ok (.aload_n 0, 1) := by decide +kernel
theorem dX5_reckon_67 : decode cX5_reckon 67 = .ok (.getfield 17, 3) := by decide +kernel
theorem dX5_reckon_70 : decode cX5_reckon 70 = .ok (.iconst 0, 1) := by decide +kernel
theorem dX5_reckon_71 : decode cX5_reckon 71 = .ok (.aaload, 1) := by decide +kernel
theorem dX5_reckon_72 : decode cX5_reckon 72 = .ok (.aload_n 0, 1) := by decide +kernel
theorem dX5_reckon_73 : decode cX5_reckon 73 = .ok (.getfield 28, 3) := by decide +kernel
theorem dX5_reckon_76 : decode cX5_reckon 76 = .ok (.invokevirtual 76, 3) := by decide +kernel
theorem dX5_reckon_79 : decode cX5_reckon 79 = .ok (.aload_n 0, 1) := by decide +kernel
theorem dX5_reckon_80 : decode cX5_reckon 80 = .ok (.getfield 17, 3) := by decide +kernel
theorem dX5_reckon_83 : decode cX5_reckon 83 = .ok (.iconst 0, 1) := by decide +kernel
theorem dX5_reckon_84 : decode cX5_reckon 84 = .ok (.aaload, 1) := by decide +kernel
theorem dX5_reckon_85 : decode cX5_reckon 85 = .ok (.getfield 51, 3) := by decide +kernel
theorem dX5_reckon_88 : decode cX5_reckon 88 = .ok (.istore_n 2, 1) := by decide +kernel
theorem dX5_reckon_89 : decode cX5_reckon 89 = .ok (.aload_n 0, 1) := by decide +kernel
theorem dX5_reckon_90 : decode cX5_reckon 90 = .ok (.iload_n 2, 1) := by decide +kernel
theorem dX5_reckon_91 : decode cX5_reckon 91 = .ok (.ifCond .le 7, 3) := by decide +kernel
theorem dX5_reckon_94 : decode cX5_reckon 94 = .ok (.iconst 1, 1) := by decide +kernel
theorem dX5_reckon_95 : decode cX5_reckon 95 = .ok (.goto 4, 3) := by decide +kernel
theorem dX5_reckon_98 : decode cX5_reckon 98 = .ok (.iconst 0, 1) := by decide +kernel
theorem dX5_reckon_99 : decode cX5_reckon 99 = .ok (.putfield 48, 3) := by decide +kernel
theorem dX5_reckon_102 : decode cX5_reckon 102 = .ok (.iconst 0, 1) := by decide +kernel
theorem dX5_reckon_103 : decode cX5_reckon 103 = .ok (.istore_n 3, 1) := by decide +kernel
theorem dX5_reckon_104 : decode cX5_reckon 104 = .ok (.iload_n 3, 1) := by decide +kernel
theorem dX5_reckon_105 : decode cX5_reckon 105 = .ok (.sipush 32003, 3) := by decide +kernel
theorem dX5_reckon_108 : decode cX5_reckon 108 = .ok (.if_icmp .ge 67, 3) := by decide +kernel
theorem dX5_reckon_111 : decode cX5_reckon 111 = .ok (.aload_n 0, 1) := by decide +kernel
theorem dX5_reckon_112 : decode cX5_reckon 112 = .ok (.getfield 48, 3) := by decide +kernel
theorem dX5_reckon_115 : decode cX5_reckon 115 = .ok (.iload_n 2, 1) := by decide +kernel
theorem dX5_reckon_116 : decode cX5_reckon 116 = .ok (.if_icmp .ge 59, 3) := by decide +kernel
theorem dX5_reckon_119 : decode cX5_reckon 119 = .ok (.iconst 0, 1) := by decide +kernel
theorem dX5_reckon_120 : decode cX5_reckon 120 = .ok (.istore 4, 2) := by decide +kernel
theorem dX5_reckon_122 : decode cX5_reckon 122 = .ok (.iload 4, 2) := by decide +kernel
theorem dX5_reckon_124 : decode cX5_reckon 124 = .ok (.iconst 4, 1) := by decide +kernel
theorem dX5_reckon_125 : decode cX5_reckon 125 = .ok (.if_icmp .ge 44, 3) := by decide +kernel
theorem dX5_reckon_128 : decode cX5_reckon 128 = .ok (.iload 4, 2) := by decide +kernel
theorem dX5_reckon_130 : decode cX5_reckon 130 = .ok (.aload_n 0, 1) := by decide +kernel
theorem dX5_reckon_131 : decode cX5_reckon 131 = .ok (.getfield 48, 3) := by decide +kernel
theorem dX5_reckon_134 : decode cX5_reckon 134 = .ok (.if_icmp .ge 29, 3) := by decide +kernel
theorem dX5_reckon_137 : decode cX5_reckon 137 = .ok (.aload_n 0, 1) := by decide +kernel
theorem dX5_reckon_138 : decode cX5_reckon 138 = .ok (.getfield 17, 3) := by decide +kernel
theorem dX5_reckon_141 : decode cX5_reckon 141 = .ok (.iload 4, 2) := by decide +kernel
theorem dX5_reckon_143 : decode cX5_reckon 143 = .ok (.aaload, 1) := by decide +kernel
theorem dX5_reckon_144 : decode cX5_reckon 144 = .ok (.getfield 51, 3) := by decide +kernel
theorem dX5_reckon_147 : decode cX5_reckon 147 = .ok (.iconst 1, 1) := by decide +kernel
theorem dX5_reckon_148 : decode cX5_reckon 148 = .ok (.if_icmp .le 15, 3) := by decide +kernel
theorem dX5_reckon_151 : decode cX5_reckon 151 = .ok (.aload_n 0, 1) := by decide +kernel
theorem dX5_reckon_152 : decode cX5_reckon 152 = .ok (.aload_n 0, 1) := by decide +kernel
theorem dX5_reckon_153 : decode cX5_reckon 153 = .ok (.getfield 17, 3) := by decide +kernel
theorem dX5_reckon_156 : decode cX5_reckon 156 = .ok (.iload 4, 2) := by decide +kernel
theorem dX5_reckon_158 : decode cX5_reckon 158 = .ok (.aaload, 1) := by decide +kernel
theorem dX5_reckon_159 : decode cX5_reckon 159 = .ok (.iload_n 3, 1) := by decide +kernel
theorem dX5_reckon_160 : decode cX5_reckon 160 = .ok (.invokevirtual 80, 3) := by decide +kernel
theorem dX5_reckon_163 : decode cX5_reckon 163 = .ok (.iinc 4 1, 3) := by decide +kernel
theorem dX5_reckon_166 : decode cX5_reckon 166 = .ok (.goto (-44), 3) := by decide +kernel
theorem dX5_reckon_169 : decode cX5_reckon 169 = .ok (.iinc 3 1, 3) := by decide +kernel
theorem dX5_reckon_172 : decode cX5_reckon 172 = .ok (.goto (-68), 3) := by decide +kernel
theorem dX5_reckon_175 : decode cX5_reckon 175 = .ok (.iconst 0, 1) := by decide +kernel
theorem dX5_reckon_176 : decode cX5_reckon 176 = .ok (.istore_n 3, 1) := by decide +kernel
theorem dX5_reckon_177 : decode cX5_reckon 177 = .ok (.iload_n 3, 1) := by decide +kernel
theorem dX5_reckon_178 : decode cX5_reckon 178 = .ok (.aload_n 0, 1) := by decide +kernel
theorem dX5_reckon_179 : decode cX5_reckon 179 = .ok (.getfield 48, 3) := by decide +kernel
theorem dX5_reckon_182 : decode cX5_reckon 182 = .ok (.if_icmp .ge 26, 3) := by decide +kernel
theorem dX5_reckon_185 : decode cX5_reckon 185 = .ok (.aload_n 0, 1) := by decide +kernel
theorem dX5_reckon_186 : decode cX5_reckon 186 = .ok (.aload_n 0, 1) := by decide +kernel
theorem dX5_reckon_187 : decode cX5_reckon 187 = .ok (.getfield 17, 3) := by decide +kernel
theorem dX5_reckon_190 : decode cX5_reckon 190 = .ok (.iload_n 3, 1) := by decide +kernel
theorem dX5_reckon_191 : decode cX5_reckon 191 = .ok (.aaload, 1) := by decide +kernel
theorem dX5_reckon_192 : decode cX5_reckon 192 = .ok (.iconst 0, 1) := by decide +kernel
theorem dX5_reckon_193 : decode cX5_reckon 193 = .ok (.invokevirtual 58, 3) := by decide +kernel
theorem dX5_reckon_196 : decode cX5_reckon 196 = .ok (.invokestatic 84, 3) := by decide +kernel
theorem dX5_reckon_199 : decode cX5_reckon 199 = .ok (.invokevirtual 87, 3) := by decide +kernel
theorem dX5_reckon_202 : decode cX5_reckon 202 = .ok (.iinc 3 1, 3) := by decide +kernel
theorem dX5_reckon_205 : decode cX5_reckon 205 = .ok (.goto (-28), 3) := by decide +kernel
theorem dX5_reckon_208 : decode cX5_reckon 208 = .ok (.return_, 1) := by decide +kernel
set_option maxRecDepth 20000 in
theorem ggX5_split_X5_raise : GoodIn wsX5_split wsX5_raise := goodIn_r _ [9, 10, 1, 11, 12, 13, 14, 15, 16, 17, 18, 19, 20, 21, 22, 23, 24, 25, 26, 27, 28, 29, 30, 31, 32, 33, 34, 35, 36, 37, 38, 39, 40, 41, 42, 43, 44, 45, 46, 47, 48, 49, 50, 81, 82, 83, 84, 85, 86, 87, 88, 89, 90, 91] (by decide +kernel) (by decide +kernel)
set_option maxRecDepth 20000 in
theorem gX5_split_X5_raise : GoodIn wsX5_split (wsV RX5 54 RX5 yX5_raise wsX5_raise) := goodIn_app (goodIn_of _ (by decide +kernel)) ggX5_split_X5_raise
set_option maxRecDepth 20000 in
theorem ggX5_split_X4_numberAt : GoodIn wsX5_split wsX4_numberAt := goodIn_r _ [54, 19, 18, 90, 91] (by decide +kernel) (by decide +kernel)
set_option maxRecDepth 20000 in
theorem gX5_split_X4_numberAt : GoodIn wsX5_split (wsV RX5 58 RX4 yX4_numberAt wsX4_numberAt) := goodIn_app (goodIn_of _ (by decide +kernel)) ggX5_split_X4_numberAt
set_option maxRecDepth 20000 in
theorem ggX5_split_J9_floorMod_7cf53 : GoodIn wsX5_split wsJ9_floorMod_7cf53 := goodIn_r _ [58] (by decide +kernel) (by decide +kernel)
set_option maxRecDepth 20000 in
theorem gX5_split_J9_floorMod_7cf53 : GoodIn wsX5_split (va_wsS RX5 62 yJ9_floorMod_7cf53 wsJ9_floorMod_7cf53) := goodIn_app (goodIn_of _ (by decide +kernel)) ggX5_split_J9_floorMod_7cf53
set_option maxRecDepth 20000 in
theorem ggX5_split_X4_setNumber : GoodIn wsX5_split wsX4_setNumber := goodIn_r _ [17, 18, 19, 20, 21, 22, 23, 24, 25, 26, 16, 27, 90, 91] (by decide +kernel) (by decide +kernel)
set_option maxRecDepth 20000 in
theorem gX5_split_X4_setNumber : GoodIn wsX5_split (wsV RX5 68 RX4 yX4_setNumber wsX4_setNumber) := goodIn_app (goodIn_of _ (by decide +kernel)) ggX5_split_X4_setNumber
set_option maxRecDepth 20000 in
theorem ggX5_split_X0_shrinkToCommon : GoodIn wsX5_split wsX0_shrinkToCommon := goodIn_r _ [63, 64, 65, 66, 67, 48, 49, 16, 50, 19, 18, 36, 37, 22, 38, 43, 29, 30, 31, 24, 25, 26, 27, 68, 40, 41, 42, 44, 45, 46, 69, 70, 71, 72, 73, 74, 75, 76, 92, 93, 94, 90, 91] (by decide +kernel) (by decide +kernel)
set_option maxRecDepth 20000 in
theorem gX5_split_X0_shrinkToCommon : GoodIn wsX5_split (wsV RX5 76 RX0 yX0_shrinkToCommon wsX0_shrinkToCommon) := goodIn_app (goodIn_of _ (by decide +kernel)) ggX5_split_X0_shrinkToCommon
set_option maxRecDepth 20000 in
theorem ggX5_split_X4_copyFrom : GoodIn wsX5_split wsX4_copyFrom := goodIn_r _ [50, 19, 18, 36, 37, 22, 38, 43, 29, 30, 16, 31, 24, 25, 26, 27, 90, 91] (by decide +kernel) (by decide +kernel)
set_option maxRecDepth 20000 in
theorem gX5_split_X4_copyFrom : GoodIn wsX5_split (wsV RX5 72 RX4 yX4_copyFrom wsX4_copyFrom) := goodIn_app (goodIn_of _ (by decide +kernel)) ggX5_split_X4_copyFrom
set_option maxRecDepth 20000 in
theorem ggX5_split_X0_writeQuotient : GoodIn wsX5_split wsX0_writeQuotient := goodIn_r _ [80, 64, 66, 67, 48, 49, 16, 50, 19, 18, 36, 37, 22, 38, 43, 29, 30, 31, 24, 25, 26, 27, 68, 40, 41, 42, 44, 45, 46, 92, 93, 94, 90, 91] (by decide +kernel) (by decide +kernel)
set_option maxRecDepth 20000 in
theorem gX5_split_X0_writeQuotient : GoodIn wsX5_split (wsV RX5 90 RX0 yX0_writeQuotient wsX0_writeQuotient) := goodIn_app (goodIn_of _ (by decide +kernel)) ggX5_split_X0_writeQuotient
theorem dX5_split_0 : decode cX5_split 0 = .ok (.aload_n 0, 1) := by decide +kernel
theorem dX5_split_1 : decode cX5_split 1 = .ok (.iload_n 2, 1) := by decide +kernel
theorem dX5_split_2 : decode cX5_split 2 = .ok (.sipush 16001, 3) := by decide +kernel
theorem dX5_split_5 : decode cX5_split 5 = .ok (.aload_n 1, 1) := by decide +kernel
theorem dX5_split_6 : decode cX5_split 6 = .ok (.invokevirtual 54, 3) := by decide +kernel
theorem dX5_split_9 : decode cX5_split 9 = .ok (.aload_n 0, 1) := by decide +kernel
theorem dX5_split_10 : decode cX5_split 10 = .ok (.getfield 28, 3) := by decide +kernel
theorem dX5_split_13 : decode cX5_split 13 = .ok (.iconst 0, 1) := by decide +kernel
theorem dX5_split_14 : decode cX5_split 14 = .ok (.aload_n 0, 1) := by decide +kernel
theorem dX5_split_15 : decode cX5_split 15 = .ok (.getfield 28, 3) := by decide +kernel
theorem dX5_split_18 : decode cX5_split 18 = .ok (.iconst 0, 1) := by decide +kernel
theorem dX5_split_19 : decode cX5_split 19 = .ok (.invokevirtual 58, 3) := by decide +kernel
theorem dX5_split_22 : decode cX5_split 22 = .ok (.iconst 1, 1) := by decide +kernel
theorem dX5_split_23 : decode cX5_split 23 = .ok (.isub, 1) := by decide +kernel
theorem dX5_split_24 : decode cX5_split 24 = .ok (.sipush 32003, 3) := by decide +kernel
theorem dX5_split_27 : decode cX5_split 27 = .ok (.invokestatic 62, 3) := by decide +kernel
theorem dX5_split_30 : decode cX5_split 30 = .ok (.invokevirtual 68, 3) := by decide +kernel
theorem dX5_split_33 : decode cX5_split 33 = .ok (.aload_n 0, 1) := by decide +kernel
theorem dX5_split_34 : decode cX5_split 34 = .ok (.getfield 40, 3) := by decide +kernel
theorem dX5_split_37 : decode cX5_split 37 = .ok (.aload_n 0, 1) := by decide +kernel
theorem dX5_split_38 : decode cX5_split 38 = .ok (.getfield 28, 3) := by decide +kernel
theorem dX5_split_41 : decode cX5_split 41 = .ok (.aload_n 1, 1) := by decide +kernel
theorem dX5_split_42 : decode cX5_split 42 = .ok (.invokevirtual 76, 3) := by decide +kernel
theorem dX5_split_45 : decode cX5_split 45 = .ok (.aload_n 0, 1) := by decide +kernel
theorem dX5_split_46 : decode cX5_split 46 = .ok (.getfield 28, 3) := by decide +kernel
theorem dX5_split_49 : decode cX5_split 49 = .ok (.getfield 51, 3) := by decide +kernel
theorem dX5_split_52 : decode cX5_split 52 = .ok (.ifCond .le 64, 3) := by decide +kernel
theorem dX5_split_55 : decode cX5_split 55 = .ok (.aload_n 0, 1) := by decide +kernel
theorem dX5_split_56 : decode cX5_split 56 = .ok (.getfield 28, 3) := by decide +kernel
theorem dX5_split_59 : decode cX5_split 59 = .ok (.getfield 51, 3) := by decide +kernel
theorem dX5_split_62 : decode cX5_split 62 = .ok (.aload_n 1, 1) := by decide +kernel
theorem dX5_split_63 : decode cX5_split 63 = .ok (.getfield 51, 3) := by decide +kernel
theorem dX5_split_66 : decode cX5_split 66 = .ok (.if_icmp .ge 50, 3) := by decide +kernel
theorem dX5_split_69 : decode cX5_split 69 = .ok (.aload_n 0, 1) := by decide +kernel
theorem dX5_split_70 : decode cX5_split 70 = .ok (.getfield 48, 3) := by decide +kernel
theorem dX5_split_73 : decode cX5_split 73 = .ok (.iconst 4, 1) := by decide +kernel
theorem dX5_split_74 : decode cX5_split 74 = .ok (.if_icmp .ge 42, 3) := by decide +kernel
theorem dX5_split_77 : decode cX5_split 77 = .ok (.aload_n 0, 1) := by decide +kernel
theorem dX5_split_78 : decode cX5_split 78 = .ok (.getfield 17, 3) := by decide +kernel
theorem dX5_split_81 : decode cX5_split 81 = .ok (.aload_n 0, 1) := by decide +kernel
theorem dX5_split_82 : decode cX5_split 82 = .ok (.getfield 48, 3) := by decide +kernel
theorem dX5_split_85 : decode cX5_split 85 = .ok (.aaload, 1) := by decide +kernel
theorem dX5_split_86 : decode cX5_split 86 = .ok (.aload_n 0, 1) := by decide +kernel
theorem dX5_split_87 : decode cX5_split 87 = .ok (.getfield 28, 3) := by decide +kernel
theorem dX5_split_90 : decode cX5_split 90 = .ok (.invokevirtual 72, 3) := by decide +kernel
theorem dX5_split_93 : decode cX5_split 93 = .ok (.aload_n 0, 1) := by decide +kernel
theorem dX5_split_94 : decode cX5_split 94 = .ok (.dup, 1) := by decide +kernel
theorem dX5_split_95 : decode cX5_split 95 = .ok (.getfield 48, 3) := by decide +kernel
theorem dX5_split_98 : decode cX5_split 98 = .ok (.iconst 1, 1) := by decide +kernel
theorem dX5_split_99 : decode cX5_split 99 = .ok (.iadd, 1) := by decide +kernel
theorem dX5_split_100 : decode cX5_split 100 = .ok (.putfield 48, 3) := by decide +kernel
theorem dX5_split_103 : decode cX5_split 103 = .ok (.aload_n 0, 1) := by decide +kernel
theorem dX5_split_104 : decode cX5_split 104 = .ok (.getfield 40, 3) := by decide +kernel
theorem dX5_split_107 : decode cX5_split 107 = .ok (.aload_n 1, 1) := by decide +kernel
theorem dX5_split_108 : decode cX5_split 108 = .ok (.aload_n 1, 1) := by decide +kernel
theorem dX5_split_109 : decode cX5_split 109 = .ok (.aload_n 0, 1) := by decide +kernel
theorem dX5_split_110 : decode cX5_split 110 = .ok (.getfield 28, 3) := by decide +kernel
theorem dX5_split_113 : decode cX5_split 113 = .ok (.invokevirtual 90, 3) := by decide +kernel
theorem dX5_split_116 : decode cX5_split 116 = .ok (.return_, 1) := by decide +kernel
set_option maxRecDepth 20000 in
theorem ggX5_raise_X4_setNumber : GoodIn wsX5_raise wsX4_setNumber := goodIn_r _ [9, 10, 11, 12, 13, 14, 15, 16, 17, 18, 8, 19, 52, 53] (by decide +kernel) (by decide +kernel)
set_option maxRecDepth 20000 in
theorem gX5_raise_X4_setNumber : GoodIn wsX5_raise (wsV RX5 68 RX4 yX4_setNumber wsX4_setNumber) := goodIn_app (goodIn_of _ (by decide +kernel)) ggX5_raise_X4_setNumber
set_option maxRecDepth 20000 in
theorem ggX5_raise_X4_clear : GoodIn wsX5_raise wsX4_clear := goodIn_r _ [23, 11, 10, 52, 53] (by decide +kernel) (by decide +kernel)
set_option maxRecDepth 20000 in
theorem gX5_raise_X4_clear : GoodIn wsX5_raise (wsV RX5 94 RX4 yX4_clear wsX4_clear) := goodIn_app (goodIn_of _ (by decide +kernel)) ggX5_raise_X4_clear
set_option maxRecDepth 20000 in
theorem ggX5_raise_X4_addProduct : GoodIn wsX5_raise wsX4_addProduct := goodIn_r _ [27, 11, 10, 28, 29, 14, 30, 12, 13, 15, 16, 17, 18, 8, 19, 52, 53] (by decide +kernel) (by decide +kernel)
set_option maxRecDepth 20000 in
theorem gX5_raise_X4_addProduct : GoodIn wsX5_raise (wsV RX5 97 RX4 yX4_addProduct wsX4_addProduct) := goodIn_app (goodIn_of _ (by decide +kernel)) ggX5_raise_X4_addProduct
set_option maxRecDepth 20000 in
theorem ggX5_raise_X4_divideBy : GoodIn wsX5_raise wsX4_divideBy := goodIn_r _ [34, 11, 10, 35, 21, 22, 8, 23, 36, 37, 38, 16, 17, 18, 19, 52, 53] (by decide +kernel) (by decide +kernel)
set_option maxRecDepth 20000 in
theorem gX5_raise_X4_divideBy : GoodIn wsX5_raise (wsV RX5 101 RX4 yX4_divideBy wsX4_divideBy) := goodIn_app (goodIn_of _ (by decide +kernel)) ggX5_raise_X4_divideBy
set_option maxRecDepth 20000 in
theorem ggX5_raise_X4_copyFrom : GoodIn wsX5_raise wsX4_copyFrom := goodIn_r _ [42, 11, 10, 28, 29, 14, 30, 35, 21, 22, 8, 23, 16, 17, 18, 19, 52, 53] (by decide +kernel) (by decide +kernel)
set_option maxRecDepth 20000 in
theorem gX5_raise_X4_copyFrom : GoodIn wsX5_raise (wsV RX5 72 RX4 yX4_copyFrom wsX4_copyFrom) := goodIn_app (goodIn_of _ (by decide +kernel)) ggX5_raise_X4_copyFrom
theorem dX5_raise_0 : decode cX5_raise 0 = .ok (.aload_n 0, 1) := by decide +kernel
theorem dX5_raise_1 : decode cX5_raise 1 = .ok (.getfield 24, 3) := by decide +kernel
theorem dX5_raise_4 : decode cX5_raise 4 = .ok (.iconst 0, 1) := by decide +kernel
theorem dX5_raise_5 : decode cX5_raise 5 = .ok (.iload_n 1, 1) := by decide +kernel
theorem dX5_raise_6 : decode cX5_raise 6 = .ok (.invokevirtual 68, 3) := by decide +kernel
theorem dX5_raise_9 : decode cX5_raise 9 = .ok (.aload_n 0, 1) := by decide +kernel
theorem dX5_raise_10 : decode cX5_raise 10 = .ok (.getfield 24, 3) := by decide +kernel
theorem dX5_raise_13 : decode cX5_raise 13 = .ok (.iconst 1, 1) := by decide +kernel
theorem dX5_raise_14 : decode cX5_raise 14 = .ok (.iconst 1, 1) := by decide +kernel
theorem dX5_raise_15 : decode cX5_raise 15 = .ok (.invokevirtual 68, 3) := by decide +kernel
theorem dX5_raise_18 : decode cX5_raise 18 = .ok (.aload_n 0, 1) := by decide +kernel
theorem dX5_raise_19 : decode cX5_raise 19 = .ok (.getfield 28, 3) := by decide +kernel
theorem dX5_raise_22 : decode cX5_raise 22 = .ok (.invokevirtual 94, 3) := by decide +kernel
theorem dX5_raise_25 : decode cX5_raise 25 = .ok (.aload_n 0, 1) := by decide +kernel
theorem dX5_raise_26 : decode cX5_raise 26 = .ok (.getfield 28, 3) := by decide +kernel
theorem dX5_raise_29 : decode cX5_raise 29 = .ok (.iconst 0, 1) := by decide +kernel
theorem dX5_raise_30 : decode cX5_raise 30 = .ok (.iconst 1, 1) := by decide +kernel
theorem dX5_raise_31 : decode cX5_raise 31 = .ok (.invokevirtual 68, 3) := by decide +kernel
theorem dX5_raise_34 : decode cX5_raise 34 = .ok (.bipush 14, 2) := by decide +kernel
theorem dX5_raise_36 : decode cX5_raise 36 = .ok (.istore 4, 2) := by decide +kernel
theorem dX5_raise_38 : decode cX5_raise 38 = .ok (.iload 4, 2) := by decide +kernel
theorem dX5_raise_40 : decode cX5_raise 40 = .ok (.ifCond .lt 103, 3) := by decide +kernel
theorem dX5_raise_43 : decode cX5_raise 43 = .ok (.aload_n 0, 1) := by decide +kernel
theorem dX5_raise_44 : decode cX5_raise 44 = .ok (.getfield 31, 3) := by decide +kernel
theorem dX5_raise_47 : decode cX5_raise 47 = .ok (.invokevirtual 94, 3) := by decide +kernel
theorem dX5_raise_50 : decode cX5_raise 50 = .ok (.aload_n 0, 1) := by decide +kernel
theorem dX5_raise_51 : decode cX5_raise 51 = .ok (.getfield 31, 3) := by decide +kernel
theorem dX5_raise_54 : decode cX5_raise 54 = .ok (.iconst 1, 1) := by decide +kernel
theorem dX5_raise_55 : decode cX5_raise 55 = .ok (.aload_n 0, 1) := by decide +kernel
theorem dX5_raise_56 : decode cX5_raise 56 = .ok (.getfield 28, 3) := by decide +kernel
theorem dX5_raise_59 : decode cX5_raise 59 = .ok (.aload_n 0, 1) := by decide +kernel
theorem dX5_raise_60 : decode cX5_raise 60 = .ok (.getfield 28, 3) := by decide +kernel
theorem dX5_raise_63 : decode cX5_raise 63 = .ok (.invokevirtual 97, 3) := by decide +kernel
theorem dX5_raise_66 : decode cX5_raise 66 = .ok (.aload_n 0, 1) := by decide +kernel
theorem dX5_raise_67 : decode cX5_raise 67 = .ok (.getfield 31, 3) := by decide +kernel
theorem dX5_raise_70 : decode cX5_raise 70 = .ok (.aload_n 3, 1) := by decide +kernel
theorem dX5_raise_71 : decode cX5_raise 71 = .ok (.aload_n 0, 1) := by decide +kernel
theorem dX5_raise_72 : decode cX5_raise 72 = .ok (.getfield 34, 3) := by decide +kernel
theorem dX5_raise_75 : decode cX5_raise 75 = .ok (.invokevirtual 101, 3) := by decide +kernel
theorem dX5_raise_78 : decode cX5_raise 78 = .ok (.aload_n 0, 1) := by decide +kernel
theorem dX5_raise_79 : decode cX5_raise 79 = .ok (.getfield 28, 3) := by decide +kernel
theorem dX5_raise_82 : decode cX5_raise 82 = .ok (.invokevirtual 94, 3) := by decide +kernel
theorem dX5_raise_85 : decode cX5_raise 85 = .ok (.iload_n 2, 1) := by decide +kernel
theorem dX5_raise_86 : decode cX5_raise 86 = .ok (.iload 4, 2) := by decide +kernel
theorem dX5_raise_88 : decode cX5_raise 88 = .ok (.ishr, 1) := by decide +kernel
theorem dX5_raise_89 : decode cX5_raise 89 = .ok (.iconst 1, 1) := by decide +kernel
theorem dX5_raise_90 : decode cX5_raise 90 = .ok (.iand, 1) := by decide +kernel
theorem dX5_raise_91 : decode cX5_raise 91 = .ok (.iconst 1, 1) := by decide +kernel
theorem dX5_raise_92 : decode cX5_raise 92 = .ok (.if_icmp .ne 34, 3) := by decide +kernel
theorem dX5_raise_95 : decode cX5_raise 95 = .ok (.aload_n 0, 1) := by decide +kernel
theorem dX5_raise_96 : decode cX5_raise 96 = .ok (.getfield 28, 3) := by decide +kernel
theorem dX5_raise_99 : decode cX5_raise 99 = .ok (.iconst 1, 1) := by decide +kernel
theorem dX5_raise_100 : decode cX5_raise 100 = .ok (.aload_n 0, 1) := by decide +kernel
theorem dX5_raise_101 : decode cX5_raise 101 = .ok (.getfield 31, 3) := by decide +kernel
theorem dX5_raise_104 : decode cX5_raise 104 = .ok (.aload_n 0, 1) := by decide +kernel
theorem dX5_raise_105 : decode cX5_raise 105 = .ok (.getfield 24, 3) := by decide +kernel
theorem dX5_raise_108 : decode cX5_raise 108 = .ok (.invokevirtual 97, 3) := by decide +kernel
theorem dX5_raise_111 : decode cX5_raise 111 = .ok (.aload_n 0, 1) := by decide +kernel
theorem dX5_raise_112 : decode cX5_raise 112 = .ok (.getfield 28, 3) := by decide +kernel
theorem dX5_raise_115 : decode cX5_raise 115 = .ok (.aload_n 3, 1) := by decide +kernel
theorem dX5_raise_116 : decode cX5_raise 116 = .ok (.aload_n 0, 1) := by decide +kernel
theorem dX5_raise_117 : decode cX5_raise 117 = .ok (.getfield 34, 3) := by decide +kernel
theorem dX5_raise_120 : decode cX5_raise 120 = .ok (.invokevirtual 101, 3) := by decide +kernel
theorem dX5_raise_123 : decode cX5_raise 123 = .ok (.goto 14, 3) := by decide +kernel
theorem dX5_raise_126 : decode cX5_raise 126 = .ok (.aload_n 0, 1) := by decide +kernel
theorem dX5_raise_127 : decode cX5_raise 127 = .ok (.getfield 28, 3) := by decide +kernel
theorem dX5_raise_130 : decode cX5_raise 130 = .ok (.aload_n 0, 1) := by decide +kernel
theorem dX5_raise_131 : decode cX5_raise 131 = .ok (.getfield 31, 3) := by decide +kernel
theorem dX5_raise_134 : decode cX5_raise 134 = .ok (.invokevirtual 72, 3) := by decide +kernel
theorem dX5_raise_137 : decode cX5_raise 137 = .ok (.iinc 4 (-1), 3) := by decide +kernel
theorem dX5_raise_140 : decode cX5_raise 140 = .ok (.goto (-102), 3) := by decide +kernel
theorem dX5_raise_143 : decode cX5_raise 143 = .ok (.return_, 1) := by decide +kernel
theorem dX5_insert_0 : decode cX5_insert 0 = .ok (.aload_n 0, 1) := by decide +kernel
theorem dX5_insert_1 : decode cX5_insert 1 = .ok (.getfield 44, 3) := by decide +kernel
theorem dX5_insert_4 : decode cX5_insert 4 = .ok (.iconst 4, 1) := by decide +kernel
theorem dX5_insert_5 : decode cX5_insert 5 = .ok (.if_icmp .lt 4, 3) := by decide +kernel
theorem dX5_insert_8 : decode cX5_insert 8 = .ok (.return_, 1) := by decide +kernel
theorem dX5_insert_9 : decode cX5_insert 9 = .ok (.aload_n 0, 1) := by decide +kernel
theorem dX5_insert_10 : decode cX5_insert 10 = .ok (.getfield 44, 3) := by decide +kernel
theorem dX5_insert_13 : decode cX5_insert 13 = .ok (.istore_n 2, 1) := by decide +kernel
theorem dX5_insert_14 : decode cX5_insert 14 = .ok (.iload_n 2, 1) := by decide +kernel
theorem dX5_insert_15 : decode cX5_insert 15 = .ok (.ifCond .le 35, 3) := by decide +kernel
theorem dX5_insert_18 : decode cX5_insert 18 = .ok (.aload_n 0, 1) := by decide +kernel
theorem dX5_insert_19 : decode cX5_insert 19 = .ok (.getfield 9, 3) := by decide +kernel
theorem dX5_insert_22 : decode cX5_insert 22 = .ok (.iload_n 2, 1) := by decide +kernel
theorem dX5_insert_23 : decode cX5_insert 23 = .ok (.iconst 1, 1) := by decide +kernel
theorem dX5_insert_24 : decode cX5_insert 24 = .ok (.isub, 1) := by decide +kernel
theorem dX5_insert_25 : decode cX5_insert 25 = .ok (.iaload, 1) := by decide +kernel
theorem dX5_insert_26 : decode cX5_insert 26 = .ok (.iload_n 1, 1) := by decide +kernel
theorem dX5_insert_27 : decode cX5_insert 27 = .ok (.if_icmp .le 23, 3) := by decide +kernel
theorem dX5_insert_30 : decode cX5_insert 30 = .ok (.aload_n 0, 1) := by decide +kernel
theorem dX5_insert_31 : decode cX5_insert 31 = .ok (.getfield 9, 3) := by decide +kernel
theorem dX5_insert_34 : decode cX5_insert 34 = .ok (.iload_n 2, 1) := by decide +kernel
theorem dX5_insert_35 : decode cX5_insert 35 = .ok (.aload_n 0, 1) := by decide +kernel
theorem dX5_insert_36 : decode cX5_insert 36 = .ok (.getfield 9, 3) := by decide +kernel
theorem dX5_insert_39 : decode cX5_insert 39 = .ok (.iload_n 2, 1) := by decide +kernel
theorem dX5_insert_40 : decode cX5_insert 40 = .ok (.iconst 1, 1) := by decide +kernel
theorem dX5_insert_41 : decode cX5_insert 41 = .ok (.isub, 1) := by decide +kernel
theorem dX5_insert_42 : decode cX5_insert 42 = .ok (.iaload, 1) := by decide +kernel
theorem dX5_insert_43 : decode cX5_insert 43 = .ok (.iastore, 1) := by decide +kernel
theorem dX5_insert_44 : decode cX5_insert 44 = .ok (.iinc 2 (-1), 3) := by decide +kernel
theorem dX5_insert_47 : decode cX5_insert 47 = .ok (.goto (-33), 3) := by decide +kernel
theorem dX5_insert_50 : decode cX5_insert 50 = .ok (.aload_n 0, 1) := by decide +kernel
theorem dX5_insert_51 : decode cX5_insert 51 = .ok (.getfield 9, 3) := by decide +kernel
theorem dX5_insert_54 : decode cX5_insert 54 = .ok (.iload_n 2, 1) := by decide +kernel
theorem dX5_insert_55 : decode cX5_insert 55 = .ok (.iload_n 1, 1) := by decide +kernel
theorem dX5_insert_56 : decode cX5_insert 56 = .ok (.iastore, 1) := by decide +kernel
theorem dX5_insert_57 : decode cX5_insert 57 = .ok (.aload_n 0, 1) := by decide +kernel
theorem dX5_insert_58 : decode cX5_insert 58 = .ok (.dup, 1) := by decide +kernel
theorem dX5_insert_59 : decode cX5_insert 59 = .ok (.getfield 44, 3) := by decide +kernel
theorem dX5_insert_62 : decode cX5_insert 62 = .ok (.iconst 1, 1) := by decide +kernel
theorem dX5_insert_63 : decode cX5_insert 63 = .ok (.iadd, 1) := by decide +kernel
theorem dX5_insert_64 : decode cX5_insert 64 = .ok (.putfield 44, 3) := by decide +kernel
theorem dX5_insert_67 : decode cX5_insert 67 = .ok (.return_, 1) := by decide +kernel
set_option maxRecDepth 20000 in
theorem ggX6_init_X4_init : GoodIn wsX6_init wsX4_init := goodIn_r _ [10, 11, 2, 3, 12, 13, 14, 16, 17] (by decide +kernel) (by decide +kernel)
set_option maxRecDepth 20000 in
theorem gX6_init_X4_init : GoodIn wsX6_init (wsX4_init) := ggX6_init_X4_init
theorem dX6_init_0 : decode cX6_init 0 = .ok (.aload_n 0, 1) := by decide +kernel
theorem dX6_init_1 : decode cX6_init 1 = .ok (.invokespecial 3, 3) := by decide +kernel
theorem dX6_init_4 : decode cX6_init 4 = .ok (.aload_n 0, 1) := by decide +kernel
theorem dX6_init_5 : decode cX6_init 5 = .ok (.iconst 4, 1) := by decide +kernel
theorem dX6_init_6 : decode cX6_init 6 = .ok (.anewarray 9, 3) := by decide +kernel
theorem dX6_init_9 : decode cX6_init 9 = .ok (.putfield 11, 3) := by decide +kernel
theorem dX6_init_12 : decode cX6_init 12 = .ok (.iconst 0, 1) := by decide +kernel
theorem dX6_init_13 : decode cX6_init 13 = .ok (.istore_n 2, 1) := by decide +kernel
theorem dX6_init_14 : decode cX6_init 14 = .ok (.iload_n 2, 1) := by decide +kernel
theorem dX6_init_15 : decode cX6_init 15 = .ok (.iconst 4, 1) := by decide +kernel
theorem dX6_init_16 : decode cX6_init 16 = .ok (.if_icmp .ge 23, 3) := by decide +kernel
theorem dX6_init_19 : decode cX6_init 19 = .ok (.aload_n 0, 1) := by decide +kernel
theorem dX6_init_20 : decode cX6_init 20 = .ok (.getfield 11, 3) := by decide +kernel
theorem dX6_init_23 : decode cX6_init 23 = .ok (.iload_n 2, 1) := by decide +kernel
theorem dX6_init_24 : decode cX6_init 24 = .ok (.new 9, 3) := by decide +kernel
theorem dX6_init_27 : decode cX6_init 27 = .ok (.dup, 1) := by decide +kernel
theorem dX6_init_28 : decode cX6_init 28 = .ok (.iload_n 1, 1) := by decide +kernel
theorem dX6_init_29 : decode cX6_init 29 = .ok (.invokespecial 17, 3) := by decide +kernel
theorem dX6_init_32 : decode cX6_init 32 = .ok (.aastore, 1) := by decide +kernel
theorem dX6_init_33 : decode cX6_init 33 = .ok (.iinc 2 1, 3) := by decide +kernel
theorem dX6_init_36 : decode cX6_init 36 = .ok (.goto (-22), 3) := by decide +kernel
theorem dX6_init_39 : decode cX6_init 39 = .ok (.return_, 1) := by decide +kernel
set_option maxRecDepth 20000 in
theorem ggX6_clear_X4_clear : GoodIn wsX6_clear wsX4_clear := goodIn_r _ [6, 7, 8, 10, 11] (by decide +kernel) (by decide +kernel)
set_option maxRecDepth 20000 in
theorem gX6_clear_X4_clear : GoodIn wsX6_clear (wsV RX6 20 RX4 yX4_clear wsX4_clear) := goodIn_app (goodIn_of _ (by decide +kernel)) ggX6_clear_X4_clear
theorem dX6_clear_0 : decode cX6_clear 0 = .ok (.iconst 0, 1) := by decide +kernel
theorem dX6_clear_1 : decode cX6_clear 1 = .ok (.istore_n 1, 1) := by decide +kernel
theorem dX6_clear_2 : decode cX6_clear 2 = .ok (.iload_n 1, 1) := by decide +kernel
theorem dX6_clear_3 : decode cX6_clear 3 = .ok (.iconst 4, 1) := by decide +kernel
theorem dX6_clear_4 : decode cX6_clear 4 = .ok (.if_icmp .ge 18, 3) := by decide +kernel
theorem dX6_clear_7 : decode cX6_clear 7 = .ok (.aload_n 0, 1) := by decide +kernel
theorem dX6_clear_8 : decode cX6_clear 8 = .ok (.getfield 11, 3) := by decide +kernel
theorem dX6_clear_11 : decode cX6_clear 11 = .ok (.iload_n 1, 1) := by decide +kernel
theorem dX6_clear_12 : decode cX6_clear 12 = .ok (.aaload, 1) := by decide +kernel
theorem dX6_clear_13 : decode cX6_clear 13 = .ok (.invokevirtual 20, 3) := by decide +kernel
theorem dX6_clear_16 : decode cX6_clear 16 = .ok (.iinc 1 1, 3) := by decide +kernel
theorem dX6_clear_19 : decode cX6_clear 19 = .ok (.goto (-17), 3) := by decide +kernel
theorem dX6_clear_22 : decode cX6_clear 22 = .ok (.return_, 1) := by decide +kernel
set_option maxRecDepth 20000 in
theorem ggX6_copyFrom_X4_copyFrom : GoodIn wsX6_copyFrom wsX4_copyFrom := goodIn_r _ [6, 7, 8, 9, 10, 11, 12, 13, 14, 15, 5, 16, 17, 18, 19, 20, 22, 23] (by decide +kernel) (by decide +kernel)
set_option maxRecDepth 20000 in
theorem gX6_copyFrom_X4_copyFrom : GoodIn wsX6_copyFrom (wsV RX6 23 RX4 yX4_copyFrom wsX4_copyFrom) := goodIn_app (goodIn_of _ (by decide +kernel)) ggX6_copyFrom_X4_copyFrom
theorem dX6_copyFrom_0 : decode cX6_copyFrom 0 = .ok (.iconst 0, 1) := by decide +kernel
theorem dX6_copyFrom_1 : decode cX6_copyFrom 1 = .ok (.istore_n 2, 1) := by decide +kernel
theorem dX6_copyFrom_2 : decode cX6_copyFrom 2 = .ok (.iload_n 2, 1) := by decide +kernel
theorem dX6_copyFrom_3 : decode cX6_copyFrom 3 = .ok (.iconst 4, 1) := by decide +kernel
theorem dX6_copyFrom_4 : decode cX6_copyFrom 4 = .ok (.if_icmp .ge 24, 3) := by decide +kernel
theorem dX6_copyFrom_7 : decode cX6_copyFrom 7 = .ok (.aload_n 0, 1) := by decide +kernel
theorem dX6_copyFrom_8 : decode cX6_copyFrom 8 = .ok (.getfield 11, 3) := by decide +kernel
theorem dX6_copyFrom_11 : decode cX6_copyFrom 11 = .ok (.iload_n 2, 1) := by decide +kernel
theorem dX6_copyFrom_12 : decode cX6_copyFrom 12 = .ok (.aaload, 1) := by decide +kernel
theorem dX6_copyFrom_13 : decode cX6_copyFrom 13 = .ok (.aload_n 1, 1) := by decide +kernel
theorem dX6_copyFrom_14 : decode cX6_copyFrom 14 = .ok (.getfield 11, 3) := by decide +kernel
theorem dX6_copyFrom_17 : decode cX6_copyFrom 17 = .ok (.iload_n 2, 1) := by decide +kernel
theorem dX6_copyFrom_18 : decode cX6_copyFrom 18 = .ok (.aaload, 1) := by decide +kernel
theorem dX6_copyFrom_19 : decode cX6_copyFrom 19 = .ok (.invokevirtual 23, 3) := by decide +kernel
theorem dX6_copyFrom_22 : decode cX6_copyFrom 22 = .ok (.iinc 2 1, 3) := by decide +kernel
theorem dX6_copyFrom_25 : decode cX6_copyFrom 25 = .ok (.goto (-23), 3) := by decide +kernel
theorem dX6_copyFrom_28 : decode cX6_copyFrom 28 = .ok (.return_, 1) := by decide +kernel
set_option maxRecDepth 20000 in
theorem ggX6_lowerBy_X4_divideBy : GoodIn wsX6_lowerBy wsX4_divideBy := goodIn_r _ [6, 7, 8, 9, 10, 11, 5, 12, 13, 14, 15, 16, 17, 18, 19, 32, 33] (by decide +kernel) (by decide +kernel)
set_option maxRecDepth 20000 in
theorem gX6_lowerBy_X4_divideBy : GoodIn wsX6_lowerBy (wsV RX6 27 RX4 yX4_divideBy wsX4_divideBy) := goodIn_app (goodIn_of _ (by decide +kernel)) ggX6_lowerBy_X4_divideBy
set_option maxRecDepth 20000 in
theorem ggX6_lowerBy_X4_addProduct : GoodIn wsX6_lowerBy wsX4_addProduct := goodIn_r _ [23, 7, 8, 24, 25, 26, 27, 28, 29, 30, 16, 17, 18, 5, 19, 32, 33] (by decide +kernel) (by decide +kernel)
set_option maxRecDepth 20000 in
theorem gX6_lowerBy_X4_addProduct : GoodIn wsX6_lowerBy (wsV RX6 31 RX4 yX4_addProduct wsX4_addProduct) := goodIn_app (goodIn_of _ (by decide +kernel)) ggX6_lowerBy_X4_addProduct
theorem dX6_lowerBy_0 : decode cX6_lowerBy 0 = .ok (.aload_n 0, 1) := by decide +kernel
theorem dX6_lowerBy_1 : decode cX6_lowerBy 1 = .ok (.getfield 11, 3) := by decide +kernel
theorem dX6_lowerBy_4 : decode cX6_lowerBy 4 = .ok (.iload_n 2, 1) := by decide +kernel
theorem dX6_lowerBy_5 : decode cX6_lowerBy 5 = .ok (.aaload, 1) := by decide +kernel
theorem dX6_lowerBy_6 : decode cX6_lowerBy 6 = .ok (.aload_n 1, 1) := by decide +kernel
theorem dX6_lowerBy_7 : decode cX6_lowerBy 7 = .ok (.getfield 11, 3) := by decide +kernel
theorem dX6_lowerBy_10 : decode cX6_lowerBy 10 = .ok (.iload_n 2, 1) := by decide +kernel
theorem dX6_lowerBy_11 : decode cX6_lowerBy 11 = .ok (.aaload, 1) := by decide +kernel
theorem dX6_lowerBy_12 : decode cX6_lowerBy 12 = .ok (.aload_n 3, 1) := by decide +kernel
theorem dX6_lowerBy_13 : decode cX6_lowerBy 13 = .ok (.invokevirtual 27, 3) := by decide +kernel
theorem dX6_lowerBy_16 : decode cX6_lowerBy 16 = .ok (.iload_n 2, 1) := by decide +kernel
theorem dX6_lowerBy_17 : decode cX6_lowerBy 17 = .ok (.iconst 1, 1) := by decide +kernel
theorem dX6_lowerBy_18 : decode cX6_lowerBy 18 = .ok (.iadd, 1) := by decide +kernel
theorem dX6_lowerBy_19 : decode cX6_lowerBy 19 = .ok (.istore 4, 2) := by decide +kernel
theorem dX6_lowerBy_21 : decode cX6_lowerBy 21 = .ok (.iload 4, 2) := by decide +kernel
theorem dX6_lowerBy_23 : decode cX6_lowerBy 23 = .ok (.iconst 4, 1) := by decide +kernel
theorem dX6_lowerBy_24 : decode cX6_lowerBy 24 = .ok (.if_icmp .ge 30, 3) := by decide +kernel
theorem dX6_lowerBy_27 : decode cX6_lowerBy 27 = .ok (.aload_n 0, 1) := by decide +kernel
theorem dX6_lowerBy_28 : decode cX6_lowerBy 28 = .ok (.getfield 11, 3) := by decide +kernel
theorem dX6_lowerBy_31 : decode cX6_lowerBy 31 = .ok (.iload 4, 2) := by decide +kernel
theorem dX6_lowerBy_33 : decode cX6_lowerBy 33 = .ok (.aaload, 1) := by decide +kernel
theorem dX6_lowerBy_34 : decode cX6_lowerBy 34 = .ok (.sipush 32002, 3) := by decide +kernel
theorem dX6_lowerBy_37 : decode cX6_lowerBy 37 = .ok (.aload_n 3, 1) := by decide +kernel
theorem dX6_lowerBy_38 : decode cX6_lowerBy 38 = .ok (.aload_n 1, 1) := by decide +kernel
theorem dX6_lowerBy_39 : decode cX6_lowerBy 39 = .ok (.getfield 11, 3) := by decide +kernel
theorem dX6_lowerBy_42 : decode cX6_lowerBy 42 = .ok (.iload 4, 2) := by decide +kernel
theorem dX6_lowerBy_44 : decode cX6_lowerBy 44 = .ok (.aaload, 1) := by decide +kernel
theorem dX6_lowerBy_45 : decode cX6_lowerBy 45 = .ok (.invokevirtual 31, 3) := by decide +kernel
theorem dX6_lowerBy_48 : decode cX6_lowerBy 48 = .ok (.iinc 4 1, 3) := by decide +kernel
theorem dX6_lowerBy_51 : decode cX6_lowerBy 51 = .ok (.goto (-30), 3) := by decide +kernel
theorem dX6_lowerBy_54 : decode cX6_lowerBy 54 = .ok (.return_, 1) := by decide +kernel
set_option maxRecDepth 20000 in
theorem ggX6_makeMonicAt_X4_numberAt : GoodIn wsX6_makeMonicAt wsX4_numberAt := goodIn_r _ [6, 7, 8, 17, 18] (by decide +kernel) (by decide +kernel)
set_option maxRecDepth 20000 in
theorem gX6_makeMonicAt_X4_numberAt : GoodIn wsX6_makeMonicAt (wsV RX6 39 RX4 yX4_numberAt wsX4_numberAt) := goodIn_app (goodIn_of _ (by decide +kernel)) ggX6_makeMonicAt_X4_numberAt
set_option maxRecDepth 20000 in
theorem ggX6_makeMonicAt_X7_inverseOf : GoodIn wsX6_makeMonicAt wsX7_inverseOf := goodIn_r _ [11] (by decide +kernel) (by decide +kernel)
set_option maxRecDepth 20000 in
theorem gX6_makeMonicAt_X7_inverseOf_n43 : GoodIn wsX6_makeMonicAt (wsX7_inverseOf) := ggX6_makeMonicAt_X7_inverseOf
set_option maxRecDepth 20000 in
theorem ggX6_makeMonicAt_X4_multiply : GoodIn wsX6_makeMonicAt wsX4_multiply := goodIn_r _ [15, 7, 8, 17, 18] (by decide +kernel) (by decide +kernel)
set_option maxRecDepth 20000 in
theorem gX6_makeMonicAt_X4_multiply : GoodIn wsX6_makeMonicAt (wsV RX6 46 RX4 yX4_multiply wsX4_multiply) := goodIn_app (goodIn_of _ (by decide +kernel)) ggX6_makeMonicAt_X4_multiply
theorem dX6_makeMonicAt_0 : decode cX6_makeMonicAt 0 = .ok (.aload_n 0, 1) := by decide +kernel
theorem dX6_makeMonicAt_1 : decode cX6_makeMonicAt 1 = .ok (.getfield 11, 3) := by decide +kernel
theorem dX6_makeMonicAt_4 : decode cX6_makeMonicAt 4 = .ok (.iload_n 1, 1) := by decide +kernel
theorem dX6_makeMonicAt_5 : decode cX6_makeMonicAt 5 = .ok (.aaload, 1) := by decide +kernel
theorem dX6_makeMonicAt_6 : decode cX6_makeMonicAt 6 = .ok (.astore_n 2, 1) := by decide +kernel
theorem dX6_makeMonicAt_7 : decode cX6_makeMonicAt 7 = .ok (.aload_n 2, 1) := by decide +kernel
theorem dX6_makeMonicAt_8 : decode cX6_makeMonicAt 8 = .ok (.aload_n 2, 1) := by decide +kernel
theorem dX6_makeMonicAt_9 : decode cX6_makeMonicAt 9 = .ok (.getfield 35, 3) := by decide +kernel
theorem dX6_makeMonicAt_12 : decode cX6_makeMonicAt 12 = .ok (.invokevirtual 39, 3) := by decide +kernel
theorem dX6_makeMonicAt_15 : decode cX6_makeMonicAt 15 = .ok (.invokestatic 43, 3) := by decide +kernel
theorem dX6_makeMonicAt_18 : decode cX6_makeMonicAt 18 = .ok (.istore_n 3, 1) := by decide +kernel
theorem dX6_makeMonicAt_19 : decode cX6_makeMonicAt 19 = .ok (.iload_n 1, 1) := by decide +kernel
theorem dX6_makeMonicAt_20 : decode cX6_makeMonicAt 20 = .ok (.istore 4, 2) := by decide +kernel
theorem dX6_makeMonicAt_22 : decode cX6_makeMonicAt 22 = .ok (.iload 4, 2) := by decide +kernel
theorem dX6_makeMonicAt_24 : decode cX6_makeMonicAt 24 = .ok (.iconst 4, 1) := by decide +kernel
theorem dX6_makeMonicAt_25 : decode cX6_makeMonicAt 25 = .ok (.if_icmp .ge 20, 3) := by decide +kernel
theorem dX6_makeMonicAt_28 : decode cX6_makeMonicAt 28 = .ok (.aload_n 0, 1) := by decide +kernel
theorem dX6_makeMonicAt_29 : decode cX6_makeMonicAt 29 = .ok (.getfield 11, 3) := by decide +kernel
theorem dX6_makeMonicAt_32 : decode cX6_makeMonicAt 32 = .ok (.iload 4, 2) := by decide +kernel
theorem dX6_makeMonicAt_34 : decode cX6_makeMonicAt 34 = .ok (.aaload, 1) := by decide +kernel
theorem dX6_makeMonicAt_35 : decode cX6_makeMonicAt 35 = .ok (.iload_n 3, 1) := by decide +kernel
theorem dX6_makeMonicAt_36 : decode cX6_makeMonicAt 36 = .ok (.invokevirtual 46, 3) := by decide +kernel
theorem dX6_makeMonicAt_39 : decode cX6_makeMonicAt 39 = .ok (.iinc 4 1, 3) := by decide +kernel
theorem dX6_makeMonicAt_42 : decode cX6_makeMonicAt 42 = .ok (.goto (-20), 3) := by decide +kernel
theorem dX6_makeMonicAt_45 : decode cX6_makeMonicAt 45 = .ok (.return_, 1) := by decide +kernel
set_option maxRecDepth 20000 in
theorem ggX7_init_X2_init : GoodIn wsX7_init wsX2_init := goodIn_r _ [35, 36, 2, 3, 37, 38, 39, 40, 41, 42, 43, 44, 45, 46, 30, 31, 47, 48, 49, 50, 51, 52, 53, 111, 150, 148, 149] (by decide +kernel) (by decide +kernel)
set_option maxRecDepth 20000 in
theorem gX7_init_X2_init : GoodIn wsX7_init (wsX2_init) := ggX7_init_X2_init
set_option maxRecDepth 20000 in
theorem ggX7_init_X3_init : GoodIn wsX7_init wsX3_init := goodIn_r _ [56, 57, 2, 3, 58, 59, 30, 31, 60, 61, 62, 26, 27, 63, 64, 65, 48, 49, 50, 51, 52, 53, 66, 67, 68, 69, 70, 71, 72, 73, 74, 75, 76, 77, 78, 79, 80, 81, 127, 128, 129, 130, 131, 148, 149, 145, 146, 147] (by decide +kernel) (by decide +kernel)
set_option maxRecDepth 20000 in
theorem gX7_init_X3_init : GoodIn wsX7_init (wsX3_init) := ggX7_init_X3_init
set_option maxRecDepth 20000 in
theorem ggX7_init_X5_init : GoodIn wsX7_init wsX5_init := goodIn_r _ [84, 85, 2, 3, 51, 86, 87, 88, 30, 31, 89, 90, 91, 92, 93, 26, 27, 94, 95, 48, 49, 50, 52, 53, 96, 74, 75, 76, 77, 78, 79, 80, 81, 132, 133, 134, 135, 136, 137, 138, 139, 140, 148, 149, 145, 146, 147] (by decide +kernel) (by decide +kernel)
set_option maxRecDepth 20000 in
theorem gX7_init_X5_init : GoodIn wsX7_init (wsX5_init) := ggX7_init_X5_init
set_option maxRecDepth 20000 in
theorem ggX7_init_X1_init : GoodIn wsX7_init wsX1_init := goodIn_r _ [99, 100, 2, 3, 101, 102, 39, 40, 23, 103, 104, 30, 31, 105, 106, 107, 42, 43, 44, 45, 46, 47, 48, 49, 50, 51, 52, 53, 108, 141, 142, 143, 144, 150, 148, 149] (by decide +kernel) (by decide +kernel)
set_option maxRecDepth 20000 in
theorem gX7_init_X1_init : GoodIn wsX7_init (wsX1_init) := ggX7_init_X1_init
set_option maxRecDepth 20000 in
theorem ggX7_init_X0_init : GoodIn wsX7_init wsX0_init := goodIn_r _ [75, 76, 2, 3, 77, 30, 31, 78, 79, 80, 81, 48, 49, 50, 51, 52, 53, 148, 149, 145, 146, 147] (by decide +kernel) (by decide +kernel)
set_option maxRecDepth 20000 in
theorem gX7_init_X0_init : GoodIn wsX7_init (wsX0_init) := ggX7_init_X0_init
set_option maxRecDepth 20000 in
theorem ggX7_init_X4_init : GoodIn wsX7_init wsX4_init := goodIn_r _ [49, 50, 2, 3, 51, 52, 53, 148, 149] (by decide +kernel) (by decide +kernel)
set_option maxRecDepth 20000 in
theorem gX7_init_X4_init : GoodIn wsX7_init (wsX4_init) := ggX7_init_X4_init
theorem dX7_init_0 : decode cX7_init 0 = .ok (.aload_n 0, 1) := by decide +kernel
theorem dX7_init_1 : decode cX7_init 1 = .ok (.invokespecial 3, 3) := by decide +kernel
theorem dX7_init_4 : decode cX7_init 4 = .ok (.aload_n 0, 1) := by decide +kernel
theorem dX7_init_5 : decode cX7_init 5 = .ok (.new 9, 3) := by decide +kernel
theorem dX7_init_8 : decode cX7_init 8 = .ok (.dup, 1) := by decide +kernel
theorem dX7_init_9 : decode cX7_init 9 = .ok (.iconst 4, 1) := by decide +kernel
theorem dX7_init_10 : decode cX7_init 10 = .ok (.invokespecial 11, 3) := by decide +kernel
theorem dX7_init_13 : decode cX7_init 13 = .ok (.putfield 14, 3) := by decide +kernel
theorem dX7_init_16 : decode cX7_init 16 = .ok (.aload_n 0, 1) := by decide +kernel
theorem dX7_init_17 : decode cX7_init 17 = .ok (.new 18, 3) := by decide +kernel
theorem dX7_init_20 : decode cX7_init 20 = .ok (.dup, 1) := by decide +kernel
theorem dX7_init_21 : decode cX7_init 21 = .ok (.invokespecial 20, 3) := by decide +kernel
theorem dX7_init_24 : decode cX7_init 24 = .ok (.putfield 21, 3) := by decide +kernel
theorem dX7_init_27 : decode cX7_init 27 = .ok (.aload_n 0, 1) := by decide +kernel
theorem dX7_init_28 : decode cX7_init 28 = .ok (.new 9, 3) := by decide +kernel
theorem dX7_init_31 : decode cX7_init 31 = .ok (.dup, 1) := by decide +kernel
theorem dX7_init_32 : decode cX7_init 32 = .ok (.iconst 2, 1) := by decide +kernel
theorem dX7_init_33 : decode cX7_init 33 = .ok (.invokespecial 11, 3) := by decide +kernel
theorem dX7_init_36 : decode cX7_init 36 = .ok (.putfield 25, 3) := by decide +kernel
theorem dX7_init_39 : decode cX7_init 39 = .ok (.aload_n 0, 1) := by decide +kernel
theorem dX7_init_40 : decode cX7_init 40 = .ok (.new 18, 3) := by decide +kernel
theorem dX7_init_43 : decode cX7_init 43 = .ok (.dup, 1) := by decide +kernel
theorem dX7_init_44 : decode cX7_init 44 = .ok (.invokespecial 20, 3) := by decide +kernel
theorem dX7_init_47 : decode cX7_init 47 = .ok (.putfield 28, 3) := by decide +kernel
theorem dX7_init_50 : decode cX7_init 50 = .ok (.aload_n 0, 1) := by decide +kernel
theorem dX7_init_51 : decode cX7_init 51 = .ok (.new 31, 3) := by decide +kernel
theorem dX7_init_54 : decode cX7_init 54 = .ok (.dup, 1) := by decide +kernel
theorem dX7_init_55 : decode cX7_init 55 = .ok (.invokespecial 33, 3) := by decide +kernel
theorem dX7_init_58 : decode cX7_init 58 = .ok (.putfield 34, 3) := by decide +kernel
theorem dX7_init_61 : decode cX7_init 61 = .ok (.aload_n 0, 1) := by decide +kernel
theorem dX7_init_62 : decode cX7_init 62 = .ok (.new 38, 3) := by decide +kernel
theorem dX7_init_65 : decode cX7_init 65 = .ok (.dup, 1) := by decide +kernel
theorem dX7_init_66 : decode cX7_init 66 = .ok (.invokespecial 40, 3) := by decide +kernel
theorem dX7_init_69 : decode cX7_init 69 = .ok (.putfield 41, 3) := by decide +kernel
theorem dX7_init_72 : decode cX7_init 72 = .ok (.aload_n 0, 1) := by decide +kernel
theorem dX7_init_73 : decode cX7_init 73 = .ok (.iconst 3, 1) := by decide +kernel
theorem dX7_init_74 : decode cX7_init 74 = .ok (.anewarray 9, 3) := by decide +kernel
theorem dX7_init_77 : decode cX7_init 77 = .ok (.putfield 45, 3) := by decide +kernel
theorem dX7_init_80 : decode cX7_init 80 = .ok (.iconst 0, 1) := by decide +kernel
theorem dX7_init_81 : decode cX7_init 81 = .ok (.istore_n 1, 1) := by decide +kernel
theorem dX7_init_82 : decode cX7_init 82 = .ok (.iload_n 1, 1) := by decide +kernel
theorem dX7_init_83 : decode cX7_init 83 = .ok (.iconst 3, 1) := by decide +kernel
theorem dX7_init_84 : decode cX7_init 84 = .ok (.if_icmp .ge 24, 3) := by decide +kernel
theorem dX7_init_87 : decode cX7_init 87 = .ok (.aload_n 0, 1) := by decide +kernel
theorem dX7_init_88 : decode cX7_init 88 = .ok (.getfield 45, 3) := by decide +kernel
theorem dX7_init_91 : decode cX7_init 91 = .ok (.iload_n 1, 1) := by decide +kernel
theorem dX7_init_92 : decode cX7_init 92 = .ok (.new 9, 3) := by decide +kernel
theorem dX7_init_95 : decode cX7_init 95 = .ok (.dup, 1) := by decide +kernel
theorem dX7_init_96 : decode cX7_init 96 = .ok (.bipush 13, 2) := by decide +kernel
theorem dX7_init_98 : decode cX7_init 98 = .ok (.invokespecial 11, 3) := by decide +kernel
theorem dX7_init_101 : decode cX7_init 101 = .ok (.aastore, 1) := by decide +kernel
theorem dX7_init_102 : decode cX7_init 102 = .ok (.iinc 1 1, 3) := by decide +kernel
theorem dX7_init_105 : decode cX7_init 105 = .ok (.goto (-23), 3) := by decide +kernel
theorem dX7_init_108 : decode cX7_init 108 = .ok (.aload_n 0, 1) := by decide +kernel
theorem dX7_init_109 : decode cX7_init 109 = .ok (.iconst 3, 1) := by decide +kernel
theorem dX7_init_110 : decode cX7_init 110 = .ok (.newarray .boolean, 2) := by decide +kernel
theorem dX7_init_112 : decode cX7_init 112 = .ok (.putfield 49, 3) := by decide +kernel
theorem dX7_init_115 : decode cX7_init 115 = .ok (.aload_n 0, 1) := by decide +kernel
theorem dX7_init_116 : decode cX7_init 116 = .ok (.new 53, 3) := by decide +kernel
theorem dX7_init_119 : decode cX7_init 119 = .ok (.dup, 1) := by decide +kernel
theorem dX7_init_120 : decode cX7_init 120 = .ok (.invokespecial 55, 3) := by decide +kernel
theorem dX7_init_123 : decode cX7_init 123 = .ok (.putfield 56, 3) := by decide +kernel
theorem dX7_init_126 : decode cX7_init 126 = .ok (.aload_n 0, 1) := by decide +kernel
theorem dX7_init_127 : decode cX7_init 127 = .ok (.new 60, 3) := by decide +kernel
theorem dX7_init_130 : decode cX7_init 130 = .ok (.dup, 1) := by decide +kernel
theorem dX7_init_131 : decode cX7_init 131 = .ok (.iconst 2, 1) := by decide +kernel
theorem dX7_init_132 : decode cX7_init 132 = .ok (.invokespecial 62, 3) := by decide +kernel
theorem dX7_init_135 : decode cX7_init 135 = .ok (.putfield 63, 3) := by decide +kernel
theorem dX7_init_138 : decode cX7_init 138 = .ok (.return_, 1) := by decide +kernel
set_option maxRecDepth 20000 in
theorem ggX7_size_X2_clear : GoodIn wsX7_size wsX2_clear := goodIn_r _ [13, 14, 15, 16, 17, 18, 19, 20, 21, 22, 23, 24, 25, 26, 27, 62, 63, 64, 65] (by decide +kernel) (by decide +kernel)
set_option maxRecDepth 20000 in
theorem gX7_size_X2_clear : GoodIn wsX7_size (wsV RX7 86 RX2 yX2_clear wsX2_clear) := goodIn_app (goodIn_of _ (by decide +kernel)) ggX7_size_X2_clear
set_option maxRecDepth 20000 in
theorem ggX7_size_X7_forgetEntries : GoodIn wsX7_size wsX7_forgetEntries := goodIn_r _ [32, 33, 34, 47, 48, 49, 50, 51, 52, 53, 54, 55, 56, 57, 58, 59, 60, 61] (by decide +kernel) (by decide +kernel)
set_option maxRecDepth 20000 in
theorem gX7_size_X7_forgetEntries : GoodIn wsX7_size (wsV RX7 89 RX7 yX7_forgetEntries wsX7_forgetEntries) := goodIn_app (goodIn_of _ (by decide +kernel)) ggX7_size_X7_forgetEntries
set_option maxRecDepth 20000 in
theorem ggX7_size_X7_forgetNumbers : GoodIn wsX7_size wsX7_forgetNumbers := goodIn_r _ [38, 39, 40, 47, 48, 49, 50, 51, 52, 53, 54, 55, 56, 57, 58, 59, 60, 61] (by decide +kernel) (by decide +kernel)
set_option maxRecDepth 20000 in
theorem gX7_size_X7_forgetNumbers : GoodIn wsX7_size (wsV RX7 92 RX7 yX7_forgetNumbers wsX7_forgetNumbers) := goodIn_app (goodIn_of _ (by decide +kernel)) ggX7_size_X7_forgetNumbers
theorem dX7_size_0 : decode cX7_size 0 = .ok (.iload_n 1, 1) := by decide +kernel
theorem dX7_size_1 : decode cX7_size 1 = .ok (.ifCond .lt 7, 3) := by decide +kernel
theorem dX7_size_4 : decode cX7_size 4 = .ok (.iload_n 2, 1) := by decide +kernel
theorem dX7_size_5 : decode cX7_size 5 = .ok (.ifCond .ge 13, 3) := by decide +kernel
theorem dX7_size_8 : decode cX7_size 8 = .ok (.new 67, 3) := by decide +kernel
theorem dX7_size_11 : decode cX7_size 11 = .ok (.dup, 1) := by decide +kernel
theorem dX7_size_12 : decode cX7_size 12 = .ok (.ldc 69, 2) := by decide +kernel
theorem dX7_size_14 : decode cX7_size 14 = .ok (.invokespecial 71, 3) := by decide +kernel
theorem dX7_size_17 : decode cX7_size 17 = .ok (.athrow, 1) := by decide +kernel
theorem dX7_size_18 : decode cX7_size 18 = .ok (.iload_n 1, 1) := by decide +kernel
theorem dX7_size_19 : decode cX7_size 19 = .ok (.iconst 4, 1) := by decide +kernel
theorem dX7_size_20 : decode cX7_size 20 = .ok (.if_icmp .gt 8, 3) := by decide +kernel
theorem dX7_size_23 : decode cX7_size 23 = .ok (.iload_n 2, 1) := by decide +kernel
theorem dX7_size_24 : decode cX7_size 24 = .ok (.iconst 4, 1) := by decide +kernel
theorem dX7_size_25 : decode cX7_size 25 = .ok (.if_icmp .le 13, 3) := by decide +kernel
theorem dX7_size_28 : decode cX7_size 28 = .ok (.new 74, 3) := by decide +kernel
theorem dX7_size_31 : decode cX7_size 31 = .ok (.dup, 1) := by decide +kernel
theorem dX7_size_32 : decode cX7_size 32 = .ok (.ldc 76, 2) := by decide +kernel
theorem dX7_size_34 : decode cX7_size 34 = .ok (.invokespecial 78, 3) := by decide +kernel
theorem dX7_size_37 : decode cX7_size 37 = .ok (.athrow, 1) := by decide +kernel
theorem dX7_size_38 : decode cX7_size 38 = .ok (.aload_n 0, 1) := by decide +kernel
theorem dX7_size_39 : decode cX7_size 39 = .ok (.iload_n 1, 1) := by decide +kernel
theorem dX7_size_40 : decode cX7_size 40 = .ok (.putfield 79, 3) := by decide +kernel
theorem dX7_size_43 : decode cX7_size 43 = .ok (.aload_n 0, 1) := by decide +kernel
theorem dX7_size_44 : decode cX7_size 44 = .ok (.iload_n 2, 1) := by decide +kernel
theorem dX7_size_45 : decode cX7_size 45 = .ok (.putfield 83, 3) := by decide +kernel
theorem dX7_size_48 : decode cX7_size 48 = .ok (.aload_n 0, 1) := by decide +kernel
theorem dX7_size_49 : decode cX7_size 49 = .ok (.getfield 14, 3) := by decide +kernel
theorem dX7_size_52 : decode cX7_size 52 = .ok (.invokevirtual 86, 3) := by decide +kernel
theorem dX7_size_55 : decode cX7_size 55 = .ok (.aload_n 0, 1) := by decide +kernel
theorem dX7_size_56 : decode cX7_size 56 = .ok (.invokevirtual 89, 3) := by decide +kernel
theorem dX7_size_59 : decode cX7_size 59 = .ok (.aload_n 0, 1) := by decide +kernel
theorem dX7_size_60 : decode cX7_size 60 = .ok (.invokevirtual 92, 3) := by decide +kernel
theorem dX7_size_63 : decode cX7_size 63 = .ok (.return_, 1) := by decide +kernel
set_option maxRecDepth 20000 in
theorem ggX7_put_X7_needEntry : GoodIn wsX7_put wsX7_needEntry := goodIn_r _ [6, 7, 8, 9, 10, 11, 12, 5, 13, 14, 15, 72, 73, 74, 75, 76, 77, 57, 58, 59, 60, 61, 62, 63, 64, 65, 66, 67, 68, 69, 70, 71] (by decide +kernel) (by decide +kernel)
set_option maxRecDepth 20000 in
theorem gX7_put_X7_needEntry : GoodIn wsX7_put (wsV RX7 95 RX7 yX7_needEntry wsX7_needEntry) := goodIn_app (goodIn_of _ (by decide +kernel)) ggX7_put_X7_needEntry
set_option maxRecDepth 20000 in
theorem ggX7_put_X2_cell : GoodIn wsX7_put wsX2_cell := goodIn_r _ [20, 21, 78, 79] (by decide +kernel) (by decide +kernel)
set_option maxRecDepth 20000 in
theorem gX7_put_X2_cell : GoodIn wsX7_put (wsV RX7 99 RX2 yX2_cell wsX2_cell) := goodIn_app (goodIn_of _ (by decide +kernel)) ggX7_put_X2_cell
set_option maxRecDepth 20000 in
theorem ggX7_put_J9_floorMod_7cf53 : GoodIn wsX7_put wsJ9_floorMod_7cf53 := goodIn_r _ [25] (by decide +kernel) (by decide +kernel)
set_option maxRecDepth 20000 in
theorem gX7_put_J9_floorMod_7cf53 : GoodIn wsX7_put (va_wsS RX7 103 yJ9_floorMod_7cf53 wsJ9_floorMod_7cf53) := goodIn_app (goodIn_of _ (by decide +kernel)) ggX7_put_J9_floorMod_7cf53
set_option maxRecDepth 20000 in
theorem ggX7_put_X4_numberAt : GoodIn wsX7_put wsX4_numberAt := goodIn_r _ [30, 31, 32, 80, 81] (by decide +kernel) (by decide +kernel)
set_option maxRecDepth 20000 in
theorem gX7_put_X4_numberAt : GoodIn wsX7_put (wsV RX7 109 RX4 yX4_numberAt wsX4_numberAt) := goodIn_app (goodIn_of _ (by decide +kernel)) ggX7_put_X4_numberAt
set_option maxRecDepth 20000 in
theorem ggX7_put_X4_setNumber : GoodIn wsX7_put wsX4_setNumber := goodIn_r _ [36, 32, 31, 37, 38, 39, 40, 41, 42, 43, 29, 44, 80, 81] (by decide +kernel) (by decide +kernel)
set_option maxRecDepth 20000 in
theorem gX7_put_X4_setNumber : GoodIn wsX7_put (wsV RX7 113 RX4 yX4_setNumber wsX4_setNumber) := goodIn_app (goodIn_of _ (by decide +kernel)) ggX7_put_X4_setNumber
set_option maxRecDepth 20000 in
theorem ggX7_put_X7_forgetEntries : GoodIn wsX7_put wsX7_forgetEntries := goodIn_r _ [48, 49, 50, 57, 58, 59, 60, 61, 62, 63, 64, 65, 66, 67, 68, 69, 70, 71] (by decide +kernel) (by decide +kernel)
set_option maxRecDepth 20000 in
theorem gX7_put_X7_forgetEntries : GoodIn wsX7_put (wsV RX7 89 RX7 yX7_forgetEntries wsX7_forgetEntries) := goodIn_app (goodIn_of _ (by decide +kernel)) ggX7_put_X7_forgetEntries
set_option maxRecDepth 20000 in
theorem ggX7_put_X7_forgetNumbers : GoodIn wsX7_put wsX7_forgetNumbers := goodIn_r _ [54, 55, 56, 57, 58, 59, 60, 61, 62, 63, 64, 65, 66, 67, 68, 69, 70, 71] (by decide +kernel) (by decide +kernel)
set_option maxRecDepth 20000 in
theorem gX7_put_X7_forgetNumbers : GoodIn wsX7_put (wsV RX7 92 RX7 yX7_forgetNumbers wsX7_forgetNumbers) := goodIn_app (goodIn_of _ (by decide +kernel)) ggX7_put_X7_forgetNumbers
theorem dX7_put_0 : decode cX7_put 0 = .ok (.aload_n 0, 1) := by decide +kernel
theorem dX7_put_1 : decode cX7_put 1 = .ok (.iload_n 1, 1) := by decide +kernel
theorem dX7_put_2 : decode cX7_put 2 = .ok (.iload_n 2, 1) := by decide +kernel
theorem dX7_put_3 : decode cX7_put 3 = .ok (.iload_n 3, 1) := by decide +kernel
theorem dX7_put_4 : decode cX7_put 4 = .ok (.invokevirtual 95, 3) := by decide +kernel
theorem dX7_put_7 : decode cX7_put 7 = .ok (.aload_n 0, 1) := by decide +kernel
theorem dX7_put_8 : decode cX7_put 8 = .ok (.getfield 14, 3) := by decide +kernel
theorem dX7_put_11 : decode cX7_put 11 = .ok (.iload_n 1, 1) := by decide +kernel
theorem dX7_put_12 : decode cX7_put 12 = .ok (.iload_n 2, 1) := by decide +kernel
theorem dX7_put_13 : decode cX7_put 13 = .ok (.invokevirtual 99, 3) := by decide +kernel
theorem dX7_put_16 : decode cX7_put 16 = .ok (.astore 5, 2) := by decide +kernel
theorem dX7_put_18 : decode cX7_put 18 = .ok (.iload 4, 2) := by decide +kernel
theorem dX7_put_20 : decode cX7_put 20 = .ok (.sipush 32003, 3) := by decide +kernel
theorem dX7_put_23 : decode cX7_put 23 = .ok (.invokestatic 103, 3) := by decide +kernel
theorem dX7_put_26 : decode cX7_put 26 = .ok (.istore 6, 2) := by decide +kernel
theorem dX7_put_28 : decode cX7_put 28 = .ok (.aload 5, 2) := by decide +kernel
theorem dX7_put_30 : decode cX7_put 30 = .ok (.iload_n 3, 1) := by decide +kernel
theorem dX7_put_31 : decode cX7_put 31 = .ok (.invokevirtual 109, 3) := by decide +kernel
theorem dX7_put_34 : decode cX7_put 34 = .ok (.iload 6, 2) := by decide +kernel
theorem dX7_put_36 : decode cX7_put 36 = .ok (.if_icmp .ne 5, 3) := by decide +kernel
