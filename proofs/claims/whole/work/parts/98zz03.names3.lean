theorem dX7_put_39 : decode cX7_put 39 = .ok (.iconst 0, 1) := by decide +kernel
theorem dX7_put_40 : decode cX7_put 40 = .ok (.ireturn, 1) := by decide +kernel
theorem dX7_put_41 : decode cX7_put 41 = .ok (.aload 5, 2) := by decide +kernel
theorem dX7_put_43 : decode cX7_put 43 = .ok (.iload_n 3, 1) := by decide +kernel
theorem dX7_put_44 : decode cX7_put 44 = .ok (.iload 6, 2) := by decide +kernel
theorem dX7_put_46 : decode cX7_put 46 = .ok (.invokevirtual 113, 3) := by decide +kernel
theorem dX7_put_49 : decode cX7_put 49 = .ok (.aload_n 0, 1) := by decide +kernel
theorem dX7_put_50 : decode cX7_put 50 = .ok (.invokevirtual 89, 3) := by decide +kernel
theorem dX7_put_53 : decode cX7_put 53 = .ok (.iload_n 3, 1) := by decide +kernel
theorem dX7_put_54 : decode cX7_put 54 = .ok (.ifCond .ne 7, 3) := by decide +kernel
theorem dX7_put_57 : decode cX7_put 57 = .ok (.aload_n 0, 1) := by decide +kernel
theorem dX7_put_58 : decode cX7_put 58 = .ok (.invokevirtual 92, 3) := by decide +kernel
theorem dX7_put_61 : decode cX7_put 61 = .ok (.iconst 1, 1) := by decide +kernel
theorem dX7_put_62 : decode cX7_put 62 = .ok (.ireturn, 1) := by decide +kernel
set_option maxRecDepth 20000 in
theorem ggX7_entry_X7_needEntry : GoodIn wsX7_entry wsX7_needEntry := goodIn_r _ [6, 7, 8, 9, 10, 11, 12, 5, 13, 14, 15, 44, 45, 46, 47, 48, 49, 29, 30, 31, 32, 33, 34, 35, 36, 37, 38, 39, 40, 41, 42, 43] (by decide +kernel) (by decide +kernel)
set_option maxRecDepth 20000 in
theorem gX7_entry_X7_needEntry : GoodIn wsX7_entry (wsV RX7 95 RX7 yX7_needEntry wsX7_needEntry) := goodIn_app (goodIn_of _ (by decide +kernel)) ggX7_entry_X7_needEntry
set_option maxRecDepth 20000 in
theorem ggX7_entry_X2_cell : GoodIn wsX7_entry wsX2_cell := goodIn_r _ [20, 21, 50, 51] (by decide +kernel) (by decide +kernel)
set_option maxRecDepth 20000 in
theorem gX7_entry_X2_cell : GoodIn wsX7_entry (wsV RX7 99 RX2 yX2_cell wsX2_cell) := goodIn_app (goodIn_of _ (by decide +kernel)) ggX7_entry_X2_cell
set_option maxRecDepth 20000 in
theorem ggX7_entry_X4_numberAt : GoodIn wsX7_entry wsX4_numberAt := goodIn_r _ [26, 27, 28, 52, 53] (by decide +kernel) (by decide +kernel)
set_option maxRecDepth 20000 in
theorem gX7_entry_X4_numberAt : GoodIn wsX7_entry (wsV RX7 109 RX4 yX4_numberAt wsX4_numberAt) := goodIn_app (goodIn_of _ (by decide +kernel)) ggX7_entry_X4_numberAt
theorem dX7_entry_0 : decode cX7_entry 0 = .ok (.aload_n 0, 1) := by decide +kernel
theorem dX7_entry_1 : decode cX7_entry 1 = .ok (.iload_n 1, 1) := by decide +kernel
theorem dX7_entry_2 : decode cX7_entry 2 = .ok (.iload_n 2, 1) := by decide +kernel
theorem dX7_entry_3 : decode cX7_entry 3 = .ok (.iload_n 3, 1) := by decide +kernel
theorem dX7_entry_4 : decode cX7_entry 4 = .ok (.invokevirtual 95, 3) := by decide +kernel
theorem dX7_entry_7 : decode cX7_entry 7 = .ok (.aload_n 0, 1) := by decide +kernel
theorem dX7_entry_8 : decode cX7_entry 8 = .ok (.getfield 14, 3) := by decide +kernel
theorem dX7_entry_11 : decode cX7_entry 11 = .ok (.iload_n 1, 1) := by decide +kernel
theorem dX7_entry_12 : decode cX7_entry 12 = .ok (.iload_n 2, 1) := by decide +kernel
theorem dX7_entry_13 : decode cX7_entry 13 = .ok (.invokevirtual 99, 3) := by decide +kernel
theorem dX7_entry_16 : decode cX7_entry 16 = .ok (.iload_n 3, 1) := by decide +kernel
theorem dX7_entry_17 : decode cX7_entry 17 = .ok (.invokevirtual 109, 3) := by decide +kernel
theorem dX7_entry_20 : decode cX7_entry 20 = .ok (.ireturn, 1) := by decide +kernel
set_option maxRecDepth 20000 in
theorem ggX7_make_X7_needForm : GoodIn wsX7_make wsX7_needForm := goodIn_ca (goodIn_r _ [10, 11, 12] (by decide +kernel) (by decide +kernel)) (goodIn_sub (fun _ h => List.mem_cons_of_mem _ (List.mem_append_right _ h)) (by decide +kernel))
set_option maxRecDepth 20000 in
theorem gX7_make_X7_needForm : GoodIn wsX7_make (wsV RX7 117 RX7 yX7_needForm wsX7_needForm) := goodIn_app (goodIn_of _ (by decide +kernel)) ggX7_make_X7_needForm
set_option maxRecDepth 20000 in
theorem ggX7_make_X7_knowMinors : GoodIn wsX7_make wsX7_knowMinors := goodIn_r _ [16, 17, 5, 2, 18, 19, 20, 21, 22, 23, 24, 25, 26, 27, 28, 29, 30, 31, 32, 33, 34, 35, 36, 37, 38, 39, 40, 41, 42, 43, 44, 45, 46, 47, 48, 49, 50, 51, 52, 53, 54, 55, 56, 57, 58, 59, 60, 61, 62, 63, 64, 65, 66, 67, 68, 69, 70, 71, 72, 73, 74, 75, 76, 77, 78, 79, 80, 81, 82, 83, 84, 85, 86, 87, 88, 89, 90, 91, 92, 93, 9, 94, 95, 96, 97, 98, 99, 100, 101, 102, 103, 104, 105, 106, 107, 108, 109, 110, 111, 112, 193, 194, 195, 196, 197, 198, 199, 200, 201, 202, 203, 204, 205, 206, 207, 208, 209, 210, 211, 212, 213, 214, 215, 216, 217, 218, 219] (by decide +kernel) (by decide +kernel)
set_option maxRecDepth 20000 in
theorem gX7_make_X7_knowMinors : GoodIn wsX7_make (wsV RX7 120 RX7 yX7_knowMinors wsX7_knowMinors) := goodIn_app (goodIn_of _ (by decide +kernel)) ggX7_make_X7_knowMinors
set_option maxRecDepth 20000 in
theorem ggX7_make_X7_makeInverse : GoodIn wsX7_make wsX7_makeInverse := goodIn_r _ [116, 5, 117, 118, 3, 4, 119, 120, 121, 21, 122, 25, 26, 27, 28, 29, 123, 124, 125, 33, 126, 36, 35, 127, 93, 9, 94, 128, 64, 65, 66, 67, 68, 129, 130, 85, 86, 87, 73, 74, 39, 75, 88, 46, 47, 48, 41, 42, 43, 44, 131, 132, 133, 134, 100, 101, 102, 193, 194, 195, 196, 197, 198, 199, 200, 201, 202, 203, 204, 205, 206, 207, 213, 214, 208, 209, 210, 211, 212, 215, 216] (by decide +kernel) (by decide +kernel)
set_option maxRecDepth 20000 in
theorem gX7_make_X7_makeInverse : GoodIn wsX7_make (wsV RX7 123 RX7 yX7_makeInverse wsX7_makeInverse) := goodIn_app (goodIn_of _ (by decide +kernel)) ggX7_make_X7_makeInverse
set_option maxRecDepth 20000 in
theorem ggX7_make_X1_reckon : GoodIn wsX7_make wsX1_reckon := goodIn_r _ [139, 140, 141, 142, 143, 144, 145, 146, 147, 148, 85, 86, 33, 87, 36, 35, 73, 74, 39, 75, 88, 46, 47, 48, 41, 42, 43, 44, 149, 150, 151, 138, 152, 153, 154, 155, 156, 157, 158, 159, 160, 161, 162, 163, 90, 91, 92, 93, 9, 94, 164, 70, 71, 72, 37, 38, 40, 165, 166, 167, 168, 169, 170, 171, 172, 173, 124, 125, 126, 174, 100, 101, 102, 220, 221, 222, 223, 215, 216, 213, 214] (by decide +kernel) (by decide +kernel)
set_option maxRecDepth 20000 in
theorem gX7_make_X1_reckon : GoodIn wsX7_make (wsV RX7 127 RX1 yX1_reckon wsX1_reckon) := goodIn_app (goodIn_of _ (by decide +kernel)) ggX7_make_X1_reckon
set_option maxRecDepth 20000 in
theorem ggX7_make_X1_writeTo : GoodIn wsX7_make wsX1_writeTo := goodIn_r _ [178, 140, 153, 179, 180, 181, 66, 182, 68, 183, 184, 185, 145, 186, 147, 187, 46, 47, 33, 48, 36, 35, 142, 143, 144, 146, 148, 85, 86, 87, 73, 74, 39, 75, 88, 41, 42, 43, 44, 220, 221, 222, 223, 215, 216, 213, 214] (by decide +kernel) (by decide +kernel)
set_option maxRecDepth 20000 in
theorem gX7_make_X1_writeTo : GoodIn wsX7_make (wsV RX7 131 RX1 yX1_writeTo wsX1_writeTo) := goodIn_app (goodIn_of _ (by decide +kernel)) ggX7_make_X1_writeTo
set_option maxRecDepth 20000 in
theorem ggX7_make_X7_makeSmith : GoodIn wsX7_make wsX7_makeSmith := goodIn_r _ [191, 3, 5, 192, 180, 181, 66, 182, 68, 183, 184, 185, 145, 186, 147, 187, 46, 47, 33, 48, 36, 35, 128, 64, 65, 67, 130, 85, 86, 87, 73, 74, 39, 75, 88, 41, 42, 43, 44, 193, 194, 195, 196, 197, 198, 199, 200, 201, 202, 203, 204, 205, 206, 207, 208, 209, 210, 211, 212, 215, 216, 213, 214] (by decide +kernel) (by decide +kernel)
set_option maxRecDepth 20000 in
theorem gX7_make_X7_makeSmith : GoodIn wsX7_make (wsV RX7 134 RX7 yX7_makeSmith wsX7_makeSmith) := goodIn_app (goodIn_of _ (by decide +kernel)) ggX7_make_X7_makeSmith
theorem dX7_make_0 : decode cX7_make 0 = .ok (.aload_n 0, 1) := by decide +kernel
theorem dX7_make_1 : decode cX7_make 1 = .ok (.iload_n 1, 1) := by decide +kernel
theorem dX7_make_2 : decode cX7_make 2 = .ok (.invokevirtual 117, 3) := by decide +kernel
theorem dX7_make_5 : decode cX7_make 5 = .ok (.aload_n 0, 1) := by decide +kernel
theorem dX7_make_6 : decode cX7_make 6 = .ok (.invokevirtual 120, 3) := by decide +kernel
theorem dX7_make_9 : decode cX7_make 9 = .ok (.iload_n 1, 1) := by decide +kernel
theorem dX7_make_10 : decode cX7_make 10 = .ok (.iconst 2, 1) := by decide +kernel
theorem dX7_make_11 : decode cX7_make 11 = .ok (.if_icmp .ne 8, 3) := by decide +kernel
theorem dX7_make_14 : decode cX7_make 14 = .ok (.aload_n 0, 1) := by decide +kernel
theorem dX7_make_15 : decode cX7_make 15 = .ok (.invokevirtual 123, 3) := by decide +kernel
theorem dX7_make_18 : decode cX7_make 18 = .ok (.ireturn, 1) := by decide +kernel
theorem dX7_make_19 : decode cX7_make 19 = .ok (.iload_n 1, 1) := by decide +kernel
theorem dX7_make_20 : decode cX7_make 20 = .ok (.ifCond .ne 30, 3) := by decide +kernel
theorem dX7_make_23 : decode cX7_make 23 = .ok (.aload_n 0, 1) := by decide +kernel
theorem dX7_make_24 : decode cX7_make 24 = .ok (.getfield 41, 3) := by decide +kernel
theorem dX7_make_27 : decode cX7_make 27 = .ok (.aload_n 0, 1) := by decide +kernel
theorem dX7_make_28 : decode cX7_make 28 = .ok (.getfield 14, 3) := by decide +kernel
theorem dX7_make_31 : decode cX7_make 31 = .ok (.invokevirtual 127, 3) := by decide +kernel
theorem dX7_make_34 : decode cX7_make 34 = .ok (.aload_n 0, 1) := by decide +kernel
theorem dX7_make_35 : decode cX7_make 35 = .ok (.getfield 41, 3) := by decide +kernel
theorem dX7_make_38 : decode cX7_make 38 = .ok (.aload_n 0, 1) := by decide +kernel
theorem dX7_make_39 : decode cX7_make 39 = .ok (.getfield 45, 3) := by decide +kernel
theorem dX7_make_42 : decode cX7_make 42 = .ok (.iconst 0, 1) := by decide +kernel
theorem dX7_make_43 : decode cX7_make 43 = .ok (.aaload, 1) := by decide +kernel
theorem dX7_make_44 : decode cX7_make 44 = .ok (.invokevirtual 131, 3) := by decide +kernel
theorem dX7_make_47 : decode cX7_make 47 = .ok (.goto 7, 3) := by decide +kernel
theorem dX7_make_50 : decode cX7_make 50 = .ok (.aload_n 0, 1) := by decide +kernel
theorem dX7_make_51 : decode cX7_make 51 = .ok (.invokevirtual 134, 3) := by decide +kernel
theorem dX7_make_54 : decode cX7_make 54 = .ok (.aload_n 0, 1) := by decide +kernel
theorem dX7_make_55 : decode cX7_make 55 = .ok (.getfield 49, 3) := by decide +kernel
theorem dX7_make_58 : decode cX7_make 58 = .ok (.iload_n 1, 1) := by decide +kernel
theorem dX7_make_59 : decode cX7_make 59 = .ok (.iconst 1, 1) := by decide +kernel
theorem dX7_make_60 : decode cX7_make 60 = .ok (.bastore, 1) := by decide +kernel
theorem dX7_make_61 : decode cX7_make 61 = .ok (.aload_n 0, 1) := by decide +kernel
theorem dX7_make_62 : decode cX7_make 62 = .ok (.getfield 21, 3) := by decide +kernel
theorem dX7_make_65 : decode cX7_make 65 = .ok (.getfield 137, 3) := by decide +kernel
theorem dX7_make_68 : decode cX7_make 68 = .ok (.ireturn, 1) := by decide +kernel
set_option maxRecDepth 20000 in
theorem ggX7_degree_X7_formCell : GoodIn wsX7_degree wsX7_formCell := goodIn_ca (goodIn_ca (goodIn_r _ [5, 6, 7, 8, 9, 10, 11, 12, 4, 13, 14, 15, 16, 17, 18, 19, 20, 21, 22, 23, 24, 25, 26, 27, 28, 29, 30, 33, 34, 35, 36, 37, 38, 39, 40, 41, 42, 43, 44, 45, 46, 47, 48, 49, 50, 51, 52, 53, 54, 55] (by decide +kernel) (by decide +kernel)) (goodIn_sub (fun _ h => List.mem_cons_of_mem _ (List.mem_append_left _ (List.mem_append_right _ h))) (by decide +kernel))) (goodIn_sub (fun _ h => List.mem_cons_of_mem _ (List.mem_append_right _ h)) (by decide +kernel))
set_option maxRecDepth 20000 in
theorem gX7_degree_X7_formCell : GoodIn wsX7_degree (wsV RX7 140 RX7 yX7_formCell wsX7_formCell) := goodIn_app (goodIn_of _ (by decide +kernel)) ggX7_degree_X7_formCell
theorem dX7_degree_0 : decode cX7_degree 0 = .ok (.aload_n 0, 1) := by decide +kernel
theorem dX7_degree_1 : decode cX7_degree 1 = .ok (.iload_n 1, 1) := by decide +kernel
theorem dX7_degree_2 : decode cX7_degree 2 = .ok (.iload_n 2, 1) := by decide +kernel
theorem dX7_degree_3 : decode cX7_degree 3 = .ok (.iload_n 3, 1) := by decide +kernel
theorem dX7_degree_4 : decode cX7_degree 4 = .ok (.invokevirtual 140, 3) := by decide +kernel
theorem dX7_degree_7 : decode cX7_degree 7 = .ok (.getfield 144, 3) := by decide +kernel
theorem dX7_degree_10 : decode cX7_degree 10 = .ok (.ireturn, 1) := by decide +kernel
set_option maxRecDepth 20000 in
theorem ggX7_at_X7_formCell : GoodIn wsX7_at wsX7_formCell := goodIn_ca (goodIn_ca (goodIn_r _ [5, 6, 7, 8, 9, 10, 11, 12, 4, 13, 14, 15, 16, 17, 18, 19, 20, 21, 22, 23, 24, 25, 26, 27, 28, 29, 30, 38, 39, 40, 41, 42, 43, 44, 45, 46, 47, 48, 49, 50, 51, 52, 53, 54, 55, 56, 57, 58, 59, 60] (by decide +kernel) (by decide +kernel)) (goodIn_sub (fun _ h => List.mem_cons_of_mem _ (List.mem_append_left _ (List.mem_append_right _ h))) (by decide +kernel))) (goodIn_sub (fun _ h => List.mem_cons_of_mem _ (List.mem_append_right _ h)) (by decide +kernel))
set_option maxRecDepth 20000 in
theorem gX7_at_X7_formCell : GoodIn wsX7_at (wsV RX7 140 RX7 yX7_formCell wsX7_formCell) := goodIn_app (goodIn_of _ (by decide +kernel)) ggX7_at_X7_formCell
set_option maxRecDepth 20000 in
theorem ggX7_at_X4_numberAt : GoodIn wsX7_at wsX4_numberAt := goodIn_r _ [35, 36, 37, 61, 62] (by decide +kernel) (by decide +kernel)
set_option maxRecDepth 20000 in
theorem gX7_at_X4_numberAt : GoodIn wsX7_at (wsV RX7 109 RX4 yX4_numberAt wsX4_numberAt) := goodIn_app (goodIn_of _ (by decide +kernel)) ggX7_at_X4_numberAt
theorem dX7_at_0 : decode cX7_at 0 = .ok (.aload_n 0, 1) := by decide +kernel
theorem dX7_at_1 : decode cX7_at 1 = .ok (.iload_n 1, 1) := by decide +kernel
theorem dX7_at_2 : decode cX7_at 2 = .ok (.iload_n 2, 1) := by decide +kernel
theorem dX7_at_3 : decode cX7_at 3 = .ok (.iload_n 3, 1) := by decide +kernel
theorem dX7_at_4 : decode cX7_at 4 = .ok (.invokevirtual 140, 3) := by decide +kernel
theorem dX7_at_7 : decode cX7_at 7 = .ok (.iload 4, 2) := by decide +kernel
theorem dX7_at_9 : decode cX7_at 9 = .ok (.invokevirtual 109, 3) := by decide +kernel
theorem dX7_at_12 : decode cX7_at 12 = .ok (.ireturn, 1) := by decide +kernel
set_option maxRecDepth 20000 in
theorem ggX7_rank_X7_knowMinors : GoodIn wsX7_rank wsX7_knowMinors := goodIn_r _ [6, 7, 1, 8, 9, 10, 11, 12, 13, 14, 15, 16, 17, 18, 19, 20, 21, 22, 23, 24, 25, 26, 27, 28, 29, 30, 31, 32, 33, 34, 35, 36, 37, 38, 39, 40, 41, 42, 43, 44, 45, 46, 47, 48, 49, 50, 51, 52, 53, 54, 55, 56, 57, 58, 59, 60, 61, 62, 63, 64, 65, 66, 67, 68, 69, 70, 71, 72, 73, 74, 75, 76, 77, 78, 79, 80, 81, 82, 83, 84, 5, 85, 86, 87, 88, 89, 90, 91, 92, 93, 94, 95, 96, 97, 98, 99, 100, 101, 102, 103, 104, 105, 106, 107, 108, 109, 110, 111, 112, 113, 114, 115, 116, 117, 118, 119, 120, 121, 122, 123, 124, 125, 126, 127, 128, 129, 130] (by decide +kernel) (by decide +kernel)
set_option maxRecDepth 20000 in
theorem gX7_rank_X7_knowMinors : GoodIn wsX7_rank (wsV RX7 120 RX7 yX7_knowMinors wsX7_knowMinors) := goodIn_app (goodIn_of _ (by decide +kernel)) ggX7_rank_X7_knowMinors
theorem dX7_rank_0 : decode cX7_rank 0 = .ok (.aload_n 0, 1) := by decide +kernel
theorem dX7_rank_1 : decode cX7_rank 1 = .ok (.invokevirtual 120, 3) := by decide +kernel
theorem dX7_rank_4 : decode cX7_rank 4 = .ok (.aload_n 0, 1) := by decide +kernel
theorem dX7_rank_5 : decode cX7_rank 5 = .ok (.getfield 21, 3) := by decide +kernel
theorem dX7_rank_8 : decode cX7_rank 8 = .ok (.getfield 137, 3) := by decide +kernel
theorem dX7_rank_11 : decode cX7_rank 11 = .ok (.ireturn, 1) := by decide +kernel
set_option maxRecDepth 20000 in
theorem ggX7_determinant_X7_needSquare : GoodIn wsX7_determinant wsX7_needSquare := goodIn_ca (goodIn_r _ [7, 8, 9, 2, 10, 120, 121, 122, 123, 124, 125, 126, 127, 128, 129, 130, 131, 132, 133, 134] (by decide +kernel) (by decide +kernel)) (goodIn_sub (fun _ h => List.mem_cons_of_mem _ (List.mem_append_right _ h)) (by decide +kernel))
set_option maxRecDepth 20000 in
theorem gX7_determinant_X7_needSquare : GoodIn wsX7_determinant (wsV RX7 147 RX7 yX7_needSquare wsX7_needSquare) := goodIn_app (goodIn_of _ (by decide +kernel)) ggX7_determinant_X7_needSquare
set_option maxRecDepth 20000 in
theorem ggX7_determinant_X7_knowMinors : GoodIn wsX7_determinant wsX7_knowMinors := goodIn_r _ [14, 15, 1, 16, 17, 18, 19, 20, 21, 22, 23, 24, 25, 26, 27, 28, 29, 30, 31, 32, 33, 34, 35, 36, 37, 38, 39, 40, 41, 42, 43, 44, 45, 46, 47, 48, 49, 50, 51, 52, 53, 54, 55, 56, 57, 58, 59, 60, 61, 62, 63, 64, 65, 66, 67, 68, 69, 70, 71, 72, 73, 74, 75, 76, 77, 78, 79, 80, 81, 82, 83, 84, 85, 86, 87, 88, 89, 90, 91, 92, 6, 93, 94, 95, 96, 97, 98, 99, 100, 101, 102, 103, 104, 105, 106, 107, 108, 109, 110, 111, 120, 121, 122, 123, 124, 125, 126, 127, 128, 129, 130, 131, 132, 133, 134, 135, 136, 137, 138, 139, 140, 141, 142, 143, 144, 145, 146] (by decide +kernel) (by decide +kernel)
set_option maxRecDepth 20000 in
theorem gX7_determinant_X7_knowMinors : GoodIn wsX7_determinant (wsV RX7 120 RX7 yX7_knowMinors wsX7_knowMinors) := goodIn_app (goodIn_of _ (by decide +kernel)) ggX7_determinant_X7_knowMinors
set_option maxRecDepth 20000 in
theorem ggX7_determinant_X3_leading : GoodIn wsX7_determinant wsX3_leading := goodIn_r _ [115, 24, 25, 26, 20, 27, 28, 135, 136, 137, 138, 139] (by decide +kernel) (by decide +kernel)
set_option maxRecDepth 20000 in
theorem gX7_determinant_X3_leading : GoodIn wsX7_determinant (wsV RX7 150 RX3 yX3_leading wsX3_leading) := goodIn_app (goodIn_of _ (by decide +kernel)) ggX7_determinant_X3_leading
set_option maxRecDepth 20000 in
theorem ggX7_determinant_X4_numberAt : GoodIn wsX7_determinant wsX4_numberAt := goodIn_r _ [119, 35, 34, 140, 141] (by decide +kernel) (by decide +kernel)
set_option maxRecDepth 20000 in
theorem gX7_determinant_X4_numberAt : GoodIn wsX7_determinant (wsV RX7 109 RX4 yX4_numberAt wsX4_numberAt) := goodIn_app (goodIn_of _ (by decide +kernel)) ggX7_determinant_X4_numberAt
theorem dX7_determinant_0 : decode cX7_determinant 0 = .ok (.aload_n 0, 1) := by decide +kernel
theorem dX7_determinant_1 : decode cX7_determinant 1 = .ok (.invokevirtual 147, 3) := by decide +kernel
theorem dX7_determinant_4 : decode cX7_determinant 4 = .ok (.aload_n 0, 1) := by decide +kernel
theorem dX7_determinant_5 : decode cX7_determinant 5 = .ok (.invokevirtual 120, 3) := by decide +kernel
theorem dX7_determinant_8 : decode cX7_determinant 8 = .ok (.aload_n 0, 1) := by decide +kernel
theorem dX7_determinant_9 : decode cX7_determinant 9 = .ok (.getfield 21, 3) := by decide +kernel
theorem dX7_determinant_12 : decode cX7_determinant 12 = .ok (.aload_n 0, 1) := by decide +kernel
theorem dX7_determinant_13 : decode cX7_determinant 13 = .ok (.getfield 79, 3) := by decide +kernel
theorem dX7_determinant_16 : decode cX7_determinant 16 = .ok (.invokevirtual 150, 3) := by decide +kernel
theorem dX7_determinant_19 : decode cX7_determinant 19 = .ok (.iload_n 1, 1) := by decide +kernel
theorem dX7_determinant_20 : decode cX7_determinant 20 = .ok (.invokevirtual 109, 3) := by decide +kernel
theorem dX7_determinant_23 : decode cX7_determinant 23 = .ok (.ireturn, 1) := by decide +kernel
set_option maxRecDepth 20000 in
theorem ggX7_characteristic_X7_needSquare : GoodIn wsX7_characteristic wsX7_needSquare := goodIn_ca (goodIn_r _ [7, 8, 9, 2, 10, 137, 138, 139, 140, 141, 142, 143, 144, 145, 146, 147, 148, 149, 150, 151] (by decide +kernel) (by decide +kernel)) (goodIn_sub (fun _ h => List.mem_cons_of_mem _ (List.mem_append_right _ h)) (by decide +kernel))
set_option maxRecDepth 20000 in
theorem gX7_characteristic_X7_needSquare : GoodIn wsX7_characteristic (wsV RX7 147 RX7 yX7_needSquare wsX7_needSquare) := goodIn_app (goodIn_of _ (by decide +kernel)) ggX7_characteristic_X7_needSquare
set_option maxRecDepth 20000 in
theorem ggX7_characteristic_X7_knowNumbersMinors : GoodIn wsX7_characteristic wsX7_knowNumbersMinors := goodIn_r _ [14, 15, 16, 2, 10, 17, 1, 18, 19, 20, 21, 22, 23, 24, 25, 26, 27, 28, 29, 30, 31, 32, 33, 34, 35, 36, 37, 38, 39, 40, 41, 42, 43, 44, 45, 46, 6, 47, 48, 49, 50, 51, 52, 53, 54, 55, 56, 57, 58, 59, 60, 61, 62, 63, 64, 65, 66, 67, 68, 69, 70, 71, 72, 73, 74, 75, 76, 77, 78, 79, 80, 81, 82, 83, 84, 85, 86, 87, 88, 89, 90, 91, 92, 93, 94, 95, 96, 97, 98, 99, 100, 101, 102, 103, 104, 105, 106, 107, 108, 109, 110, 111, 112, 113, 114, 115, 116, 117, 118, 119, 120, 121, 122, 123, 124, 125, 126, 127, 128, 129, 130, 131, 132, 137, 138, 139, 140, 141, 142, 143, 144, 145, 146, 147, 148, 149, 150, 151, 152, 153, 154, 155, 156, 157, 158, 159, 160, 161, 162, 163] (by decide +kernel) (by decide +kernel)
set_option maxRecDepth 20000 in
theorem gX7_characteristic_X7_knowNumbersMinors : GoodIn wsX7_characteristic (wsV RX7 154 RX7 yX7_knowNumbersMinors wsX7_knowNumbersMinors) := goodIn_app (goodIn_of _ (by decide +kernel)) ggX7_characteristic_X7_knowNumbersMinors
set_option maxRecDepth 20000 in
theorem ggX7_characteristic_X3_leading : GoodIn wsX7_characteristic wsX3_leading := goodIn_r _ [136, 67, 68, 69, 63, 70, 71, 156, 157, 158, 159, 160] (by decide +kernel) (by decide +kernel)
set_option maxRecDepth 20000 in
theorem gX7_characteristic_X3_leading : GoodIn wsX7_characteristic (wsV RX7 150 RX3 yX3_leading wsX3_leading) := goodIn_app (goodIn_of _ (by decide +kernel)) ggX7_characteristic_X3_leading
set_option maxRecDepth 20000 in
theorem ggX7_characteristic_X4_numberAt : GoodIn wsX7_characteristic wsX4_numberAt := goodIn_r _ [44, 35, 36, 154, 155] (by decide +kernel) (by decide +kernel)
set_option maxRecDepth 20000 in
theorem gX7_characteristic_X4_numberAt : GoodIn wsX7_characteristic (wsV RX7 109 RX4 yX4_numberAt wsX4_numberAt) := goodIn_app (goodIn_of _ (by decide +kernel)) ggX7_characteristic_X4_numberAt
theorem dX7_characteristic_0 : decode cX7_characteristic 0 = .ok (.aload_n 0, 1) := by decide +kernel
theorem dX7_characteristic_1 : decode cX7_characteristic 1 = .ok (.invokevirtual 147, 3) := by decide +kernel
theorem dX7_characteristic_4 : decode cX7_characteristic 4 = .ok (.aload_n 0, 1) := by decide +kernel
theorem dX7_characteristic_5 : decode cX7_characteristic 5 = .ok (.invokevirtual 154, 3) := by decide +kernel
theorem dX7_characteristic_8 : decode cX7_characteristic 8 = .ok (.aload_n 0, 1) := by decide +kernel
theorem dX7_characteristic_9 : decode cX7_characteristic 9 = .ok (.getfield 28, 3) := by decide +kernel
theorem dX7_characteristic_12 : decode cX7_characteristic 12 = .ok (.aload_n 0, 1) := by decide +kernel
theorem dX7_characteristic_13 : decode cX7_characteristic 13 = .ok (.getfield 79, 3) := by decide +kernel
theorem dX7_characteristic_16 : decode cX7_characteristic 16 = .ok (.invokevirtual 150, 3) := by decide +kernel
theorem dX7_characteristic_19 : decode cX7_characteristic 19 = .ok (.iload_n 1, 1) := by decide +kernel
theorem dX7_characteristic_20 : decode cX7_characteristic 20 = .ok (.invokevirtual 109, 3) := by decide +kernel
theorem dX7_characteristic_23 : decode cX7_characteristic 23 = .ok (.ireturn, 1) := by decide +kernel
set_option maxRecDepth 20000 in
theorem ggX7_minimal_X7_needSquare : GoodIn wsX7_minimal wsX7_needSquare := goodIn_ca (goodIn_r _ [7, 8, 9, 1, 10, 133, 134, 135, 136, 137, 138, 139, 140, 141, 142, 143, 144, 145, 146, 147] (by decide +kernel) (by decide +kernel)) (goodIn_sub (fun _ h => List.mem_cons_of_mem _ (List.mem_append_right _ h)) (by decide +kernel))
set_option maxRecDepth 20000 in
theorem gX7_minimal_X7_needSquare : GoodIn wsX7_minimal (wsV RX7 147 RX7 yX7_needSquare wsX7_needSquare) := goodIn_app (goodIn_of _ (by decide +kernel)) ggX7_minimal_X7_needSquare
set_option maxRecDepth 20000 in
theorem ggX7_minimal_X7_knowNumbersMinors : GoodIn wsX7_minimal wsX7_knowNumbersMinors := goodIn_r _ [14, 15, 16, 1, 10, 17, 2, 18, 19, 20, 21, 22, 23, 24, 25, 26, 27, 28, 29, 30, 31, 32, 33, 34, 35, 36, 37, 38, 39, 40, 41, 42, 43, 44, 45, 46, 6, 47, 48, 49, 50, 51, 52, 53, 54, 55, 56, 57, 58, 59, 60, 61, 62, 63, 64, 65, 66, 67, 68, 69, 70, 71, 72, 73, 74, 75, 76, 77, 78, 79, 80, 81, 82, 83, 84, 85, 86, 87, 88, 89, 90, 91, 92, 93, 94, 95, 96, 97, 98, 99, 100, 101, 102, 103, 104, 105, 106, 107, 108, 109, 110, 111, 112, 113, 114, 115, 116, 117, 118, 119, 120, 121, 122, 123, 124, 125, 126, 127, 128, 129, 130, 131, 132, 133, 134, 135, 136, 137, 138, 139, 140, 141, 142, 143, 144, 145, 146, 147, 153, 154, 155, 156, 148, 149, 150, 151, 152, 157, 158, 159] (by decide +kernel) (by decide +kernel)
set_option maxRecDepth 20000 in
theorem gX7_minimal_X7_knowNumbersMinors : GoodIn wsX7_minimal (wsV RX7 154 RX7 yX7_knowNumbersMinors wsX7_knowNumbersMinors) := goodIn_app (goodIn_of _ (by decide +kernel)) ggX7_minimal_X7_knowNumbersMinors
set_option maxRecDepth 20000 in
theorem ggX7_minimal_X4_numberAt : GoodIn wsX7_minimal wsX4_numberAt := goodIn_r _ [44, 35, 36, 155, 156] (by decide +kernel) (by decide +kernel)
set_option maxRecDepth 20000 in
theorem gX7_minimal_X4_numberAt : GoodIn wsX7_minimal (wsV RX7 109 RX4 yX4_numberAt wsX4_numberAt) := goodIn_app (goodIn_of _ (by decide +kernel)) ggX7_minimal_X4_numberAt
theorem dX7_minimal_0 : decode cX7_minimal 0 = .ok (.aload_n 0, 1) := by decide +kernel
theorem dX7_minimal_1 : decode cX7_minimal 1 = .ok (.invokevirtual 147, 3) := by decide +kernel
theorem dX7_minimal_4 : decode cX7_minimal 4 = .ok (.aload_n 0, 1) := by decide +kernel
theorem dX7_minimal_5 : decode cX7_minimal 5 = .ok (.invokevirtual 154, 3) := by decide +kernel
theorem dX7_minimal_8 : decode cX7_minimal 8 = .ok (.aload_n 0, 1) := by decide +kernel
theorem dX7_minimal_9 : decode cX7_minimal 9 = .ok (.getfield 79, 3) := by decide +kernel
theorem dX7_minimal_12 : decode cX7_minimal 12 = .ok (.ifCond .ne 13, 3) := by decide +kernel
theorem dX7_minimal_15 : decode cX7_minimal 15 = .ok (.iload_n 1, 1) := by decide +kernel
theorem dX7_minimal_16 : decode cX7_minimal 16 = .ok (.ifCond .ne 7, 3) := by decide +kernel
theorem dX7_minimal_19 : decode cX7_minimal 19 = .ok (.iconst 1, 1) := by decide +kernel
theorem dX7_minimal_20 : decode cX7_minimal 20 = .ok (.goto 4, 3) := by decide +kernel
theorem dX7_minimal_23 : decode cX7_minimal 23 = .ok (.iconst 0, 1) := by decide +kernel
theorem dX7_minimal_24 : decode cX7_minimal 24 = .ok (.ireturn, 1) := by decide +kernel
theorem dX7_minimal_25 : decode cX7_minimal 25 = .ok (.aload_n 0, 1) := by decide +kernel
theorem dX7_minimal_26 : decode cX7_minimal 26 = .ok (.getfield 28, 3) := by decide +kernel
theorem dX7_minimal_29 : decode cX7_minimal 29 = .ok (.getfield 157, 3) := by decide +kernel
theorem dX7_minimal_32 : decode cX7_minimal 32 = .ok (.aload_n 0, 1) := by decide +kernel
theorem dX7_minimal_33 : decode cX7_minimal 33 = .ok (.getfield 79, 3) := by decide +kernel
theorem dX7_minimal_36 : decode cX7_minimal 36 = .ok (.iconst 1, 1) := by decide +kernel
theorem dX7_minimal_37 : decode cX7_minimal 37 = .ok (.isub, 1) := by decide +kernel
theorem dX7_minimal_38 : decode cX7_minimal 38 = .ok (.aaload, 1) := by decide +kernel
theorem dX7_minimal_39 : decode cX7_minimal 39 = .ok (.iload_n 1, 1) := by decide +kernel
theorem dX7_minimal_40 : decode cX7_minimal 40 = .ok (.invokevirtual 109, 3) := by decide +kernel
theorem dX7_minimal_43 : decode cX7_minimal 43 = .ok (.ireturn, 1) := by decide +kernel
set_option maxRecDepth 20000 in
theorem ggX7_root_X7_needSquare : GoodIn wsX7_root wsX7_needSquare := goodIn_ca (goodIn_r _ [6, 7, 8, 9, 10, 181, 182, 183, 184, 185, 186, 187, 188, 189, 190, 191, 192, 193, 194, 195] (by decide +kernel) (by decide +kernel)) (goodIn_sub (fun _ h => List.mem_cons_of_mem _ (List.mem_append_right _ h)) (by decide +kernel))
set_option maxRecDepth 20000 in
theorem gX7_root_X7_needSquare : GoodIn wsX7_root (wsV RX7 147 RX7 yX7_needSquare wsX7_needSquare) := goodIn_app (goodIn_of _ (by decide +kernel)) ggX7_root_X7_needSquare
set_option maxRecDepth 20000 in
theorem ggX7_root_X7_knowRoots : GoodIn wsX7_root wsX7_knowRoots := goodIn_r _ [14, 15, 1, 16, 9, 17, 18, 19, 5, 20, 21, 22, 10, 23, 24, 25, 26, 27, 28, 29, 30, 31, 32, 33, 34, 35, 36, 37, 38, 39, 40, 41, 42, 43, 44, 45, 46, 47, 48, 49, 50, 51, 52, 53, 54, 55, 56, 57, 58, 59, 60, 61, 62, 63, 64, 65, 66, 67, 68, 69, 70, 71, 72, 73, 74, 75, 76, 77, 78, 79, 80, 81, 82, 83, 84, 85, 86, 87, 88, 89, 90, 91, 92, 93, 94, 95, 96, 97, 98, 99, 100, 101, 102, 103, 104, 105, 106, 107, 108, 109, 110, 111, 112, 113, 114, 115, 116, 117, 118, 119, 120, 121, 122, 123, 124, 125, 126, 127, 128, 129, 130, 131, 132, 133, 134, 135, 136, 137, 138, 139, 140, 141, 142, 143, 144, 145, 146, 147, 148, 149, 150, 151, 152, 153, 154, 155, 156, 157, 158, 159, 160, 161, 162, 163, 164, 165, 166, 167, 168, 169, 170, 171, 172, 173, 174, 175, 176, 177, 178, 179, 180, 181, 182, 183, 184, 185, 186, 187, 188, 189, 190, 191, 192, 193, 194, 195, 205, 206, 207, 208, 209, 210, 211, 212, 213, 214, 215, 216, 196, 197, 198, 199, 200, 201, 202, 203, 204] (by decide +kernel) (by decide +kernel)
set_option maxRecDepth 20000 in
theorem gX7_root_X7_knowRoots : GoodIn wsX7_root (wsV RX7 161 RX7 yX7_knowRoots wsX7_knowRoots) := goodIn_app (goodIn_of _ (by decide +kernel)) ggX7_root_X7_knowRoots
theorem dX7_root_0 : decode cX7_root 0 = .ok (.aload_n 0, 1) := by decide +kernel
theorem dX7_root_1 : decode cX7_root 1 = .ok (.invokevirtual 147, 3) := by decide +kernel
theorem dX7_root_4 : decode cX7_root 4 = .ok (.aload_n 0, 1) := by decide +kernel
theorem dX7_root_5 : decode cX7_root 5 = .ok (.invokevirtual 161, 3) := by decide +kernel
theorem dX7_root_8 : decode cX7_root 8 = .ok (.iload_n 1, 1) := by decide +kernel
theorem dX7_root_9 : decode cX7_root 9 = .ok (.ifCond .lt 14, 3) := by decide +kernel
theorem dX7_root_12 : decode cX7_root 12 = .ok (.iload_n 1, 1) := by decide +kernel
theorem dX7_root_13 : decode cX7_root 13 = .ok (.aload_n 0, 1) := by decide +kernel
theorem dX7_root_14 : decode cX7_root 14 = .ok (.getfield 34, 3) := by decide +kernel
theorem dX7_root_17 : decode cX7_root 17 = .ok (.getfield 164, 3) := by decide +kernel
theorem dX7_root_20 : decode cX7_root 20 = .ok (.if_icmp .lt 7, 3) := by decide +kernel
theorem dX7_root_23 : decode cX7_root 23 = .ok (.iconst (-1), 1) := by decide +kernel
theorem dX7_root_24 : decode cX7_root 24 = .ok (.goto 12, 3) := by decide +kernel
theorem dX7_root_27 : decode cX7_root 27 = .ok (.aload_n 0, 1) := by decide +kernel
theorem dX7_root_28 : decode cX7_root 28 = .ok (.getfield 34, 3) := by decide +kernel
theorem dX7_root_31 : decode cX7_root 31 = .ok (.getfield 167, 3) := by decide +kernel
theorem dX7_root_34 : decode cX7_root 34 = .ok (.iload_n 1, 1) := by decide +kernel
theorem dX7_root_35 : decode cX7_root 35 = .ok (.iaload, 1) := by decide +kernel
theorem dX7_root_36 : decode cX7_root 36 = .ok (.ireturn, 1) := by decide +kernel
set_option maxRecDepth 20000 in
theorem ggX7_blocks_X7_needSquare : GoodIn wsX7_blocks wsX7_needSquare := goodIn_ca (goodIn_r _ [12, 13, 14, 5, 15, 189, 190, 191, 192, 193, 194, 195, 196, 197, 198, 199, 200, 201, 202, 203] (by decide +kernel) (by decide +kernel)) (goodIn_sub (fun _ h => List.mem_cons_of_mem _ (List.mem_append_right _ h)) (by decide +kernel))
set_option maxRecDepth 20000 in
theorem gX7_blocks_X7_needSquare : GoodIn wsX7_blocks (wsV RX7 147 RX7 yX7_needSquare wsX7_needSquare) := goodIn_app (goodIn_of _ (by decide +kernel)) ggX7_blocks_X7_needSquare
set_option maxRecDepth 20000 in
theorem ggX7_blocks_X7_knowRoots : GoodIn wsX7_blocks wsX7_knowRoots := goodIn_r _ [19, 20, 3, 7, 5, 21, 22, 23, 11, 24, 25, 26, 15, 27, 28, 29, 30, 31, 32, 33, 34, 35, 36, 37, 38, 39, 40, 41, 42, 43, 44, 45, 46, 47, 48, 49, 50, 51, 52, 53, 54, 55, 56, 57, 58, 59, 60, 61, 62, 63, 64, 65, 66, 67, 68, 69, 70, 71, 72, 73, 74, 75, 76, 77, 78, 79, 80, 81, 82, 83, 84, 85, 86, 87, 88, 89, 90, 91, 92, 93, 94, 95, 96, 97, 98, 99, 100, 101, 102, 103, 104, 105, 106, 107, 108, 109, 110, 111, 112, 113, 114, 115, 116, 117, 118, 119, 120, 121, 122, 123, 124, 125, 126, 127, 128, 129, 130, 131, 132, 133, 134, 135, 136, 137, 138, 139, 140, 141, 142, 143, 144, 145, 146, 147, 148, 149, 150, 151, 152, 153, 154, 155, 156, 157, 158, 159, 160, 161, 162, 163, 164, 165, 166, 167, 168, 169, 170, 171, 172, 173, 174, 175, 176, 177, 178, 179, 180, 181, 182, 183, 184, 189, 190, 191, 192, 193, 194, 195, 196, 197, 198, 199, 200, 201, 202, 203, 218, 219, 220, 221, 213, 214, 215, 216, 217, 222, 223, 224, 204, 205, 206, 207, 208, 209, 210, 211, 212] (by decide +kernel) (by decide +kernel)
set_option maxRecDepth 20000 in
theorem gX7_blocks_X7_knowRoots : GoodIn wsX7_blocks (wsV RX7 161 RX7 yX7_knowRoots wsX7_knowRoots) := goodIn_app (goodIn_of _ (by decide +kernel)) ggX7_blocks_X7_knowRoots
set_option maxRecDepth 20000 in
theorem ggX7_blocks_X4_setNumber : GoodIn wsX7_blocks wsX4_setNumber := goodIn_r _ [61, 46, 45, 62, 63, 64, 65, 66, 67, 68, 43, 69, 220, 221] (by decide +kernel) (by decide +kernel)
set_option maxRecDepth 20000 in
theorem gX7_blocks_X4_setNumber : GoodIn wsX7_blocks (wsV RX7 113 RX4 yX4_setNumber wsX4_setNumber) := goodIn_app (goodIn_of _ (by decide +kernel)) ggX7_blocks_X4_setNumber
set_option maxRecDepth 20000 in
theorem ggX7_blocks_X7_negative : GoodIn wsX7_blocks wsX7_negative := goodIn_r _ [57] (by decide +kernel) (by decide +kernel)
set_option maxRecDepth 20000 in
theorem gX7_blocks_X7_negative : GoodIn wsX7_blocks (va_wsS RX7 175 yX7_negative wsX7_negative) := goodIn_app (goodIn_of _ (by decide +kernel)) ggX7_blocks_X7_negative
set_option maxRecDepth 20000 in
theorem ggX7_blocks_X0_howOften : GoodIn wsX7_blocks wsX0_howOften := goodIn_r _ [188, 111, 113, 114, 115, 116, 43, 117, 45, 46, 103, 104, 64, 105, 118, 41, 42, 44, 66, 67, 68, 69, 119, 120, 121, 122, 123, 11, 124, 222, 223, 224, 220, 221] (by decide +kernel) (by decide +kernel)
set_option maxRecDepth 20000 in
theorem gX7_blocks_X0_howOften : GoodIn wsX7_blocks (wsV RX7 178 RX0 yX0_howOften wsX0_howOften) := goodIn_app (goodIn_of _ (by decide +kernel)) ggX7_blocks_X0_howOften
theorem dX7_blocks_0 : decode cX7_blocks 0 = .ok (.aload_n 0, 1) := by decide +kernel
theorem dX7_blocks_1 : decode cX7_blocks 1 = .ok (.invokevirtual 147, 3) := by decide +kernel
theorem dX7_blocks_4 : decode cX7_blocks 4 = .ok (.aload_n 0, 1) := by decide +kernel
theorem dX7_blocks_5 : decode cX7_blocks 5 = .ok (.invokevirtual 161, 3) := by decide +kernel
theorem dX7_blocks_8 : decode cX7_blocks 8 = .ok (.iload_n 1, 1) := by decide +kernel
theorem dX7_blocks_9 : decode cX7_blocks 9 = .ok (.ifCond .lt 14, 3) := by decide +kernel
theorem dX7_blocks_12 : decode cX7_blocks 12 = .ok (.iload_n 1, 1) := by decide +kernel
theorem dX7_blocks_13 : decode cX7_blocks 13 = .ok (.aload_n 0, 1) := by decide +kernel
theorem dX7_blocks_14 : decode cX7_blocks 14 = .ok (.getfield 34, 3) := by decide +kernel
theorem dX7_blocks_17 : decode cX7_blocks 17 = .ok (.getfield 164, 3) := by decide +kernel
theorem dX7_blocks_20 : decode cX7_blocks 20 = .ok (.if_icmp .lt 13, 3) := by decide +kernel
theorem dX7_blocks_23 : decode cX7_blocks 23 = .ok (.new 74, 3) := by decide +kernel
theorem dX7_blocks_26 : decode cX7_blocks 26 = .ok (.dup, 1) := by decide +kernel
theorem dX7_blocks_27 : decode cX7_blocks 27 = .ok (.ldc 171, 2) := by decide +kernel
theorem dX7_blocks_29 : decode cX7_blocks 29 = .ok (.invokespecial 78, 3) := by decide +kernel
theorem dX7_blocks_32 : decode cX7_blocks 32 = .ok (.athrow, 1) := by decide +kernel
theorem dX7_blocks_33 : decode cX7_blocks 33 = .ok (.iload_n 2, 1) := by decide +kernel
theorem dX7_blocks_34 : decode cX7_blocks 34 = .ok (.iconst 1, 1) := by decide +kernel
theorem dX7_blocks_35 : decode cX7_blocks 35 = .ok (.if_icmp .ge 13, 3) := by decide +kernel
theorem dX7_blocks_38 : decode cX7_blocks 38 = .ok (.new 74, 3) := by decide +kernel
theorem dX7_blocks_41 : decode cX7_blocks 41 = .ok (.dup, 1) := by decide +kernel
theorem dX7_blocks_42 : decode cX7_blocks 42 = .ok (.ldc 173, 2) := by decide +kernel
theorem dX7_blocks_44 : decode cX7_blocks 44 = .ok (.invokespecial 78, 3) := by decide +kernel
theorem dX7_blocks_47 : decode cX7_blocks 47 = .ok (.athrow, 1) := by decide +kernel
theorem dX7_blocks_48 : decode cX7_blocks 48 = .ok (.aload_n 0, 1) := by decide +kernel
theorem dX7_blocks_49 : decode cX7_blocks 49 = .ok (.getfield 63, 3) := by decide +kernel
theorem dX7_blocks_52 : decode cX7_blocks 52 = .ok (.iconst 1, 1) := by decide +kernel
theorem dX7_blocks_53 : decode cX7_blocks 53 = .ok (.iconst 1, 1) := by decide +kernel
theorem dX7_blocks_54 : decode cX7_blocks 54 = .ok (.invokevirtual 113, 3) := by decide +kernel
theorem dX7_blocks_57 : decode cX7_blocks 57 = .ok (.aload_n 0, 1) := by decide +kernel
theorem dX7_blocks_58 : decode cX7_blocks 58 = .ok (.getfield 63, 3) := by decide +kernel
theorem dX7_blocks_61 : decode cX7_blocks 61 = .ok (.iconst 0, 1) := by decide +kernel
theorem dX7_blocks_62 : decode cX7_blocks 62 = .ok (.aload_n 0, 1) := by decide +kernel
theorem dX7_blocks_63 : decode cX7_blocks 63 = .ok (.getfield 34, 3) := by decide +kernel
theorem dX7_blocks_66 : decode cX7_blocks 66 = .ok (.getfield 167, 3) := by decide +kernel
theorem dX7_blocks_69 : decode cX7_blocks 69 = .ok (.iload_n 1, 1) := by decide +kernel
theorem dX7_blocks_70 : decode cX7_blocks 70 = .ok (.iaload, 1) := by decide +kernel
theorem dX7_blocks_71 : decode cX7_blocks 71 = .ok (.invokestatic 175, 3) := by decide +kernel
theorem dX7_blocks_74 : decode cX7_blocks 74 = .ok (.invokevirtual 113, 3) := by decide +kernel
theorem dX7_blocks_77 : decode cX7_blocks 77 = .ok (.iconst 0, 1) := by decide +kernel
theorem dX7_blocks_78 : decode cX7_blocks 78 = .ok (.istore_n 3, 1) := by decide +kernel
theorem dX7_blocks_79 : decode cX7_blocks 79 = .ok (.iconst 0, 1) := by decide +kernel
theorem dX7_blocks_80 : decode cX7_blocks 80 = .ok (.istore 4, 2) := by decide +kernel
theorem dX7_blocks_82 : decode cX7_blocks 82 = .ok (.iload 4, 2) := by decide +kernel
theorem dX7_blocks_84 : decode cX7_blocks 84 = .ok (.aload_n 0, 1) := by decide +kernel
theorem dX7_blocks_85 : decode cX7_blocks 85 = .ok (.getfield 79, 3) := by decide +kernel
theorem dX7_blocks_88 : decode cX7_blocks 88 = .ok (.if_icmp .ge 37, 3) := by decide +kernel
theorem dX7_blocks_91 : decode cX7_blocks 91 = .ok (.aload_n 0, 1) := by decide +kernel
theorem dX7_blocks_92 : decode cX7_blocks 92 = .ok (.getfield 56, 3) := by decide +kernel
theorem dX7_blocks_95 : decode cX7_blocks 95 = .ok (.aload_n 0, 1) := by decide +kernel
theorem dX7_blocks_96 : decode cX7_blocks 96 = .ok (.getfield 63, 3) := by decide +kernel
theorem dX7_blocks_99 : decode cX7_blocks 99 = .ok (.aload_n 0, 1) := by decide +kernel
theorem dX7_blocks_100 : decode cX7_blocks 100 = .ok (.getfield 28, 3) := by decide +kernel
theorem dX7_blocks_103 : decode cX7_blocks 103 = .ok (.getfield 157, 3) := by decide +kernel
theorem dX7_blocks_106 : decode cX7_blocks 106 = .ok (.iload 4, 2) := by decide +kernel
theorem dX7_blocks_108 : decode cX7_blocks 108 = .ok (.aaload, 1) := by decide +kernel
theorem dX7_blocks_109 : decode cX7_blocks 109 = .ok (.invokevirtual 178, 3) := by decide +kernel
theorem dX7_blocks_112 : decode cX7_blocks 112 = .ok (.iload_n 2, 1) := by decide +kernel
theorem dX7_blocks_113 : decode cX7_blocks 113 = .ok (.if_icmp .ne 6, 3) := by decide +kernel
theorem dX7_blocks_116 : decode cX7_blocks 116 = .ok (.iinc 3 1, 3) := by decide +kernel
theorem dX7_blocks_119 : decode cX7_blocks 119 = .ok (.iinc 4 1, 3) := by decide +kernel
theorem dX7_blocks_122 : decode cX7_blocks 122 = .ok (.goto (-40), 3) := by decide +kernel
theorem dX7_blocks_125 : decode cX7_blocks 125 = .ok (.iload_n 3, 1) := by decide +kernel
theorem dX7_blocks_126 : decode cX7_blocks 126 = .ok (.ireturn, 1) := by decide +kernel
theorem dX7_count_0 : decode cX7_count 0 = .ok (.iload_n 1, 1) := by decide +kernel
theorem dX7_count_1 : decode cX7_count 1 = .ok (.ifCond .ne 8, 3) := by decide +kernel
theorem dX7_count_4 : decode cX7_count 4 = .ok (.aload_n 0, 1) := by decide +kernel
theorem dX7_count_5 : decode cX7_count 5 = .ok (.getfield 79, 3) := by decide +kernel
theorem dX7_count_8 : decode cX7_count 8 = .ok (.ireturn, 1) := by decide +kernel
theorem dX7_count_9 : decode cX7_count 9 = .ok (.iload_n 1, 1) := by decide +kernel
theorem dX7_count_10 : decode cX7_count 10 = .ok (.iconst 1, 1) := by decide +kernel
theorem dX7_count_11 : decode cX7_count 11 = .ok (.if_icmp .ne 8, 3) := by decide +kernel
theorem dX7_count_14 : decode cX7_count 14 = .ok (.aload_n 0, 1) := by decide +kernel
theorem dX7_count_15 : decode cX7_count 15 = .ok (.getfield 83, 3) := by decide +kernel
theorem dX7_count_18 : decode cX7_count 18 = .ok (.ireturn, 1) := by decide +kernel
theorem dX7_count_19 : decode cX7_count 19 = .ok (.iload_n 1, 1) := by decide +kernel
theorem dX7_count_20 : decode cX7_count 20 = .ok (.iconst 2, 1) := by decide +kernel
theorem dX7_count_21 : decode cX7_count 21 = .ok (.if_icmp .eq 5, 3) := by decide +kernel
theorem dX7_count_24 : decode cX7_count 24 = .ok (.iconst (-1), 1) := by decide +kernel
theorem dX7_count_25 : decode cX7_count 25 = .ok (.ireturn, 1) := by decide +kernel
theorem dX7_count_26 : decode cX7_count 26 = .ok (.iconst 0, 1) := by decide +kernel
theorem dX7_count_27 : decode cX7_count 27 = .ok (.istore_n 2, 1) := by decide +kernel
theorem dX7_count_28 : decode cX7_count 28 = .ok (.iconst 0, 1) := by decide +kernel
theorem dX7_count_29 : decode cX7_count 29 = .ok (.istore_n 3, 1) := by decide +kernel
theorem dX7_count_30 : decode cX7_count 30 = .ok (.iload_n 3, 1) := by decide +kernel
theorem dX7_count_31 : decode cX7_count 31 = .ok (.iconst 3, 1) := by decide +kernel
theorem dX7_count_32 : decode cX7_count 32 = .ok (.if_icmp .ge 21, 3) := by decide +kernel
theorem dX7_count_35 : decode cX7_count 35 = .ok (.aload_n 0, 1) := by decide +kernel
theorem dX7_count_36 : decode cX7_count 36 = .ok (.getfield 49, 3) := by decide +kernel
theorem dX7_count_39 : decode cX7_count 39 = .ok (.iload_n 3, 1) := by decide +kernel
theorem dX7_count_40 : decode cX7_count 40 = .ok (.baload, 1) := by decide +kernel
theorem dX7_count_41 : decode cX7_count 41 = .ok (.ifCond .eq 6, 3) := by decide +kernel
theorem dX7_count_44 : decode cX7_count 44 = .ok (.iinc 2 1, 3) := by decide +kernel
theorem dX7_count_47 : decode cX7_count 47 = .ok (.iinc 3 1, 3) := by decide +kernel
theorem dX7_count_50 : decode cX7_count 50 = .ok (.goto (-20), 3) := by decide +kernel
theorem dX7_count_53 : decode cX7_count 53 = .ok (.iload_n 2, 1) := by decide +kernel
theorem dX7_count_54 : decode cX7_count 54 = .ok (.ireturn, 1) := by decide +kernel
set_option maxRecDepth 20000 in
theorem ggX7_needEntry_X7_needCell : GoodIn wsX7_needEntry wsX7_needCell := goodIn_r _ [8, 9, 10, 1, 2, 3, 17, 18, 19, 20, 21, 22, 23, 24, 25, 26, 27, 28, 29, 30, 31, 11, 12, 13, 14, 15, 16] (by decide +kernel) (by decide +kernel)
set_option maxRecDepth 20000 in
theorem gX7_needEntry_X7_needCell : GoodIn wsX7_needEntry (wsV RX7 182 RX7 yX7_needCell wsX7_needCell) := goodIn_app (goodIn_of _ (by decide +kernel)) ggX7_needEntry_X7_needCell
theorem dX7_needEntry_0 : decode cX7_needEntry 0 = .ok (.aload_n 0, 1) := by decide +kernel
theorem dX7_needEntry_1 : decode cX7_needEntry 1 = .ok (.iload_n 1, 1) := by decide +kernel
theorem dX7_needEntry_2 : decode cX7_needEntry 2 = .ok (.iload_n 2, 1) := by decide +kernel
theorem dX7_needEntry_3 : decode cX7_needEntry 3 = .ok (.invokevirtual 182, 3) := by decide +kernel
theorem dX7_needEntry_6 : decode cX7_needEntry 6 = .ok (.iload_n 3, 1) := by decide +kernel
theorem dX7_needEntry_7 : decode cX7_needEntry 7 = .ok (.ifCond .lt 8, 3) := by decide +kernel
theorem dX7_needEntry_10 : decode cX7_needEntry 10 = .ok (.iload_n 3, 1) := by decide +kernel
theorem dX7_needEntry_11 : decode cX7_needEntry 11 = .ok (.iconst 4, 1) := by decide +kernel
theorem dX7_needEntry_12 : decode cX7_needEntry 12 = .ok (.if_icmp .lt 13, 3) := by decide +kernel
theorem dX7_needEntry_15 : decode cX7_needEntry 15 = .ok (.new 185, 3) := by decide +kernel
theorem dX7_needEntry_18 : decode cX7_needEntry 18 = .ok (.dup, 1) := by decide +kernel
theorem dX7_needEntry_19 : decode cX7_needEntry 19 = .ok (.ldc 187, 2) := by decide +kernel
theorem dX7_needEntry_21 : decode cX7_needEntry 21 = .ok (.invokespecial 189, 3) := by decide +kernel
theorem dX7_needEntry_24 : decode cX7_needEntry 24 = .ok (.athrow, 1) := by decide +kernel
theorem dX7_needEntry_25 : decode cX7_needEntry 25 = .ok (.return_, 1) := by decide +kernel
theorem dX7_needCell_0 : decode cX7_needCell 0 = .ok (.iload_n 1, 1) := by decide +kernel
theorem dX7_needCell_1 : decode cX7_needCell 1 = .ok (.ifCond .lt 23, 3) := by decide +kernel
theorem dX7_needCell_4 : decode cX7_needCell 4 = .ok (.iload_n 1, 1) := by decide +kernel
theorem dX7_needCell_5 : decode cX7_needCell 5 = .ok (.aload_n 0, 1) := by decide +kernel
theorem dX7_needCell_6 : decode cX7_needCell 6 = .ok (.getfield 79, 3) := by decide +kernel
theorem dX7_needCell_9 : decode cX7_needCell 9 = .ok (.if_icmp .ge 15, 3) := by decide +kernel
theorem dX7_needCell_12 : decode cX7_needCell 12 = .ok (.iload_n 2, 1) := by decide +kernel
theorem dX7_needCell_13 : decode cX7_needCell 13 = .ok (.ifCond .lt 11, 3) := by decide +kernel
theorem dX7_needCell_16 : decode cX7_needCell 16 = .ok (.iload_n 2, 1) := by decide +kernel
theorem dX7_needCell_17 : decode cX7_needCell 17 = .ok (.aload_n 0, 1) := by decide +kernel
theorem dX7_needCell_18 : decode cX7_needCell 18 = .ok (.getfield 83, 3) := by decide +kernel
theorem dX7_needCell_21 : decode cX7_needCell 21 = .ok (.if_icmp .lt 13, 3) := by decide +kernel
theorem dX7_needCell_24 : decode cX7_needCell 24 = .ok (.new 185, 3) := by decide +kernel
theorem dX7_needCell_27 : decode cX7_needCell 27 = .ok (.dup, 1) := by decide +kernel
theorem dX7_needCell_28 : decode cX7_needCell 28 = .ok (.ldc 190, 2) := by decide +kernel
theorem dX7_needCell_30 : decode cX7_needCell 30 = .ok (.invokespecial 189, 3) := by decide +kernel
theorem dX7_needCell_33 : decode cX7_needCell 33 = .ok (.athrow, 1) := by decide +kernel
theorem dX7_needCell_34 : decode cX7_needCell 34 = .ok (.return_, 1) := by decide +kernel
theorem dX7_needForm_0 : decode cX7_needForm 0 = .ok (.iload_n 1, 1) := by decide +kernel
theorem dX7_needForm_1 : decode cX7_needForm 1 = .ok (.ifCond .lt 8, 3) := by decide +kernel
theorem dX7_needForm_4 : decode cX7_needForm 4 = .ok (.iload_n 1, 1) := by decide +kernel
theorem dX7_needForm_5 : decode cX7_needForm 5 = .ok (.iconst 3, 1) := by decide +kernel
theorem dX7_needForm_6 : decode cX7_needForm 6 = .ok (.if_icmp .lt 13, 3) := by decide +kernel
theorem dX7_needForm_9 : decode cX7_needForm 9 = .ok (.new 74, 3) := by decide +kernel
theorem dX7_needForm_12 : decode cX7_needForm 12 = .ok (.dup, 1) := by decide +kernel
theorem dX7_needForm_13 : decode cX7_needForm 13 = .ok (.ldc 192, 2) := by decide +kernel
theorem dX7_needForm_15 : decode cX7_needForm 15 = .ok (.invokespecial 78, 3) := by decide +kernel
theorem dX7_needForm_18 : decode cX7_needForm 18 = .ok (.athrow, 1) := by decide +kernel
theorem dX7_needForm_19 : decode cX7_needForm 19 = .ok (.return_, 1) := by decide +kernel
theorem dX7_needSquare_0 : decode cX7_needSquare 0 = .ok (.aload_n 0, 1) := by decide +kernel
theorem dX7_needSquare_1 : decode cX7_needSquare 1 = .ok (.getfield 79, 3) := by decide +kernel
theorem dX7_needSquare_4 : decode cX7_needSquare 4 = .ok (.aload_n 0, 1) := by decide +kernel
theorem dX7_needSquare_5 : decode cX7_needSquare 5 = .ok (.getfield 83, 3) := by decide +kernel
theorem dX7_needSquare_8 : decode cX7_needSquare 8 = .ok (.if_icmp .eq 13, 3) := by decide +kernel
theorem dX7_needSquare_11 : decode cX7_needSquare 11 = .ok (.new 194, 3) := by decide +kernel
theorem dX7_needSquare_14 : decode cX7_needSquare 14 = .ok (.dup, 1) := by decide +kernel
theorem dX7_needSquare_15 : decode cX7_needSquare 15 = .ok (.ldc 196, 2) := by decide +kernel
theorem dX7_needSquare_17 : decode cX7_needSquare 17 = .ok (.invokespecial 198, 3) := by decide +kernel
theorem dX7_needSquare_20 : decode cX7_needSquare 20 = .ok (.athrow, 1) := by decide +kernel
theorem dX7_needSquare_21 : decode cX7_needSquare 21 = .ok (.return_, 1) := by decide +kernel
set_option maxRecDepth 20000 in
theorem ggX7_formCell_X7_needForm : GoodIn wsX7_formCell wsX7_needForm := goodIn_ca (goodIn_r _ [9, 10, 11] (by decide +kernel) (by decide +kernel)) (goodIn_sub (fun _ h => List.mem_cons_of_mem _ (List.mem_append_right _ h)) (by decide +kernel))
set_option maxRecDepth 20000 in
theorem gX7_formCell_X7_needForm : GoodIn wsX7_formCell (wsV RX7 117 RX7 yX7_needForm wsX7_needForm) := goodIn_app (goodIn_of _ (by decide +kernel)) ggX7_formCell_X7_needForm
set_option maxRecDepth 20000 in
theorem ggX7_formCell_X7_needCell : GoodIn wsX7_formCell wsX7_needCell := goodIn_r _ [15, 16, 17, 18, 19, 20, 27, 28, 29, 30, 31, 32, 33, 34, 35, 36, 37, 38, 39, 40, 41, 42, 43, 44, 45, 46, 47] (by decide +kernel) (by decide +kernel)
set_option maxRecDepth 20000 in
theorem gX7_formCell_X7_needCell : GoodIn wsX7_formCell (wsV RX7 182 RX7 yX7_needCell wsX7_needCell) := goodIn_app (goodIn_of _ (by decide +kernel)) ggX7_formCell_X7_needCell
set_option maxRecDepth 20000 in
theorem ggX7_formCell_X2_cell : GoodIn wsX7_formCell wsX2_cell := goodIn_r _ [25, 26, 48, 49] (by decide +kernel) (by decide +kernel)
set_option maxRecDepth 20000 in
theorem gX7_formCell_X2_cell : GoodIn wsX7_formCell (wsV RX7 99 RX2 yX2_cell wsX2_cell) := goodIn_app (goodIn_of _ (by decide +kernel)) ggX7_formCell_X2_cell
theorem dX7_formCell_0 : decode cX7_formCell 0 = .ok (.aload_n 0, 1) := by decide +kernel
theorem dX7_formCell_1 : decode cX7_formCell 1 = .ok (.iload_n 1, 1) := by decide +kernel
theorem dX7_formCell_2 : decode cX7_formCell 2 = .ok (.invokevirtual 117, 3) := by decide +kernel
theorem dX7_formCell_5 : decode cX7_formCell 5 = .ok (.aload_n 0, 1) := by decide +kernel
theorem dX7_formCell_6 : decode cX7_formCell 6 = .ok (.getfield 49, 3) := by decide +kernel
theorem dX7_formCell_9 : decode cX7_formCell 9 = .ok (.iload_n 1, 1) := by decide +kernel
theorem dX7_formCell_10 : decode cX7_formCell 10 = .ok (.baload, 1) := by decide +kernel
theorem dX7_formCell_11 : decode cX7_formCell 11 = .ok (.ifCond .ne 13, 3) := by decide +kernel
theorem dX7_formCell_14 : decode cX7_formCell 14 = .ok (.new 194, 3) := by decide +kernel
theorem dX7_formCell_17 : decode cX7_formCell 17 = .ok (.dup, 1) := by decide +kernel
theorem dX7_formCell_18 : decode cX7_formCell 18 = .ok (.ldc 199, 2) := by decide +kernel
theorem dX7_formCell_20 : decode cX7_formCell 20 = .ok (.invokespecial 198, 3) := by decide +kernel
theorem dX7_formCell_23 : decode cX7_formCell 23 = .ok (.athrow, 1) := by decide +kernel
theorem dX7_formCell_24 : decode cX7_formCell 24 = .ok (.aload_n 0, 1) := by decide +kernel
theorem dX7_formCell_25 : decode cX7_formCell 25 = .ok (.iload_n 2, 1) := by decide +kernel
theorem dX7_formCell_26 : decode cX7_formCell 26 = .ok (.iload_n 3, 1) := by decide +kernel
theorem dX7_formCell_27 : decode cX7_formCell 27 = .ok (.invokevirtual 182, 3) := by decide +kernel
theorem dX7_formCell_30 : decode cX7_formCell 30 = .ok (.aload_n 0, 1) := by decide +kernel
theorem dX7_formCell_31 : decode cX7_formCell 31 = .ok (.getfield 45, 3) := by decide +kernel
theorem dX7_formCell_34 : decode cX7_formCell 34 = .ok (.iload_n 1, 1) := by decide +kernel
theorem dX7_formCell_35 : decode cX7_formCell 35 = .ok (.aaload, 1) := by decide +kernel
theorem dX7_formCell_36 : decode cX7_formCell 36 = .ok (.iload_n 2, 1) := by decide +kernel
theorem dX7_formCell_37 : decode cX7_formCell 37 = .ok (.iload_n 3, 1) := by decide +kernel
theorem dX7_formCell_38 : decode cX7_formCell 38 = .ok (.invokevirtual 99, 3) := by decide +kernel
theorem dX7_formCell_41 : decode cX7_formCell 41 = .ok (.areturn, 1) := by decide +kernel
theorem dX7_forgetEntries_0 : decode cX7_forgetEntries 0 = .ok (.aload_n 0, 1) := by decide +kernel
theorem dX7_forgetEntries_1 : decode cX7_forgetEntries 1 = .ok (.iconst 0, 1) := by decide +kernel
theorem dX7_forgetEntries_2 : decode cX7_forgetEntries 2 = .ok (.putfield 201, 3) := by decide +kernel
theorem dX7_forgetEntries_5 : decode cX7_forgetEntries 5 = .ok (.iconst 0, 1) := by decide +kernel
theorem dX7_forgetEntries_6 : decode cX7_forgetEntries 6 = .ok (.istore_n 1, 1) := by decide +kernel
theorem dX7_forgetEntries_7 : decode cX7_forgetEntries 7 = .ok (.iload_n 1, 1) := by decide +kernel
theorem dX7_forgetEntries_8 : decode cX7_forgetEntries 8 = .ok (.iconst 3, 1) := by decide +kernel
theorem dX7_forgetEntries_9 : decode cX7_forgetEntries 9 = .ok (.if_icmp .ge 16, 3) := by decide +kernel
theorem dX7_forgetEntries_12 : decode cX7_forgetEntries 12 = .ok (.aload_n 0, 1) := by decide +kernel
theorem dX7_forgetEntries_13 : decode cX7_forgetEntries 13 = .ok (.getfield 49, 3) := by decide +kernel
theorem dX7_forgetEntries_16 : decode cX7_forgetEntries 16 = .ok (.iload_n 1, 1) := by decide +kernel
theorem dX7_forgetEntries_17 : decode cX7_forgetEntries 17 = .ok (.iconst 0, 1) := by decide +kernel
theorem dX7_forgetEntries_18 : decode cX7_forgetEntries 18 = .ok (.bastore, 1) := by decide +kernel
theorem dX7_forgetEntries_19 : decode cX7_forgetEntries 19 = .ok (.iinc 1 1, 3) := by decide +kernel
theorem dX7_forgetEntries_22 : decode cX7_forgetEntries 22 = .ok (.goto (-15), 3) := by decide +kernel
theorem dX7_forgetEntries_25 : decode cX7_forgetEntries 25 = .ok (.return_, 1) := by decide +kernel
theorem dX7_forgetNumbers_0 : decode cX7_forgetNumbers 0 = .ok (.aload_n 0, 1) := by decide +kernel
theorem dX7_forgetNumbers_1 : decode cX7_forgetNumbers 1 = .ok (.iconst 0, 1) := by decide +kernel
theorem dX7_forgetNumbers_2 : decode cX7_forgetNumbers 2 = .ok (.putfield 205, 3) := by decide +kernel
theorem dX7_forgetNumbers_5 : decode cX7_forgetNumbers 5 = .ok (.aload_n 0, 1) := by decide +kernel
theorem dX7_forgetNumbers_6 : decode cX7_forgetNumbers 6 = .ok (.iconst 0, 1) := by decide +kernel
theorem dX7_forgetNumbers_7 : decode cX7_forgetNumbers 7 = .ok (.putfield 208, 3) := by decide +kernel
theorem dX7_forgetNumbers_10 : decode cX7_forgetNumbers 10 = .ok (.return_, 1) := by decide +kernel
set_option maxRecDepth 20000 in
theorem ggX7_knowMinors_X3_reckon : GoodIn wsX7_knowMinors wsX3_reckon := goodIn_r _ [8, 9, 10, 11, 12, 13, 7, 14, 15, 16, 17, 18, 19, 20, 21, 22, 23, 24, 25, 26, 27, 28, 29, 30, 31, 32, 33, 34, 35, 36, 37, 38, 39, 40, 41, 42, 43, 44, 45, 46, 47, 48, 49, 50, 51, 52, 53, 54, 55, 56, 57, 58, 59, 60, 61, 62, 63, 64, 65, 66, 67, 68, 69, 70, 71, 72, 73, 74, 75, 76, 77, 78, 79, 80, 81, 82, 83, 84, 85, 86, 87, 88, 89, 90, 91, 92, 93, 94, 95, 96, 97, 98, 99, 115, 116, 117, 118, 119, 120, 121, 122, 123, 124, 125, 126] (by decide +kernel) (by decide +kernel)
set_option maxRecDepth 20000 in
theorem gX7_knowMinors_X3_reckon : GoodIn wsX7_knowMinors (wsV RX7 211 RX3 yX3_reckon wsX3_reckon) := goodIn_app (goodIn_of _ (by decide +kernel)) ggX7_knowMinors_X3_reckon
theorem dX7_knowMinors_0 : decode cX7_knowMinors 0 = .ok (.aload_n 0, 1) := by decide +kernel
theorem dX7_knowMinors_1 : decode cX7_knowMinors 1 = .ok (.getfield 201, 3) := by decide +kernel
theorem dX7_knowMinors_4 : decode cX7_knowMinors 4 = .ok (.ifCond .ne 19, 3) := by decide +kernel
theorem dX7_knowMinors_7 : decode cX7_knowMinors 7 = .ok (.aload_n 0, 1) := by decide +kernel
theorem dX7_knowMinors_8 : decode cX7_knowMinors 8 = .ok (.getfield 21, 3) := by decide +kernel
theorem dX7_knowMinors_11 : decode cX7_knowMinors 11 = .ok (.aload_n 0, 1) := by decide +kernel
theorem dX7_knowMinors_12 : decode cX7_knowMinors 12 = .ok (.getfield 14, 3) := by decide +kernel
theorem dX7_knowMinors_15 : decode cX7_knowMinors 15 = .ok (.invokevirtual 211, 3) := by decide +kernel
theorem dX7_knowMinors_18 : decode cX7_knowMinors 18 = .ok (.aload_n 0, 1) := by decide +kernel
theorem dX7_knowMinors_19 : decode cX7_knowMinors 19 = .ok (.iconst 1, 1) := by decide +kernel
theorem dX7_knowMinors_20 : decode cX7_knowMinors 20 = .ok (.putfield 201, 3) := by decide +kernel
theorem dX7_knowMinors_23 : decode cX7_knowMinors 23 = .ok (.return_, 1) := by decide +kernel
set_option maxRecDepth 20000 in
theorem ggX7_knowNumbersMinors_X2_clear : GoodIn wsX7_knowNumbersMinors wsX2_clear := goodIn_r _ [11, 12, 13, 14, 15, 16, 17, 18, 19, 20, 21, 22, 23, 24, 25, 138, 139, 140, 141] (by decide +kernel) (by decide +kernel)
set_option maxRecDepth 20000 in
theorem gX7_knowNumbersMinors_X2_clear : GoodIn wsX7_knowNumbersMinors (wsV RX7 86 RX2 yX2_clear wsX2_clear) := goodIn_app (goodIn_of _ (by decide +kernel)) ggX7_knowNumbersMinors_X2_clear
set_option maxRecDepth 20000 in
theorem ggX7_knowNumbersMinors_X2_cell : GoodIn wsX7_knowNumbersMinors wsX2_cell := goodIn_r _ [29, 12, 138, 139] (by decide +kernel) (by decide +kernel)
set_option maxRecDepth 20000 in
theorem gX7_knowNumbersMinors_X2_cell : GoodIn wsX7_knowNumbersMinors (wsV RX7 99 RX2 yX2_cell wsX2_cell) := goodIn_app (goodIn_of _ (by decide +kernel)) ggX7_knowNumbersMinors_X2_cell
set_option maxRecDepth 20000 in
theorem ggX7_knowNumbersMinors_X4_numberAt : GoodIn wsX7_knowNumbersMinors wsX4_numberAt := goodIn_r _ [33, 24, 25, 140, 141] (by decide +kernel) (by decide +kernel)
set_option maxRecDepth 20000 in
theorem gX7_knowNumbersMinors_X4_numberAt : GoodIn wsX7_knowNumbersMinors (wsV RX7 109 RX4 yX4_numberAt wsX4_numberAt) := goodIn_app (goodIn_of _ (by decide +kernel)) ggX7_knowNumbersMinors_X4_numberAt
set_option maxRecDepth 20000 in
theorem ggX7_knowNumbersMinors_X7_negative : GoodIn wsX7_knowNumbersMinors wsX7_negative := goodIn_r _ [37] (by decide +kernel) (by decide +kernel)
set_option maxRecDepth 20000 in
theorem gX7_knowNumbersMinors_X7_negative : GoodIn wsX7_knowNumbersMinors (va_wsS RX7 175 yX7_negative wsX7_negative) := goodIn_app (goodIn_of _ (by decide +kernel)) ggX7_knowNumbersMinors_X7_negative
set_option maxRecDepth 20000 in
theorem ggX7_knowNumbersMinors_X4_setNumber : GoodIn wsX7_knowNumbersMinors wsX4_setNumber := goodIn_r _ [41, 25, 24, 42, 43, 44, 45, 46, 47, 48, 22, 49, 140, 141] (by decide +kernel) (by decide +kernel)
set_option maxRecDepth 20000 in
theorem gX7_knowNumbersMinors_X4_setNumber : GoodIn wsX7_knowNumbersMinors (wsV RX7 113 RX4 yX4_setNumber wsX4_setNumber) := goodIn_app (goodIn_of _ (by decide +kernel)) ggX7_knowNumbersMinors_X4_setNumber
set_option maxRecDepth 20000 in
theorem ggX7_knowNumbersMinors_X3_reckon : GoodIn wsX7_knowNumbersMinors wsX3_reckon := goodIn_r _ [54, 55, 56, 57, 58, 59, 53, 60, 61, 62, 39, 40, 22, 41, 25, 24, 42, 43, 44, 45, 46, 47, 48, 49, 63, 20, 21, 23, 64, 65, 66, 67, 68, 69, 70, 71, 72, 73, 74, 75, 76, 77, 78, 27, 28, 10, 29, 12, 79, 80, 81, 82, 83, 84, 85, 86, 87, 88, 89, 90, 91, 92, 93, 94, 95, 96, 97, 98, 99, 100, 101, 102, 103, 36, 104, 105, 106, 107, 108, 109, 110, 111, 112, 113, 114, 115, 116, 117, 118, 119, 120, 121, 122, 142, 143, 144, 145, 146, 140, 141, 138, 139, 147, 148, 149] (by decide +kernel) (by decide +kernel)
set_option maxRecDepth 20000 in
theorem gX7_knowNumbersMinors_X3_reckon : GoodIn wsX7_knowNumbersMinors (wsV RX7 211 RX3 yX3_reckon wsX3_reckon) := goodIn_app (goodIn_of _ (by decide +kernel)) ggX7_knowNumbersMinors_X3_reckon
theorem dX7_knowNumbersMinors_0 : decode cX7_knowNumbersMinors 0 = .ok (.aload_n 0, 1) := by decide +kernel
theorem dX7_knowNumbersMinors_1 : decode cX7_knowNumbersMinors 1 = .ok (.getfield 205, 3) := by decide +kernel
theorem dX7_knowNumbersMinors_4 : decode cX7_knowNumbersMinors 4 = .ok (.ifCond .eq 4, 3) := by decide +kernel
theorem dX7_knowNumbersMinors_7 : decode cX7_knowNumbersMinors 7 = .ok (.return_, 1) := by decide +kernel
theorem dX7_knowNumbersMinors_8 : decode cX7_knowNumbersMinors 8 = .ok (.aload_n 0, 1) := by decide +kernel
theorem dX7_knowNumbersMinors_9 : decode cX7_knowNumbersMinors 9 = .ok (.getfield 25, 3) := by decide +kernel
theorem dX7_knowNumbersMinors_12 : decode cX7_knowNumbersMinors 12 = .ok (.invokevirtual 86, 3) := by decide +kernel
theorem dX7_knowNumbersMinors_15 : decode cX7_knowNumbersMinors 15 = .ok (.iconst 0, 1) := by decide +kernel
theorem dX7_knowNumbersMinors_16 : decode cX7_knowNumbersMinors 16 = .ok (.istore_n 1, 1) := by decide +kernel
theorem dX7_knowNumbersMinors_17 : decode cX7_knowNumbersMinors 17 = .ok (.iload_n 1, 1) := by decide +kernel
theorem dX7_knowNumbersMinors_18 : decode cX7_knowNumbersMinors 18 = .ok (.aload_n 0, 1) := by decide +kernel
theorem dX7_knowNumbersMinors_19 : decode cX7_knowNumbersMinors 19 = .ok (.getfield 79, 3) := by decide +kernel
theorem dX7_knowNumbersMinors_22 : decode cX7_knowNumbersMinors 22 = .ok (.if_icmp .ge 68, 3) := by decide +kernel
theorem dX7_knowNumbersMinors_25 : decode cX7_knowNumbersMinors 25 = .ok (.iconst 0, 1) := by decide +kernel
theorem dX7_knowNumbersMinors_26 : decode cX7_knowNumbersMinors 26 = .ok (.istore_n 2, 1) := by decide +kernel
theorem dX7_knowNumbersMinors_27 : decode cX7_knowNumbersMinors 27 = .ok (.iload_n 2, 1) := by decide +kernel
theorem dX7_knowNumbersMinors_28 : decode cX7_knowNumbersMinors 28 = .ok (.aload_n 0, 1) := by decide +kernel
theorem dX7_knowNumbersMinors_29 : decode cX7_knowNumbersMinors 29 = .ok (.getfield 83, 3) := by decide +kernel
theorem dX7_knowNumbersMinors_32 : decode cX7_knowNumbersMinors 32 = .ok (.if_icmp .ge 38, 3) := by decide +kernel
theorem dX7_knowNumbersMinors_35 : decode cX7_knowNumbersMinors 35 = .ok (.aload_n 0, 1) := by decide +kernel
theorem dX7_knowNumbersMinors_36 : decode cX7_knowNumbersMinors 36 = .ok (.getfield 25, 3) := by decide +kernel
theorem dX7_knowNumbersMinors_39 : decode cX7_knowNumbersMinors 39 = .ok (.iload_n 1, 1) := by decide +kernel
theorem dX7_knowNumbersMinors_40 : decode cX7_knowNumbersMinors 40 = .ok (.iload_n 2, 1) := by decide +kernel
theorem dX7_knowNumbersMinors_41 : decode cX7_knowNumbersMinors 41 = .ok (.invokevirtual 99, 3) := by decide +kernel
theorem dX7_knowNumbersMinors_44 : decode cX7_knowNumbersMinors 44 = .ok (.iconst 0, 1) := by decide +kernel
theorem dX7_knowNumbersMinors_45 : decode cX7_knowNumbersMinors 45 = .ok (.aload_n 0, 1) := by decide +kernel
theorem dX7_knowNumbersMinors_46 : decode cX7_knowNumbersMinors 46 = .ok (.getfield 14, 3) := by decide +kernel
theorem dX7_knowNumbersMinors_49 : decode cX7_knowNumbersMinors 49 = .ok (.iload_n 1, 1) := by decide +kernel
theorem dX7_knowNumbersMinors_50 : decode cX7_knowNumbersMinors 50 = .ok (.iload_n 2, 1) := by decide +kernel
theorem dX7_knowNumbersMinors_51 : decode cX7_knowNumbersMinors 51 = .ok (.invokevirtual 99, 3) := by decide +kernel
theorem dX7_knowNumbersMinors_54 : decode cX7_knowNumbersMinors 54 = .ok (.iconst 0, 1) := by decide +kernel
theorem dX7_knowNumbersMinors_55 : decode cX7_knowNumbersMinors 55 = .ok (.invokevirtual 109, 3) := by decide +kernel
theorem dX7_knowNumbersMinors_58 : decode cX7_knowNumbersMinors 58 = .ok (.invokestatic 175, 3) := by decide +kernel
theorem dX7_knowNumbersMinors_61 : decode cX7_knowNumbersMinors 61 = .ok (.invokevirtual 113, 3) := by decide +kernel
theorem dX7_knowNumbersMinors_64 : decode cX7_knowNumbersMinors 64 = .ok (.iinc 2 1, 3) := by decide +kernel
theorem dX7_knowNumbersMinors_67 : decode cX7_knowNumbersMinors 67 = .ok (.goto (-40), 3) := by decide +kernel
theorem dX7_knowNumbersMinors_70 : decode cX7_knowNumbersMinors 70 = .ok (.aload_n 0, 1) := by decide +kernel
theorem dX7_knowNumbersMinors_71 : decode cX7_knowNumbersMinors 71 = .ok (.getfield 25, 3) := by decide +kernel
theorem dX7_knowNumbersMinors_74 : decode cX7_knowNumbersMinors 74 = .ok (.iload_n 1, 1) := by decide +kernel
theorem dX7_knowNumbersMinors_75 : decode cX7_knowNumbersMinors 75 = .ok (.iload_n 1, 1) := by decide +kernel
theorem dX7_knowNumbersMinors_76 : decode cX7_knowNumbersMinors 76 = .ok (.invokevirtual 99, 3) := by decide +kernel
theorem dX7_knowNumbersMinors_79 : decode cX7_knowNumbersMinors 79 = .ok (.iconst 1, 1) := by decide +kernel
theorem dX7_knowNumbersMinors_80 : decode cX7_knowNumbersMinors 80 = .ok (.iconst 1, 1) := by decide +kernel
theorem dX7_knowNumbersMinors_81 : decode cX7_knowNumbersMinors 81 = .ok (.invokevirtual 113, 3) := by decide +kernel
theorem dX7_knowNumbersMinors_84 : decode cX7_knowNumbersMinors 84 = .ok (.iinc 1 1, 3) := by decide +kernel
theorem dX7_knowNumbersMinors_87 : decode cX7_knowNumbersMinors 87 = .ok (.goto (-70), 3) := by decide +kernel
theorem dX7_knowNumbersMinors_90 : decode cX7_knowNumbersMinors 90 = .ok (.aload_n 0, 1) := by decide +kernel
theorem dX7_knowNumbersMinors_91 : decode cX7_knowNumbersMinors 91 = .ok (.getfield 28, 3) := by decide +kernel
theorem dX7_knowNumbersMinors_94 : decode cX7_knowNumbersMinors 94 = .ok (.aload_n 0, 1) := by decide +kernel
theorem dX7_knowNumbersMinors_95 : decode cX7_knowNumbersMinors 95 = .ok (.getfield 25, 3) := by decide +kernel
theorem dX7_knowNumbersMinors_98 : decode cX7_knowNumbersMinors 98 = .ok (.invokevirtual 211, 3) := by decide +kernel
theorem dX7_knowNumbersMinors_101 : decode cX7_knowNumbersMinors 101 = .ok (.aload_n 0, 1) := by decide +kernel
theorem dX7_knowNumbersMinors_102 : decode cX7_knowNumbersMinors 102 = .ok (.iconst 1, 1) := by decide +kernel
theorem dX7_knowNumbersMinors_103 : decode cX7_knowNumbersMinors 103 = .ok (.putfield 205, 3) := by decide +kernel
theorem dX7_knowNumbersMinors_106 : decode cX7_knowNumbersMinors 106 = .ok (.return_, 1) := by decide +kernel
set_option maxRecDepth 20000 in
theorem ggX7_knowRoots_X7_knowNumbersMinors : GoodIn wsX7_knowRoots wsX7_knowNumbersMinors := goodIn_r _ [9, 10, 11, 4, 12, 13, 3, 14, 15, 16, 17, 18, 19, 20, 21, 22, 23, 24, 25, 26, 27, 28, 29, 30, 31, 32, 33, 34, 35, 36, 37, 38, 39, 40, 41, 42, 8, 43, 44, 45, 46, 47, 48, 49, 50, 51, 52, 53, 54, 55, 56, 57, 58, 59, 60, 61, 62, 63, 64, 65, 66, 67, 68, 69, 70, 71, 72, 73, 74, 75, 76, 77, 78, 79, 80, 81, 82, 83, 84, 85, 86, 87, 88, 89, 90, 91, 92, 93, 94, 95, 96, 97, 98, 99, 100, 101, 102, 103, 104, 105, 106, 107, 108, 109, 110, 111, 112, 113, 114, 115, 116, 117, 118, 119, 120, 121, 122, 123, 124, 125, 126, 127, 128, 171, 172, 173, 174, 175, 176, 177, 178, 179, 180, 181, 182, 183, 184, 185, 186, 187, 188, 189, 190, 191, 192, 193, 194, 195, 196, 197] (by decide +kernel) (by decide +kernel)
set_option maxRecDepth 20000 in
theorem gX7_knowRoots_X7_knowNumbersMinors : GoodIn wsX7_knowRoots (wsV RX7 154 RX7 yX7_knowNumbersMinors wsX7_knowNumbersMinors) := goodIn_app (goodIn_of _ (by decide +kernel)) ggX7_knowRoots_X7_knowNumbersMinors
set_option maxRecDepth 20000 in
theorem ggX7_knowRoots_X3_leading : GoodIn wsX7_knowRoots wsX3_leading := goodIn_r _ [132, 63, 64, 65, 59, 66, 67, 190, 191, 192, 193, 194] (by decide +kernel) (by decide +kernel)
set_option maxRecDepth 20000 in
theorem gX7_knowRoots_X3_leading : GoodIn wsX7_knowRoots (wsV RX7 150 RX3 yX3_leading wsX3_leading) := goodIn_app (goodIn_of _ (by decide +kernel)) ggX7_knowRoots_X3_leading
set_option maxRecDepth 20000 in
theorem ggX7_knowRoots_X5_reckon : GoodIn wsX7_knowRoots wsX5_reckon := goodIn_r _ [137, 138, 139, 140, 141, 142, 143, 144, 145, 136, 146, 147, 148, 149, 150, 45, 46, 29, 47, 32, 31, 48, 49, 50, 51, 52, 53, 54, 55, 151, 27, 28, 30, 152, 86, 87, 88, 89, 90, 91, 153, 106, 107, 108, 104, 109, 8, 110, 154, 101, 102, 103, 155, 38, 39, 40, 156, 157, 158, 159, 160, 93, 94, 95, 96, 97, 98, 99, 100, 105, 111, 112, 113, 114, 115, 116, 117, 118, 161, 162, 163, 164, 165, 126, 127, 128, 42, 43, 166, 167, 168, 169, 170, 198, 199, 200, 201, 202, 203, 204, 205, 206, 188, 189, 195, 196, 197] (by decide +kernel) (by decide +kernel)
set_option maxRecDepth 20000 in
theorem gX7_knowRoots_X5_reckon : GoodIn wsX7_knowRoots (wsV RX7 212 RX5 yX5_reckon wsX5_reckon) := goodIn_app (goodIn_of _ (by decide +kernel)) ggX7_knowRoots_X5_reckon
theorem dX7_knowRoots_0 : decode cX7_knowRoots 0 = .ok (.aload_n 0, 1) := by decide +kernel
theorem dX7_knowRoots_1 : decode cX7_knowRoots 1 = .ok (.invokevirtual 154, 3) := by decide +kernel
theorem dX7_knowRoots_4 : decode cX7_knowRoots 4 = .ok (.aload_n 0, 1) := by decide +kernel
theorem dX7_knowRoots_5 : decode cX7_knowRoots 5 = .ok (.getfield 208, 3) := by decide +kernel
theorem dX7_knowRoots_8 : decode cX7_knowRoots 8 = .ok (.ifCond .ne 26, 3) := by decide +kernel
theorem dX7_knowRoots_11 : decode cX7_knowRoots 11 = .ok (.aload_n 0, 1) := by decide +kernel
theorem dX7_knowRoots_12 : decode cX7_knowRoots 12 = .ok (.getfield 34, 3) := by decide +kernel
theorem dX7_knowRoots_15 : decode cX7_knowRoots 15 = .ok (.aload_n 0, 1) := by decide +kernel
theorem dX7_knowRoots_16 : decode cX7_knowRoots 16 = .ok (.getfield 28, 3) := by decide +kernel
theorem dX7_knowRoots_19 : decode cX7_knowRoots 19 = .ok (.aload_n 0, 1) := by decide +kernel
theorem dX7_knowRoots_20 : decode cX7_knowRoots 20 = .ok (.getfield 79, 3) := by decide +kernel
theorem dX7_knowRoots_23 : decode cX7_knowRoots 23 = .ok (.invokevirtual 150, 3) := by decide +kernel
theorem dX7_knowRoots_26 : decode cX7_knowRoots 26 = .ok (.invokevirtual 212, 3) := by decide +kernel
theorem dX7_knowRoots_29 : decode cX7_knowRoots 29 = .ok (.aload_n 0, 1) := by decide +kernel
theorem dX7_knowRoots_30 : decode cX7_knowRoots 30 = .ok (.iconst 1, 1) := by decide +kernel
theorem dX7_knowRoots_31 : decode cX7_knowRoots 31 = .ok (.putfield 208, 3) := by decide +kernel
theorem dX7_knowRoots_34 : decode cX7_knowRoots 34 = .ok (.return_, 1) := by decide +kernel
set_option maxRecDepth 20000 in
theorem ggX7_makeSmith_X2_clear : GoodIn wsX7_makeSmith wsX2_clear := goodIn_r _ [7, 8, 9, 10, 11, 12, 13, 14, 15, 16, 17, 18, 19, 20, 21, 59, 60, 61, 62] (by decide +kernel) (by decide +kernel)
set_option maxRecDepth 20000 in
theorem gX7_makeSmith_X2_clear : GoodIn wsX7_makeSmith (wsV RX7 86 RX2 yX2_clear wsX2_clear) := goodIn_app (goodIn_of _ (by decide +kernel)) ggX7_makeSmith_X2_clear
set_option maxRecDepth 20000 in
theorem ggX7_makeSmith_X2_cell : GoodIn wsX7_makeSmith wsX2_cell := goodIn_r _ [25, 8, 59, 60] (by decide +kernel) (by decide +kernel)
set_option maxRecDepth 20000 in
theorem gX7_makeSmith_X2_cell : GoodIn wsX7_makeSmith (wsV RX7 99 RX2 yX2_cell wsX2_cell) := goodIn_app (goodIn_of _ (by decide +kernel)) ggX7_makeSmith_X2_cell
set_option maxRecDepth 20000 in
theorem ggX7_makeSmith_X4_copyFrom : GoodIn wsX7_makeSmith wsX4_copyFrom := goodIn_r _ [29, 20, 21, 30, 31, 32, 33, 34, 16, 17, 18, 19, 35, 36, 37, 38, 61, 62] (by decide +kernel) (by decide +kernel)
set_option maxRecDepth 20000 in
theorem gX7_makeSmith_X4_copyFrom : GoodIn wsX7_makeSmith (wsV RX7 215 RX4 yX4_copyFrom wsX4_copyFrom) := goodIn_app (goodIn_of _ (by decide +kernel)) ggX7_makeSmith_X4_copyFrom
theorem dX7_makeSmith_0 : decode cX7_makeSmith 0 = .ok (.aload_n 0, 1) := by decide +kernel
theorem dX7_makeSmith_1 : decode cX7_makeSmith 1 = .ok (.getfield 45, 3) := by decide +kernel
theorem dX7_makeSmith_4 : decode cX7_makeSmith 4 = .ok (.iconst 1, 1) := by decide +kernel
theorem dX7_makeSmith_5 : decode cX7_makeSmith 5 = .ok (.aaload, 1) := by decide +kernel
theorem dX7_makeSmith_6 : decode cX7_makeSmith 6 = .ok (.astore_n 1, 1) := by decide +kernel
theorem dX7_makeSmith_7 : decode cX7_makeSmith 7 = .ok (.aload_n 1, 1) := by decide +kernel
theorem dX7_makeSmith_8 : decode cX7_makeSmith 8 = .ok (.invokevirtual 86, 3) := by decide +kernel
theorem dX7_makeSmith_11 : decode cX7_makeSmith 11 = .ok (.iconst 0, 1) := by decide +kernel
theorem dX7_makeSmith_12 : decode cX7_makeSmith 12 = .ok (.istore_n 2, 1) := by decide +kernel
theorem dX7_makeSmith_13 : decode cX7_makeSmith 13 = .ok (.iload_n 2, 1) := by decide +kernel
theorem dX7_makeSmith_14 : decode cX7_makeSmith 14 = .ok (.aload_n 0, 1) := by decide +kernel
theorem dX7_makeSmith_15 : decode cX7_makeSmith 15 = .ok (.getfield 21, 3) := by decide +kernel
theorem dX7_makeSmith_18 : decode cX7_makeSmith 18 = .ok (.getfield 137, 3) := by decide +kernel
theorem dX7_makeSmith_21 : decode cX7_makeSmith 21 = .ok (.if_icmp .ge 27, 3) := by decide +kernel
theorem dX7_makeSmith_24 : decode cX7_makeSmith 24 = .ok (.aload_n 1, 1) := by decide +kernel
theorem dX7_makeSmith_25 : decode cX7_makeSmith 25 = .ok (.iload_n 2, 1) := by decide +kernel
theorem dX7_makeSmith_26 : decode cX7_makeSmith 26 = .ok (.iload_n 2, 1) := by decide +kernel
theorem dX7_makeSmith_27 : decode cX7_makeSmith 27 = .ok (.invokevirtual 99, 3) := by decide +kernel
theorem dX7_makeSmith_30 : decode cX7_makeSmith 30 = .ok (.aload_n 0, 1) := by decide +kernel
theorem dX7_makeSmith_31 : decode cX7_makeSmith 31 = .ok (.getfield 21, 3) := by decide +kernel
theorem dX7_makeSmith_34 : decode cX7_makeSmith 34 = .ok (.getfield 157, 3) := by decide +kernel
theorem dX7_makeSmith_37 : decode cX7_makeSmith 37 = .ok (.iload_n 2, 1) := by decide +kernel
theorem dX7_makeSmith_38 : decode cX7_makeSmith 38 = .ok (.aaload, 1) := by decide +kernel
theorem dX7_makeSmith_39 : decode cX7_makeSmith 39 = .ok (.invokevirtual 215, 3) := by decide +kernel
theorem dX7_makeSmith_42 : decode cX7_makeSmith 42 = .ok (.iinc 2 1, 3) := by decide +kernel
theorem dX7_makeSmith_45 : decode cX7_makeSmith 45 = .ok (.goto (-32), 3) := by decide +kernel
theorem dX7_makeSmith_48 : decode cX7_makeSmith 48 = .ok (.return_, 1) := by decide +kernel
set_option maxRecDepth 20000 in
theorem ggX7_makeInverse_X3_leading : GoodIn wsX7_makeInverse wsX3_leading := goodIn_r _ [10, 11, 12, 13, 9, 14, 15, 74, 75, 76, 77, 78] (by decide +kernel) (by decide +kernel)
set_option maxRecDepth 20000 in
theorem gX7_makeInverse_X3_leading : GoodIn wsX7_makeInverse (wsV RX7 150 RX3 yX3_leading wsX3_leading) := goodIn_app (goodIn_of _ (by decide +kernel)) ggX7_makeInverse_X3_leading
set_option maxRecDepth 20000 in
theorem ggX7_makeInverse_X4_numberAt : GoodIn wsX7_makeInverse wsX4_numberAt := goodIn_r _ [20, 21, 22, 72, 73] (by decide +kernel) (by decide +kernel)
set_option maxRecDepth 20000 in
theorem gX7_makeInverse_X4_numberAt : GoodIn wsX7_makeInverse (wsV RX7 109 RX4 yX4_numberAt wsX4_numberAt) := goodIn_app (goodIn_of _ (by decide +kernel)) ggX7_makeInverse_X4_numberAt
set_option maxRecDepth 20000 in
theorem ggX7_makeInverse_X7_inverseOf : GoodIn wsX7_makeInverse wsX7_inverseOf := goodIn_r _ [26] (by decide +kernel) (by decide +kernel)
set_option maxRecDepth 20000 in
theorem gX7_makeInverse_X7_inverseOf : GoodIn wsX7_makeInverse (va_wsS RX7 218 yX7_inverseOf wsX7_inverseOf) := goodIn_app (goodIn_of _ (by decide +kernel)) ggX7_makeInverse_X7_inverseOf
set_option maxRecDepth 20000 in
theorem ggX7_makeInverse_X2_cell : GoodIn wsX7_makeInverse wsX2_cell := goodIn_r _ [31, 32, 79, 80] (by decide +kernel) (by decide +kernel)
set_option maxRecDepth 20000 in
theorem gX7_makeInverse_X2_cell : GoodIn wsX7_makeInverse (wsV RX7 99 RX2 yX2_cell wsX2_cell) := goodIn_app (goodIn_of _ (by decide +kernel)) ggX7_makeInverse_X2_cell
set_option maxRecDepth 20000 in
theorem ggX7_makeInverse_X3_of : GoodIn wsX7_makeInverse wsX3_of := goodIn_r _ [14, 15, 74, 75, 76, 77, 78] (by decide +kernel) (by decide +kernel)
set_option maxRecDepth 20000 in
theorem gX7_makeInverse_X3_of : GoodIn wsX7_makeInverse (wsV RX7 221 RX3 yX3_of wsX3_of) := goodIn_app (goodIn_of _ (by decide +kernel)) ggX7_makeInverse_X3_of
set_option maxRecDepth 20000 in
theorem ggX7_makeInverse_X4_copyFrom : GoodIn wsX7_makeInverse wsX4_copyFrom := goodIn_r _ [37, 21, 22, 38, 39, 40, 41, 42, 43, 44, 19, 45, 46, 47, 48, 49, 72, 73] (by decide +kernel) (by decide +kernel)
set_option maxRecDepth 20000 in
theorem gX7_makeInverse_X4_copyFrom : GoodIn wsX7_makeInverse (wsV RX7 215 RX4 yX4_copyFrom wsX4_copyFrom) := goodIn_app (goodIn_of _ (by decide +kernel)) ggX7_makeInverse_X4_copyFrom
set_option maxRecDepth 20000 in
theorem ggX7_makeInverse_X7_negative : GoodIn wsX7_makeInverse wsX7_negative := goodIn_r _ [52] (by decide +kernel) (by decide +kernel)
set_option maxRecDepth 20000 in
theorem gX7_makeInverse_X7_negative : GoodIn wsX7_makeInverse (va_wsS RX7 175 yX7_negative wsX7_negative) := goodIn_app (goodIn_of _ (by decide +kernel)) ggX7_makeInverse_X7_negative
set_option maxRecDepth 20000 in
theorem ggX7_makeInverse_X4_multiply : GoodIn wsX7_makeInverse wsX4_multiply := goodIn_r _ [56, 21, 22, 72, 73] (by decide +kernel) (by decide +kernel)
set_option maxRecDepth 20000 in
theorem gX7_makeInverse_X4_multiply : GoodIn wsX7_makeInverse (wsV RX7 224 RX4 yX4_multiply wsX4_multiply) := goodIn_app (goodIn_of _ (by decide +kernel)) ggX7_makeInverse_X4_multiply
theorem dX7_makeInverse_0 : decode cX7_makeInverse 0 = .ok (.aload_n 0, 1) := by decide +kernel
theorem dX7_makeInverse_1 : decode cX7_makeInverse 1 = .ok (.getfield 21, 3) := by decide +kernel
theorem dX7_makeInverse_4 : decode cX7_makeInverse 4 = .ok (.aload_n 0, 1) := by decide +kernel
theorem dX7_makeInverse_5 : decode cX7_makeInverse 5 = .ok (.getfield 79, 3) := by decide +kernel
theorem dX7_makeInverse_8 : decode cX7_makeInverse 8 = .ok (.invokevirtual 150, 3) := by decide +kernel
theorem dX7_makeInverse_11 : decode cX7_makeInverse 11 = .ok (.astore_n 1, 1) := by decide +kernel
theorem dX7_makeInverse_12 : decode cX7_makeInverse 12 = .ok (.aload_n 0, 1) := by decide +kernel
theorem dX7_makeInverse_13 : decode cX7_makeInverse 13 = .ok (.getfield 79, 3) := by decide +kernel
theorem dX7_makeInverse_16 : decode cX7_makeInverse 16 = .ok (.aload_n 0, 1) := by decide +kernel
theorem dX7_makeInverse_17 : decode cX7_makeInverse 17 = .ok (.getfield 83, 3) := by decide +kernel
theorem dX7_makeInverse_20 : decode cX7_makeInverse 20 = .ok (.if_icmp .ne 10, 3) := by decide +kernel
theorem dX7_makeInverse_23 : decode cX7_makeInverse 23 = .ok (.aload_n 1, 1) := by decide +kernel
theorem dX7_makeInverse_24 : decode cX7_makeInverse 24 = .ok (.getfield 144, 3) := by decide +kernel
theorem dX7_makeInverse_27 : decode cX7_makeInverse 27 = .ok (.ifCond .eq 5, 3) := by decide +kernel
theorem dX7_makeInverse_30 : decode cX7_makeInverse 30 = .ok (.iconst (-1), 1) := by decide +kernel
theorem dX7_makeInverse_31 : decode cX7_makeInverse 31 = .ok (.ireturn, 1) := by decide +kernel
theorem dX7_makeInverse_32 : decode cX7_makeInverse 32 = .ok (.aload_n 1, 1) := by decide +kernel
theorem dX7_makeInverse_33 : decode cX7_makeInverse 33 = .ok (.iconst 0, 1) := by decide +kernel
theorem dX7_makeInverse_34 : decode cX7_makeInverse 34 = .ok (.invokevirtual 109, 3) := by decide +kernel
theorem dX7_makeInverse_37 : decode cX7_makeInverse 37 = .ok (.invokestatic 218, 3) := by decide +kernel
theorem dX7_makeInverse_40 : decode cX7_makeInverse 40 = .ok (.istore_n 2, 1) := by decide +kernel
theorem dX7_makeInverse_41 : decode cX7_makeInverse 41 = .ok (.iconst 1, 1) := by decide +kernel
theorem dX7_makeInverse_42 : decode cX7_makeInverse 42 = .ok (.aload_n 0, 1) := by decide +kernel
theorem dX7_makeInverse_43 : decode cX7_makeInverse 43 = .ok (.getfield 79, 3) := by decide +kernel
theorem dX7_makeInverse_46 : decode cX7_makeInverse 46 = .ok (.ishl, 1) := by decide +kernel
theorem dX7_makeInverse_47 : decode cX7_makeInverse 47 = .ok (.iconst 1, 1) := by decide +kernel
theorem dX7_makeInverse_48 : decode cX7_makeInverse 48 = .ok (.isub, 1) := by decide +kernel
theorem dX7_makeInverse_49 : decode cX7_makeInverse 49 = .ok (.istore_n 3, 1) := by decide +kernel
theorem dX7_makeInverse_50 : decode cX7_makeInverse 50 = .ok (.aload_n 0, 1) := by decide +kernel
theorem dX7_makeInverse_51 : decode cX7_makeInverse 51 = .ok (.getfield 45, 3) := by decide +kernel
theorem dX7_makeInverse_54 : decode cX7_makeInverse 54 = .ok (.iconst 2, 1) := by decide +kernel
theorem dX7_makeInverse_55 : decode cX7_makeInverse 55 = .ok (.aaload, 1) := by decide +kernel
theorem dX7_makeInverse_56 : decode cX7_makeInverse 56 = .ok (.astore 4, 2) := by decide +kernel
theorem dX7_makeInverse_58 : decode cX7_makeInverse 58 = .ok (.iconst 0, 1) := by decide +kernel
theorem dX7_makeInverse_59 : decode cX7_makeInverse 59 = .ok (.istore 5, 2) := by decide +kernel
theorem dX7_makeInverse_61 : decode cX7_makeInverse 61 = .ok (.iload 5, 2) := by decide +kernel
theorem dX7_makeInverse_63 : decode cX7_makeInverse 63 = .ok (.aload_n 0, 1) := by decide +kernel
theorem dX7_makeInverse_64 : decode cX7_makeInverse 64 = .ok (.getfield 79, 3) := by decide +kernel
theorem dX7_makeInverse_67 : decode cX7_makeInverse 67 = .ok (.if_icmp .ge 89, 3) := by decide +kernel
theorem dX7_makeInverse_70 : decode cX7_makeInverse 70 = .ok (.iconst 0, 1) := by decide +kernel
theorem dX7_makeInverse_71 : decode cX7_makeInverse 71 = .ok (.istore 6, 2) := by decide +kernel
theorem dX7_makeInverse_73 : decode cX7_makeInverse 73 = .ok (.iload 6, 2) := by decide +kernel
theorem dX7_makeInverse_75 : decode cX7_makeInverse 75 = .ok (.aload_n 0, 1) := by decide +kernel
theorem dX7_makeInverse_76 : decode cX7_makeInverse 76 = .ok (.getfield 83, 3) := by decide +kernel
theorem dX7_makeInverse_79 : decode cX7_makeInverse 79 = .ok (.if_icmp .ge 71, 3) := by decide +kernel
theorem dX7_makeInverse_82 : decode cX7_makeInverse 82 = .ok (.aload 4, 2) := by decide +kernel
theorem dX7_makeInverse_84 : decode cX7_makeInverse 84 = .ok (.iload 5, 2) := by decide +kernel
theorem dX7_makeInverse_86 : decode cX7_makeInverse 86 = .ok (.iload 6, 2) := by decide +kernel
theorem dX7_makeInverse_88 : decode cX7_makeInverse 88 = .ok (.invokevirtual 99, 3) := by decide +kernel
theorem dX7_makeInverse_91 : decode cX7_makeInverse 91 = .ok (.astore 7, 2) := by decide +kernel
theorem dX7_makeInverse_93 : decode cX7_makeInverse 93 = .ok (.aload 7, 2) := by decide +kernel
theorem dX7_makeInverse_95 : decode cX7_makeInverse 95 = .ok (.aload_n 0, 1) := by decide +kernel
theorem dX7_makeInverse_96 : decode cX7_makeInverse 96 = .ok (.getfield 21, 3) := by decide +kernel
theorem dX7_makeInverse_99 : decode cX7_makeInverse 99 = .ok (.iload_n 3, 1) := by decide +kernel
theorem dX7_makeInverse_100 : decode cX7_makeInverse 100 = .ok (.iconst 1, 1) := by decide +kernel
theorem dX7_makeInverse_101 : decode cX7_makeInverse 101 = .ok (.iload 6, 2) := by decide +kernel
theorem dX7_makeInverse_103 : decode cX7_makeInverse 103 = .ok (.ishl, 1) := by decide +kernel
theorem dX7_makeInverse_104 : decode cX7_makeInverse 104 = .ok (.iconst (-1), 1) := by decide +kernel
theorem dX7_makeInverse_105 : decode cX7_makeInverse 105 = .ok (.ixor, 1) := by decide +kernel
theorem dX7_makeInverse_106 : decode cX7_makeInverse 106 = .ok (.iand, 1) := by decide +kernel
theorem dX7_makeInverse_107 : decode cX7_makeInverse 107 = .ok (.iload_n 3, 1) := by decide +kernel
theorem dX7_makeInverse_108 : decode cX7_makeInverse 108 = .ok (.iconst 1, 1) := by decide +kernel
theorem dX7_makeInverse_109 : decode cX7_makeInverse 109 = .ok (.iload 5, 2) := by decide +kernel
theorem dX7_makeInverse_111 : decode cX7_makeInverse 111 = .ok (.ishl, 1) := by decide +kernel
theorem dX7_makeInverse_112 : decode cX7_makeInverse 112 = .ok (.iconst (-1), 1) := by decide +kernel
theorem dX7_makeInverse_113 : decode cX7_makeInverse 113 = .ok (.ixor, 1) := by decide +kernel
theorem dX7_makeInverse_114 : decode cX7_makeInverse 114 = .ok (.iand, 1) := by decide +kernel
theorem dX7_makeInverse_115 : decode cX7_makeInverse 115 = .ok (.invokevirtual 221, 3) := by decide +kernel
theorem dX7_makeInverse_118 : decode cX7_makeInverse 118 = .ok (.invokevirtual 215, 3) := by decide +kernel
theorem dX7_makeInverse_121 : decode cX7_makeInverse 121 = .ok (.aload 7, 2) := by decide +kernel
theorem dX7_makeInverse_123 : decode cX7_makeInverse 123 = .ok (.iload 5, 2) := by decide +kernel
theorem dX7_makeInverse_125 : decode cX7_makeInverse 125 = .ok (.iload 6, 2) := by decide +kernel
theorem dX7_makeInverse_127 : decode cX7_makeInverse 127 = .ok (.iadd, 1) := by decide +kernel
theorem dX7_makeInverse_128 : decode cX7_makeInverse 128 = .ok (.iconst 2, 1) := by decide +kernel
theorem dX7_makeInverse_129 : decode cX7_makeInverse 129 = .ok (.irem, 1) := by decide +kernel
theorem dX7_makeInverse_130 : decode cX7_makeInverse 130 = .ok (.ifCond .ne 7, 3) := by decide +kernel
theorem dX7_makeInverse_133 : decode cX7_makeInverse 133 = .ok (.iload_n 2, 1) := by decide +kernel
theorem dX7_makeInverse_134 : decode cX7_makeInverse 134 = .ok (.goto 7, 3) := by decide +kernel
theorem dX7_makeInverse_137 : decode cX7_makeInverse 137 = .ok (.iload_n 2, 1) := by decide +kernel
theorem dX7_makeInverse_138 : decode cX7_makeInverse 138 = .ok (.invokestatic 175, 3) := by decide +kernel
theorem dX7_makeInverse_141 : decode cX7_makeInverse 141 = .ok (.invokevirtual 224, 3) := by decide +kernel
theorem dX7_makeInverse_144 : decode cX7_makeInverse 144 = .ok (.iinc 6 1, 3) := by decide +kernel
theorem dX7_makeInverse_147 : decode cX7_makeInverse 147 = .ok (.goto (-74), 3) := by decide +kernel
theorem dX7_makeInverse_150 : decode cX7_makeInverse 150 = .ok (.iinc 5 1, 3) := by decide +kernel
theorem dX7_makeInverse_153 : decode cX7_makeInverse 153 = .ok (.goto (-92), 3) := by decide +kernel
theorem dX7_makeInverse_156 : decode cX7_makeInverse 156 = .ok (.aload_n 0, 1) := by decide +kernel
theorem dX7_makeInverse_157 : decode cX7_makeInverse 157 = .ok (.getfield 49, 3) := by decide +kernel
theorem dX7_makeInverse_160 : decode cX7_makeInverse 160 = .ok (.iconst 2, 1) := by decide +kernel
theorem dX7_makeInverse_161 : decode cX7_makeInverse 161 = .ok (.iconst 1, 1) := by decide +kernel
theorem dX7_makeInverse_162 : decode cX7_makeInverse 162 = .ok (.bastore, 1) := by decide +kernel
theorem dX7_makeInverse_163 : decode cX7_makeInverse 163 = .ok (.aload_n 0, 1) := by decide +kernel
theorem dX7_makeInverse_164 : decode cX7_makeInverse 164 = .ok (.getfield 79, 3) := by decide +kernel
theorem dX7_makeInverse_167 : decode cX7_makeInverse 167 = .ok (.ireturn, 1) := by decide +kernel
theorem dX7_negative_0 : decode cX7_negative 0 = .ok (.iload_n 0, 1) := by decide +kernel
theorem dX7_negative_1 : decode cX7_negative 1 = .ok (.ifCond .ne 7, 3) := by decide +kernel
theorem dX7_negative_4 : decode cX7_negative 4 = .ok (.iconst 0, 1) := by decide +kernel
theorem dX7_negative_5 : decode cX7_negative 5 = .ok (.goto 8, 3) := by decide +kernel
theorem dX7_negative_8 : decode cX7_negative 8 = .ok (.sipush 32003, 3) := by decide +kernel
theorem dX7_negative_11 : decode cX7_negative 11 = .ok (.iload_n 0, 1) := by decide +kernel
theorem dX7_negative_12 : decode cX7_negative 12 = .ok (.isub, 1) := by decide +kernel
theorem dX7_negative_13 : decode cX7_negative 13 = .ok (.ireturn, 1) := by decide +kernel
theorem dX7_inverseOf_0 : decode cX7_inverseOf 0 = .ok (.iconst 1, 1) := by decide +kernel
theorem dX7_inverseOf_1 : decode cX7_inverseOf 1 = .ok (.istore_n 1, 1) := by decide +kernel
theorem dX7_inverseOf_2 : decode cX7_inverseOf 2 = .ok (.iload_n 0, 1) := by decide +kernel
theorem dX7_inverseOf_3 : decode cX7_inverseOf 3 = .ok (.istore_n 2, 1) := by decide +kernel
theorem dX7_inverseOf_4 : decode cX7_inverseOf 4 = .ok (.sipush 32001, 3) := by decide +kernel
theorem dX7_inverseOf_7 : decode cX7_inverseOf 7 = .ok (.istore_n 3, 1) := by decide +kernel
theorem dX7_inverseOf_8 : decode cX7_inverseOf 8 = .ok (.iload_n 3, 1) := by decide +kernel
theorem dX7_inverseOf_9 : decode cX7_inverseOf 9 = .ok (.ifCond .le 33, 3) := by decide +kernel
theorem dX7_inverseOf_12 : decode cX7_inverseOf 12 = .ok (.iload_n 3, 1) := by decide +kernel
theorem dX7_inverseOf_13 : decode cX7_inverseOf 13 = .ok (.iconst 1, 1) := by decide +kernel
theorem dX7_inverseOf_14 : decode cX7_inverseOf 14 = .ok (.iand, 1) := by decide +kernel
theorem dX7_inverseOf_15 : decode cX7_inverseOf 15 = .ok (.iconst 1, 1) := by decide +kernel
theorem dX7_inverseOf_16 : decode cX7_inverseOf 16 = .ok (.if_icmp .ne 11, 3) := by decide +kernel
theorem dX7_inverseOf_19 : decode cX7_inverseOf 19 = .ok (.iload_n 1, 1) := by decide +kernel
theorem dX7_inverseOf_20 : decode cX7_inverseOf 20 = .ok (.iload_n 2, 1) := by decide +kernel
theorem dX7_inverseOf_21 : decode cX7_inverseOf 21 = .ok (.imul, 1) := by decide +kernel
theorem dX7_inverseOf_22 : decode cX7_inverseOf 22 = .ok (.sipush 32003, 3) := by decide +kernel
theorem dX7_inverseOf_25 : decode cX7_inverseOf 25 = .ok (.irem, 1) := by decide +kernel
theorem dX7_inverseOf_26 : decode cX7_inverseOf 26 = .ok (.istore_n 1, 1) := by decide +kernel
theorem dX7_inverseOf_27 : decode cX7_inverseOf 27 = .ok (.iload_n 2, 1) := by decide +kernel
theorem dX7_inverseOf_28 : decode cX7_inverseOf 28 = .ok (.iload_n 2, 1) := by decide +kernel
theorem dX7_inverseOf_29 : decode cX7_inverseOf 29 = .ok (.imul, 1) := by decide +kernel
theorem dX7_inverseOf_30 : decode cX7_inverseOf 30 = .ok (.sipush 32003, 3) := by decide +kernel
theorem dX7_inverseOf_33 : decode cX7_inverseOf 33 = .ok (.irem, 1) := by decide +kernel
theorem dX7_inverseOf_34 : decode cX7_inverseOf 34 = .ok (.istore_n 2, 1) := by decide +kernel
theorem dX7_inverseOf_35 : decode cX7_inverseOf 35 = .ok (.iload_n 3, 1) := by decide +kernel
theorem dX7_inverseOf_36 : decode cX7_inverseOf 36 = .ok (.iconst 1, 1) := by decide +kernel
theorem dX7_inverseOf_37 : decode cX7_inverseOf 37 = .ok (.ishr, 1) := by decide +kernel
theorem dX7_inverseOf_38 : decode cX7_inverseOf 38 = .ok (.istore_n 3, 1) := by decide +kernel
theorem dX7_inverseOf_39 : decode cX7_inverseOf 39 = .ok (.goto (-31), 3) := by decide +kernel
theorem dX7_inverseOf_42 : decode cX7_inverseOf 42 = .ok (.iload_n 1, 1) := by decide +kernel
theorem dX7_inverseOf_43 : decode cX7_inverseOf 43 = .ok (.ireturn, 1) := by decide +kernel
theorem dX8_init_0 : decode cX8_init 0 = .ok (.aload_n 0, 1) := by decide +kernel
theorem dX8_init_1 : decode cX8_init 1 = .ok (.invokespecial 1, 3) := by decide +kernel
theorem dX8_init_4 : decode cX8_init 4 = .ok (.aload_n 0, 1) := by decide +kernel
theorem dX8_init_5 : decode cX8_init 5 = .ok (.bipush 64, 2) := by decide +kernel
theorem dX8_init_7 : decode cX8_init 7 = .ok (.newarray .int, 2) := by decide +kernel
theorem dX8_init_9 : decode cX8_init 9 = .ok (.putfield 7, 3) := by decide +kernel
theorem dX8_init_12 : decode cX8_init 12 = .ok (.aload_n 0, 1) := by decide +kernel
theorem dX8_init_13 : decode cX8_init 13 = .ok (.iconst 3, 1) := by decide +kernel
theorem dX8_init_14 : decode cX8_init 14 = .ok (.newarray .boolean, 2) := by decide +kernel
theorem dX8_init_16 : decode cX8_init 16 = .ok (.putfield 13, 3) := by decide +kernel
theorem dX8_init_19 : decode cX8_init 19 = .ok (.aload_n 0, 1) := by decide +kernel
theorem dX8_init_20 : decode cX8_init 20 = .ok (.sipush 1920, 3) := by decide +kernel
theorem dX8_init_23 : decode cX8_init 23 = .ok (.newarray .int, 2) := by decide +kernel
theorem dX8_init_25 : decode cX8_init 25 = .ok (.putfield 17, 3) := by decide +kernel
theorem dX8_init_28 : decode cX8_init 28 = .ok (.aload_n 0, 1) := by decide +kernel
theorem dX8_init_29 : decode cX8_init 29 = .ok (.sipush 3328, 3) := by decide +kernel
theorem dX8_init_32 : decode cX8_init 32 = .ok (.newarray .int, 2) := by decide +kernel
theorem dX8_init_34 : decode cX8_init 34 = .ok (.putfield 20, 3) := by decide +kernel
theorem dX8_init_37 : decode cX8_init 37 = .ok (.aload_n 0, 1) := by decide +kernel
theorem dX8_init_38 : decode cX8_init 38 = .ok (.bipush 64, 2) := by decide +kernel
theorem dX8_init_40 : decode cX8_init 40 = .ok (.newarray .int, 2) := by decide +kernel
theorem dX8_init_42 : decode cX8_init 42 = .ok (.putfield 23, 3) := by decide +kernel
theorem dX8_init_45 : decode cX8_init 45 = .ok (.aload_n 0, 1) := by decide +kernel
theorem dX8_init_46 : decode cX8_init 46 = .ok (.sipush 5120, 3) := by decide +kernel
theorem dX8_init_49 : decode cX8_init 49 = .ok (.newarray .int, 2) := by decide +kernel
theorem dX8_init_51 : decode cX8_init 51 = .ok (.putfield 26, 3) := by decide +kernel
theorem dX8_init_54 : decode cX8_init 54 = .ok (.aload_n 0, 1) := by decide +kernel
theorem dX8_init_55 : decode cX8_init 55 = .ok (.iconst 4, 1) := by decide +kernel
theorem dX8_init_56 : decode cX8_init 56 = .ok (.newarray .int, 2) := by decide +kernel
theorem dX8_init_58 : decode cX8_init 58 = .ok (.putfield 29, 3) := by decide +kernel
theorem dX8_init_61 : decode cX8_init 61 = .ok (.aload_n 0, 1) := by decide +kernel
theorem dX8_init_62 : decode cX8_init 62 = .ok (.sipush 256, 3) := by decide +kernel
theorem dX8_init_65 : decode cX8_init 65 = .ok (.newarray .int, 2) := by decide +kernel
theorem dX8_init_67 : decode cX8_init 67 = .ok (.putfield 32, 3) := by decide +kernel
theorem dX8_init_70 : decode cX8_init 70 = .ok (.aload_n 0, 1) := by decide +kernel
theorem dX8_init_71 : decode cX8_init 71 = .ok (.sipush 256, 3) := by decide +kernel
theorem dX8_init_74 : decode cX8_init 74 = .ok (.newarray .int, 2) := by decide +kernel
theorem dX8_init_76 : decode cX8_init 76 = .ok (.putfield 35, 3) := by decide +kernel
theorem dX8_init_79 : decode cX8_init 79 = .ok (.aload_n 0, 1) := by decide +kernel
theorem dX8_init_80 : decode cX8_init 80 = .ok (.sipush 256, 3) := by decide +kernel
theorem dX8_init_83 : decode cX8_init 83 = .ok (.newarray .int, 2) := by decide +kernel
theorem dX8_init_85 : decode cX8_init 85 = .ok (.putfield 38, 3) := by decide +kernel
theorem dX8_init_88 : decode cX8_init 88 = .ok (.aload_n 0, 1) := by decide +kernel
theorem dX8_init_89 : decode cX8_init 89 = .ok (.sipush 256, 3) := by decide +kernel
theorem dX8_init_92 : decode cX8_init 92 = .ok (.newarray .int, 2) := by decide +kernel
theorem dX8_init_94 : decode cX8_init 94 = .ok (.putfield 41, 3) := by decide +kernel
theorem dX8_init_97 : decode cX8_init 97 = .ok (.aload_n 0, 1) := by decide +kernel
theorem dX8_init_98 : decode cX8_init 98 = .ok (.bipush 80, 2) := by decide +kernel
theorem dX8_init_100 : decode cX8_init 100 = .ok (.newarray .int, 2) := by decide +kernel
theorem dX8_init_102 : decode cX8_init 102 = .ok (.putfield 44, 3) := by decide +kernel
theorem dX8_init_105 : decode cX8_init 105 = .ok (.aload_n 0, 1) := by decide +kernel
theorem dX8_init_106 : decode cX8_init 106 = .ok (.bipush 25, 2) := by decide +kernel
theorem dX8_init_108 : decode cX8_init 108 = .ok (.newarray .int, 2) := by decide +kernel
theorem dX8_init_110 : decode cX8_init 110 = .ok (.putfield 47, 3) := by decide +kernel
theorem dX8_init_113 : decode cX8_init 113 = .ok (.aload_n 0, 1) := by decide +kernel
theorem dX8_init_114 : decode cX8_init 114 = .ok (.bipush 16, 2) := by decide +kernel
theorem dX8_init_116 : decode cX8_init 116 = .ok (.newarray .int, 2) := by decide +kernel
theorem dX8_init_118 : decode cX8_init 118 = .ok (.putfield 50, 3) := by decide +kernel
theorem dX8_init_121 : decode cX8_init 121 = .ok (.aload_n 0, 1) := by decide +kernel
theorem dX8_init_122 : decode cX8_init 122 = .ok (.iconst 5, 1) := by decide +kernel
theorem dX8_init_123 : decode cX8_init 123 = .ok (.newarray .int, 2) := by decide +kernel
theorem dX8_init_125 : decode cX8_init 125 = .ok (.putfield 53, 3) := by decide +kernel
theorem dX8_init_128 : decode cX8_init 128 = .ok (.aload_n 0, 1) := by decide +kernel
theorem dX8_init_129 : decode cX8_init 129 = .ok (.bipush 80, 2) := by decide +kernel
theorem dX8_init_131 : decode cX8_init 131 = .ok (.newarray .int, 2) := by decide +kernel
theorem dX8_init_133 : decode cX8_init 133 = .ok (.putfield 56, 3) := by decide +kernel
theorem dX8_init_136 : decode cX8_init 136 = .ok (.aload_n 0, 1) := by decide +kernel
theorem dX8_init_137 : decode cX8_init 137 = .ok (.bipush 16, 2) := by decide +kernel
theorem dX8_init_139 : decode cX8_init 139 = .ok (.newarray .int, 2) := by decide +kernel
theorem dX8_init_141 : decode cX8_init 141 = .ok (.putfield 59, 3) := by decide +kernel
theorem dX8_init_144 : decode cX8_init 144 = .ok (.aload_n 0, 1) := by decide +kernel
theorem dX8_init_145 : decode cX8_init 145 = .ok (.bipush 16, 2) := by decide +kernel
theorem dX8_init_147 : decode cX8_init 147 = .ok (.newarray .int, 2) := by decide +kernel
theorem dX8_init_149 : decode cX8_init 149 = .ok (.putfield 62, 3) := by decide +kernel
theorem dX8_init_152 : decode cX8_init 152 = .ok (.return_, 1) := by decide +kernel
theorem dX8_thrown_0 : decode cX8_thrown 0 = .ok (.aload_n 0, 1) := by decide +kernel
theorem dX8_thrown_1 : decode cX8_thrown 1 = .ok (.getfield 65, 3) := by decide +kernel
theorem dX8_thrown_4 : decode cX8_thrown 4 = .ok (.ireturn, 1) := by decide +kernel
theorem dX8_raise_0 : decode cX8_raise 0 = .ok (.aload_n 0, 1) := by decide +kernel
theorem dX8_raise_1 : decode cX8_raise 1 = .ok (.iload_n 1, 1) := by decide +kernel
theorem dX8_raise_2 : decode cX8_raise 2 = .ok (.putfield 65, 3) := by decide +kernel
theorem dX8_raise_5 : decode cX8_raise 5 = .ok (.iconst 0, 1) := by decide +kernel
theorem dX8_raise_6 : decode cX8_raise 6 = .ok (.ireturn, 1) := by decide +kernel
theorem dX8_in_0 : decode cX8_in 0 = .ok (.lload_n 0, 1) := by decide +kernel
theorem dX8_in_1 : decode cX8_in 1 = .ok (.lload_n 2, 1) := by decide +kernel
theorem dX8_in_2 : decode cX8_in 2 = .ok (.lcmp, 1) := by decide +kernel
theorem dX8_in_3 : decode cX8_in 3 = .ok (.ifCond .lt 14, 3) := by decide +kernel
theorem dX8_in_6 : decode cX8_in 6 = .ok (.lload_n 0, 1) := by decide +kernel
theorem dX8_in_7 : decode cX8_in 7 = .ok (.lload 4, 2) := by decide +kernel
theorem dX8_in_9 : decode cX8_in 9 = .ok (.lcmp, 1) := by decide +kernel
theorem dX8_in_10 : decode cX8_in 10 = .ok (.ifCond .gt 7, 3) := by decide +kernel
theorem dX8_in_13 : decode cX8_in 13 = .ok (.iconst 1, 1) := by decide +kernel
theorem dX8_in_14 : decode cX8_in 14 = .ok (.goto 4, 3) := by decide +kernel
theorem dX8_in_17 : decode cX8_in 17 = .ok (.iconst 0, 1) := by decide +kernel
theorem dX8_in_18 : decode cX8_in 18 = .ok (.ireturn, 1) := by decide +kernel
theorem dX8_modulo_0 : decode cX8_modulo 0 = .ok (.lload_n 0, 1) := by decide +kernel
theorem dX8_modulo_1 : decode cX8_modulo 1 = .ok (.ldc2_w 69, 3) := by decide +kernel
theorem dX8_modulo_4 : decode cX8_modulo 4 = .ok (.lrem, 1) := by decide +kernel
theorem dX8_modulo_5 : decode cX8_modulo 5 = .ok (.lstore_n 2, 1) := by decide +kernel
theorem dX8_modulo_6 : decode cX8_modulo 6 = .ok (.lload_n 2, 1) := by decide +kernel
theorem dX8_modulo_7 : decode cX8_modulo 7 = .ok (.lconst 0, 1) := by decide +kernel
theorem dX8_modulo_8 : decode cX8_modulo 8 = .ok (.lcmp, 1) := by decide +kernel
theorem dX8_modulo_9 : decode cX8_modulo 9 = .ok (.ifCond .ge 11, 3) := by decide +kernel
theorem dX8_modulo_12 : decode cX8_modulo 12 = .ok (.lload_n 2, 1) := by decide +kernel
theorem dX8_modulo_13 : decode cX8_modulo 13 = .ok (.ldc2_w 69, 3) := by decide +kernel
theorem dX8_modulo_16 : decode cX8_modulo 16 = .ok (.ladd, 1) := by decide +kernel
theorem dX8_modulo_17 : decode cX8_modulo 17 = .ok (.goto 4, 3) := by decide +kernel
theorem dX8_modulo_20 : decode cX8_modulo 20 = .ok (.lload_n 2, 1) := by decide +kernel
theorem dX8_modulo_21 : decode cX8_modulo 21 = .ok (.l2i, 1) := by decide +kernel
theorem dX8_modulo_22 : decode cX8_modulo 22 = .ok (.ireturn, 1) := by decide +kernel
theorem dX8_inverse_0 : decode cX8_inverse 0 = .ok (.lconst 1, 1) := by decide +kernel
theorem dX8_inverse_1 : decode cX8_inverse 1 = .ok (.lstore_n 1, 1) := by decide +kernel
theorem dX8_inverse_2 : decode cX8_inverse 2 = .ok (.iload_n 0, 1) := by decide +kernel
theorem dX8_inverse_3 : decode cX8_inverse 3 = .ok (.i2l, 1) := by decide +kernel
theorem dX8_inverse_4 : decode cX8_inverse 4 = .ok (.lstore_n 3, 1) := by decide +kernel
theorem dX8_inverse_5 : decode cX8_inverse 5 = .ok (.sipush 32001, 3) := by decide +kernel
theorem dX8_inverse_8 : decode cX8_inverse 8 = .ok (.istore 5, 2) := by decide +kernel
theorem dX8_inverse_10 : decode cX8_inverse 10 = .ok (.iload 5, 2) := by decide +kernel
theorem dX8_inverse_12 : decode cX8_inverse 12 = .ok (.ifCond .le 40, 3) := by decide +kernel
theorem dX8_inverse_15 : decode cX8_inverse 15 = .ok (.iload 5, 2) := by decide +kernel
theorem dX8_inverse_17 : decode cX8_inverse 17 = .ok (.iconst 2, 1) := by decide +kernel
theorem dX8_inverse_18 : decode cX8_inverse 18 = .ok (.irem, 1) := by decide +kernel
theorem dX8_inverse_19 : decode cX8_inverse 19 = .ok (.iconst 1, 1) := by decide +kernel
theorem dX8_inverse_20 : decode cX8_inverse 20 = .ok (.if_icmp .ne 13, 3) := by decide +kernel
theorem dX8_inverse_23 : decode cX8_inverse 23 = .ok (.lload_n 1, 1) := by decide +kernel
theorem dX8_inverse_24 : decode cX8_inverse 24 = .ok (.lload_n 3, 1) := by decide +kernel
theorem dX8_inverse_25 : decode cX8_inverse 25 = .ok (.lmul, 1) := by decide +kernel
theorem dX8_inverse_26 : decode cX8_inverse 26 = .ok (.ldc2_w 69, 3) := by decide +kernel
theorem dX8_inverse_29 : decode cX8_inverse 29 = .ok (.lrem, 1) := by decide +kernel
theorem dX8_inverse_30 : decode cX8_inverse 30 = .ok (.goto 4, 3) := by decide +kernel
theorem dX8_inverse_33 : decode cX8_inverse 33 = .ok (.lload_n 1, 1) := by decide +kernel
theorem dX8_inverse_34 : decode cX8_inverse 34 = .ok (.lstore_n 1, 1) := by decide +kernel
theorem dX8_inverse_35 : decode cX8_inverse 35 = .ok (.lload_n 3, 1) := by decide +kernel
theorem dX8_inverse_36 : decode cX8_inverse 36 = .ok (.lload_n 3, 1) := by decide +kernel
theorem dX8_inverse_37 : decode cX8_inverse 37 = .ok (.lmul, 1) := by decide +kernel
theorem dX8_inverse_38 : decode cX8_inverse 38 = .ok (.ldc2_w 69, 3) := by decide +kernel
theorem dX8_inverse_41 : decode cX8_inverse 41 = .ok (.lrem, 1) := by decide +kernel
theorem dX8_inverse_42 : decode cX8_inverse 42 = .ok (.lstore_n 3, 1) := by decide +kernel
theorem dX8_inverse_43 : decode cX8_inverse 43 = .ok (.iload 5, 2) := by decide +kernel
theorem dX8_inverse_45 : decode cX8_inverse 45 = .ok (.iconst 2, 1) := by decide +kernel
theorem dX8_inverse_46 : decode cX8_inverse 46 = .ok (.idiv, 1) := by decide +kernel
theorem dX8_inverse_47 : decode cX8_inverse 47 = .ok (.istore 5, 2) := by decide +kernel
theorem dX8_inverse_49 : decode cX8_inverse 49 = .ok (.goto (-39), 3) := by decide +kernel
theorem dX8_inverse_52 : decode cX8_inverse 52 = .ok (.lload_n 1, 1) := by decide +kernel
theorem dX8_inverse_53 : decode cX8_inverse 53 = .ok (.l2i, 1) := by decide +kernel
theorem dX8_inverse_54 : decode cX8_inverse 54 = .ok (.ireturn, 1) := by decide +kernel
theorem dX8_size_0 : decode cX8_size 0 = .ok (.aload_n 0, 1) := by decide +kernel
theorem dX8_size_1 : decode cX8_size 1 = .ok (.iload_n 1, 1) := by decide +kernel
theorem dX8_size_2 : decode cX8_size 2 = .ok (.ifCond .lt 7, 3) := by decide +kernel
theorem dX8_size_5 : decode cX8_size 5 = .ok (.iload_n 2, 1) := by decide +kernel
theorem dX8_size_6 : decode cX8_size 6 = .ok (.ifCond .ge 7, 3) := by decide +kernel
theorem dX8_size_9 : decode cX8_size 9 = .ok (.iconst 1, 1) := by decide +kernel
theorem dX8_size_10 : decode cX8_size 10 = .ok (.goto 18, 3) := by decide +kernel
theorem dX8_size_13 : decode cX8_size 13 = .ok (.iload_n 1, 1) := by decide +kernel
theorem dX8_size_14 : decode cX8_size 14 = .ok (.iconst 4, 1) := by decide +kernel
theorem dX8_size_15 : decode cX8_size 15 = .ok (.if_icmp .gt 8, 3) := by decide +kernel
theorem dX8_size_18 : decode cX8_size 18 = .ok (.iload_n 2, 1) := by decide +kernel
theorem dX8_size_19 : decode cX8_size 19 = .ok (.iconst 4, 1) := by decide +kernel
theorem dX8_size_20 : decode cX8_size 20 = .ok (.if_icmp .le 7, 3) := by decide +kernel
theorem dX8_size_23 : decode cX8_size 23 = .ok (.iconst 2, 1) := by decide +kernel
theorem dX8_size_24 : decode cX8_size 24 = .ok (.goto 4, 3) := by decide +kernel
theorem dX8_size_27 : decode cX8_size 27 = .ok (.iconst 0, 1) := by decide +kernel
theorem dX8_size_28 : decode cX8_size 28 = .ok (.putfield 65, 3) := by decide +kernel
theorem dX8_size_31 : decode cX8_size 31 = .ok (.aload_n 0, 1) := by decide +kernel
theorem dX8_size_32 : decode cX8_size 32 = .ok (.getfield 65, 3) := by decide +kernel
theorem dX8_size_35 : decode cX8_size 35 = .ok (.ifCond .le 4, 3) := by decide +kernel
theorem dX8_size_38 : decode cX8_size 38 = .ok (.return_, 1) := by decide +kernel
theorem dX8_size_39 : decode cX8_size 39 = .ok (.aload_n 0, 1) := by decide +kernel
theorem dX8_size_40 : decode cX8_size 40 = .ok (.iload_n 1, 1) := by decide +kernel
theorem dX8_size_41 : decode cX8_size 41 = .ok (.putfield 71, 3) := by decide +kernel
theorem dX8_size_44 : decode cX8_size 44 = .ok (.aload_n 0, 1) := by decide +kernel
theorem dX8_size_45 : decode cX8_size 45 = .ok (.iload_n 2, 1) := by decide +kernel
theorem dX8_size_46 : decode cX8_size 46 = .ok (.putfield 74, 3) := by decide +kernel
theorem dX8_size_49 : decode cX8_size 49 = .ok (.iconst 0, 1) := by decide +kernel
theorem dX8_size_50 : decode cX8_size 50 = .ok (.istore_n 3, 1) := by decide +kernel
theorem dX8_size_51 : decode cX8_size 51 = .ok (.iload_n 3, 1) := by decide +kernel
theorem dX8_size_52 : decode cX8_size 52 = .ok (.bipush 64, 2) := by decide +kernel
theorem dX8_size_54 : decode cX8_size 54 = .ok (.if_icmp .ge 16, 3) := by decide +kernel
theorem dX8_size_57 : decode cX8_size 57 = .ok (.aload_n 0, 1) := by decide +kernel
theorem dX8_size_58 : decode cX8_size 58 = .ok (.getfield 7, 3) := by decide +kernel
theorem dX8_size_61 : decode cX8_size 61 = .ok (.iload_n 3, 1) := by decide +kernel
theorem dX8_size_62 : decode cX8_size 62 = .ok (.iconst 0, 1) := by decide +kernel
theorem dX8_size_63 : decode cX8_size 63 = .ok (.iastore, 1) := by decide +kernel
theorem dX8_size_64 : decode cX8_size 64 = .ok (.iinc 3 1, 3) := by decide +kernel
theorem dX8_size_67 : decode cX8_size 67 = .ok (.goto (-16), 3) := by decide +kernel
theorem dX8_size_70 : decode cX8_size 70 = .ok (.iconst 0, 1) := by decide +kernel
theorem dX8_size_71 : decode cX8_size 71 = .ok (.istore_n 3, 1) := by decide +kernel
theorem dX8_size_72 : decode cX8_size 72 = .ok (.iload_n 3, 1) := by decide +kernel
theorem dX8_size_73 : decode cX8_size 73 = .ok (.iconst 3, 1) := by decide +kernel
theorem dX8_size_74 : decode cX8_size 74 = .ok (.if_icmp .ge 16, 3) := by decide +kernel
theorem dX8_size_77 : decode cX8_size 77 = .ok (.aload_n 0, 1) := by decide +kernel
theorem dX8_size_78 : decode cX8_size 78 = .ok (.getfield 13, 3) := by decide +kernel
theorem dX8_size_81 : decode cX8_size 81 = .ok (.iload_n 3, 1) := by decide +kernel
theorem dX8_size_82 : decode cX8_size 82 = .ok (.iconst 0, 1) := by decide +kernel
theorem dX8_size_83 : decode cX8_size 83 = .ok (.bastore, 1) := by decide +kernel
theorem dX8_size_84 : decode cX8_size 84 = .ok (.iinc 3 1, 3) := by decide +kernel
theorem dX8_size_87 : decode cX8_size 87 = .ok (.goto (-15), 3) := by decide +kernel
theorem dX8_size_90 : decode cX8_size 90 = .ok (.return_, 1) := by decide +kernel
set_option maxRecDepth 20000 in
theorem ggX8_isPlace_X8_in : GoodIn wsX8_isPlace wsX8_in := goodIn_r _ [8] (by decide +kernel) (by decide +kernel)
set_option maxRecDepth 20000 in
theorem gX8_isPlace_X8_in : GoodIn wsX8_isPlace (va_wsS RX8 77 yX8_in wsX8_in) := goodIn_app (goodIn_of _ (by decide +kernel)) ggX8_isPlace_X8_in
theorem dX8_isPlace_0 : decode cX8_isPlace 0 = .ok (.aload_n 0, 1) := by decide +kernel
theorem dX8_isPlace_1 : decode cX8_isPlace 1 = .ok (.iload_n 1, 1) := by decide +kernel
theorem dX8_isPlace_2 : decode cX8_isPlace 2 = .ok (.i2l, 1) := by decide +kernel
theorem dX8_isPlace_3 : decode cX8_isPlace 3 = .ok (.lconst 0, 1) := by decide +kernel
theorem dX8_isPlace_4 : decode cX8_isPlace 4 = .ok (.aload_n 0, 1) := by decide +kernel
theorem dX8_isPlace_5 : decode cX8_isPlace 5 = .ok (.getfield 71, 3) := by decide +kernel
theorem dX8_isPlace_8 : decode cX8_isPlace 8 = .ok (.iconst 1, 1) := by decide +kernel
theorem dX8_isPlace_9 : decode cX8_isPlace 9 = .ok (.isub, 1) := by decide +kernel
theorem dX8_isPlace_10 : decode cX8_isPlace 10 = .ok (.i2l, 1) := by decide +kernel
theorem dX8_isPlace_11 : decode cX8_isPlace 11 = .ok (.invokestatic 77, 3) := by decide +kernel
theorem dX8_isPlace_14 : decode cX8_isPlace 14 = .ok (.ifCond .eq 35, 3) := by decide +kernel
theorem dX8_isPlace_17 : decode cX8_isPlace 17 = .ok (.iload_n 2, 1) := by decide +kernel
theorem dX8_isPlace_18 : decode cX8_isPlace 18 = .ok (.i2l, 1) := by decide +kernel
theorem dX8_isPlace_19 : decode cX8_isPlace 19 = .ok (.lconst 0, 1) := by decide +kernel
theorem dX8_isPlace_20 : decode cX8_isPlace 20 = .ok (.aload_n 0, 1) := by decide +kernel
theorem dX8_isPlace_21 : decode cX8_isPlace 21 = .ok (.getfield 74, 3) := by decide +kernel
theorem dX8_isPlace_24 : decode cX8_isPlace 24 = .ok (.iconst 1, 1) := by decide +kernel
theorem dX8_isPlace_25 : decode cX8_isPlace 25 = .ok (.isub, 1) := by decide +kernel
theorem dX8_isPlace_26 : decode cX8_isPlace 26 = .ok (.i2l, 1) := by decide +kernel
theorem dX8_isPlace_27 : decode cX8_isPlace 27 = .ok (.invokestatic 77, 3) := by decide +kernel
theorem dX8_isPlace_30 : decode cX8_isPlace 30 = .ok (.ifCond .eq 19, 3) := by decide +kernel
theorem dX8_isPlace_33 : decode cX8_isPlace 33 = .ok (.iload_n 3, 1) := by decide +kernel
theorem dX8_isPlace_34 : decode cX8_isPlace 34 = .ok (.i2l, 1) := by decide +kernel
theorem dX8_isPlace_35 : decode cX8_isPlace 35 = .ok (.lconst 0, 1) := by decide +kernel
theorem dX8_isPlace_36 : decode cX8_isPlace 36 = .ok (.ldc2_w 81, 3) := by decide +kernel
theorem dX8_isPlace_39 : decode cX8_isPlace 39 = .ok (.invokestatic 77, 3) := by decide +kernel
theorem dX8_isPlace_42 : decode cX8_isPlace 42 = .ok (.ifCond .eq 7, 3) := by decide +kernel
theorem dX8_isPlace_45 : decode cX8_isPlace 45 = .ok (.iconst 0, 1) := by decide +kernel
theorem dX8_isPlace_46 : decode cX8_isPlace 46 = .ok (.goto 4, 3) := by decide +kernel
theorem dX8_isPlace_49 : decode cX8_isPlace 49 = .ok (.iconst 1, 1) := by decide +kernel
theorem dX8_isPlace_50 : decode cX8_isPlace 50 = .ok (.putfield 65, 3) := by decide +kernel
theorem dX8_isPlace_53 : decode cX8_isPlace 53 = .ok (.aload_n 0, 1) := by decide +kernel
theorem dX8_isPlace_54 : decode cX8_isPlace 54 = .ok (.getfield 65, 3) := by decide +kernel
theorem dX8_isPlace_57 : decode cX8_isPlace 57 = .ok (.ifCond .ne 7, 3) := by decide +kernel
theorem dX8_isPlace_60 : decode cX8_isPlace 60 = .ok (.iconst 1, 1) := by decide +kernel
theorem dX8_isPlace_61 : decode cX8_isPlace 61 = .ok (.goto 4, 3) := by decide +kernel
theorem dX8_isPlace_64 : decode cX8_isPlace 64 = .ok (.iconst 0, 1) := by decide +kernel
theorem dX8_isPlace_65 : decode cX8_isPlace 65 = .ok (.ireturn, 1) := by decide +kernel
set_option maxRecDepth 20000 in
theorem ggX8_put_X8_isPlace : GoodIn wsX8_put wsX8_isPlace := goodIn_r _ [7, 8, 9, 10, 11, 12, 13, 6, 14, 19, 20, 21, 22, 23, 24, 25, 26, 27, 28, 29, 30, 31, 32, 33, 34, 35, 36, 37, 38, 39] (by decide +kernel) (by decide +kernel)
set_option maxRecDepth 20000 in
theorem gX8_put_X8_isPlace : GoodIn wsX8_put (wsV RX8 83 RX8 yX8_isPlace wsX8_isPlace) := goodIn_app (goodIn_of _ (by decide +kernel)) ggX8_put_X8_isPlace
set_option maxRecDepth 20000 in
theorem ggX8_put_X8_modulo : GoodIn wsX8_put wsX8_modulo := goodIn_r _ [17, 18] (by decide +kernel) (by decide +kernel)
set_option maxRecDepth 20000 in
theorem gX8_put_X8_modulo : GoodIn wsX8_put (va_wsS RX8 87 yX8_modulo wsX8_modulo) := goodIn_app (goodIn_of _ (by decide +kernel)) ggX8_put_X8_modulo
theorem dX8_put_0 : decode cX8_put 0 = .ok (.aload_n 0, 1) := by decide +kernel
theorem dX8_put_1 : decode cX8_put 1 = .ok (.iload_n 1, 1) := by decide +kernel
theorem dX8_put_2 : decode cX8_put 2 = .ok (.iload_n 2, 1) := by decide +kernel
theorem dX8_put_3 : decode cX8_put 3 = .ok (.iload_n 3, 1) := by decide +kernel
theorem dX8_put_4 : decode cX8_put 4 = .ok (.invokevirtual 83, 3) := by decide +kernel
theorem dX8_put_7 : decode cX8_put 7 = .ok (.ifCond .ne 5, 3) := by decide +kernel
theorem dX8_put_10 : decode cX8_put 10 = .ok (.iconst 0, 1) := by decide +kernel
theorem dX8_put_11 : decode cX8_put 11 = .ok (.ireturn, 1) := by decide +kernel
theorem dX8_put_12 : decode cX8_put 12 = .ok (.bipush 16, 2) := by decide +kernel
theorem dX8_put_14 : decode cX8_put 14 = .ok (.iload_n 1, 1) := by decide +kernel
theorem dX8_put_15 : decode cX8_put 15 = .ok (.imul, 1) := by decide +kernel
theorem dX8_put_16 : decode cX8_put 16 = .ok (.iconst 4, 1) := by decide +kernel
theorem dX8_put_17 : decode cX8_put 17 = .ok (.iload_n 2, 1) := by decide +kernel
theorem dX8_put_18 : decode cX8_put 18 = .ok (.imul, 1) := by decide +kernel
theorem dX8_put_19 : decode cX8_put 19 = .ok (.iadd, 1) := by decide +kernel
theorem dX8_put_20 : decode cX8_put 20 = .ok (.iload_n 3, 1) := by decide +kernel
theorem dX8_put_21 : decode cX8_put 21 = .ok (.iadd, 1) := by decide +kernel
theorem dX8_put_22 : decode cX8_put 22 = .ok (.istore 5, 2) := by decide +kernel
theorem dX8_put_24 : decode cX8_put 24 = .ok (.aload_n 0, 1) := by decide +kernel
theorem dX8_put_25 : decode cX8_put 25 = .ok (.getfield 7, 3) := by decide +kernel
theorem dX8_put_28 : decode cX8_put 28 = .ok (.iload 5, 2) := by decide +kernel
theorem dX8_put_30 : decode cX8_put 30 = .ok (.iaload, 1) := by decide +kernel
theorem dX8_put_31 : decode cX8_put 31 = .ok (.iload 4, 2) := by decide +kernel
theorem dX8_put_33 : decode cX8_put 33 = .ok (.i2l, 1) := by decide +kernel
theorem dX8_put_34 : decode cX8_put 34 = .ok (.invokestatic 87, 3) := by decide +kernel
theorem dX8_put_37 : decode cX8_put 37 = .ok (.if_icmp .ne 5, 3) := by decide +kernel
theorem dX8_put_40 : decode cX8_put 40 = .ok (.iconst 0, 1) := by decide +kernel
theorem dX8_put_41 : decode cX8_put 41 = .ok (.ireturn, 1) := by decide +kernel
theorem dX8_put_42 : decode cX8_put 42 = .ok (.aload_n 0, 1) := by decide +kernel
theorem dX8_put_43 : decode cX8_put 43 = .ok (.getfield 7, 3) := by decide +kernel
theorem dX8_put_46 : decode cX8_put 46 = .ok (.iload 5, 2) := by decide +kernel
theorem dX8_put_48 : decode cX8_put 48 = .ok (.iload 4, 2) := by decide +kernel
theorem dX8_put_50 : decode cX8_put 50 = .ok (.i2l, 1) := by decide +kernel
theorem dX8_put_51 : decode cX8_put 51 = .ok (.invokestatic 87, 3) := by decide +kernel
theorem dX8_put_54 : decode cX8_put 54 = .ok (.iastore, 1) := by decide +kernel
theorem dX8_put_55 : decode cX8_put 55 = .ok (.iconst 0, 1) := by decide +kernel
theorem dX8_put_56 : decode cX8_put 56 = .ok (.istore 6, 2) := by decide +kernel
theorem dX8_put_58 : decode cX8_put 58 = .ok (.iload 6, 2) := by decide +kernel
theorem dX8_put_60 : decode cX8_put 60 = .ok (.iconst 3, 1) := by decide +kernel
theorem dX8_put_61 : decode cX8_put 61 = .ok (.if_icmp .ge 17, 3) := by decide +kernel
theorem dX8_put_64 : decode cX8_put 64 = .ok (.aload_n 0, 1) := by decide +kernel
theorem dX8_put_65 : decode cX8_put 65 = .ok (.getfield 13, 3) := by decide +kernel
theorem dX8_put_68 : decode cX8_put 68 = .ok (.iload 6, 2) := by decide +kernel
theorem dX8_put_70 : decode cX8_put 70 = .ok (.iconst 0, 1) := by decide +kernel
theorem dX8_put_71 : decode cX8_put 71 = .ok (.bastore, 1) := by decide +kernel
theorem dX8_put_72 : decode cX8_put 72 = .ok (.iinc 6 1, 3) := by decide +kernel
theorem dX8_put_75 : decode cX8_put 75 = .ok (.goto (-17), 3) := by decide +kernel
theorem dX8_put_78 : decode cX8_put 78 = .ok (.iconst 1, 1) := by decide +kernel
theorem dX8_put_79 : decode cX8_put 79 = .ok (.ireturn, 1) := by decide +kernel
set_option maxRecDepth 20000 in
theorem ggX8_entry_X8_isPlace : GoodIn wsX8_entry wsX8_isPlace := goodIn_r _ [6, 7, 8, 9, 10, 11, 12, 5, 13, 14, 15, 16, 17, 18, 19, 20, 21, 22, 23, 24, 25, 26, 27, 28, 29, 30, 31, 32, 33, 34] (by decide +kernel) (by decide +kernel)
set_option maxRecDepth 20000 in
theorem gX8_entry_X8_isPlace : GoodIn wsX8_entry (wsV RX8 83 RX8 yX8_isPlace wsX8_isPlace) := goodIn_app (goodIn_of _ (by decide +kernel)) ggX8_entry_X8_isPlace
theorem dX8_entry_0 : decode cX8_entry 0 = .ok (.aload_n 0, 1) := by decide +kernel
theorem dX8_entry_1 : decode cX8_entry 1 = .ok (.iload_n 1, 1) := by decide +kernel
theorem dX8_entry_2 : decode cX8_entry 2 = .ok (.iload_n 2, 1) := by decide +kernel
theorem dX8_entry_3 : decode cX8_entry 3 = .ok (.iload_n 3, 1) := by decide +kernel
theorem dX8_entry_4 : decode cX8_entry 4 = .ok (.invokevirtual 83, 3) := by decide +kernel
theorem dX8_entry_7 : decode cX8_entry 7 = .ok (.ifCond .eq 21, 3) := by decide +kernel
theorem dX8_entry_10 : decode cX8_entry 10 = .ok (.aload_n 0, 1) := by decide +kernel
theorem dX8_entry_11 : decode cX8_entry 11 = .ok (.getfield 7, 3) := by decide +kernel
theorem dX8_entry_14 : decode cX8_entry 14 = .ok (.bipush 16, 2) := by decide +kernel
theorem dX8_entry_16 : decode cX8_entry 16 = .ok (.iload_n 1, 1) := by decide +kernel
theorem dX8_entry_17 : decode cX8_entry 17 = .ok (.imul, 1) := by decide +kernel
theorem dX8_entry_18 : decode cX8_entry 18 = .ok (.iconst 4, 1) := by decide +kernel
theorem dX8_entry_19 : decode cX8_entry 19 = .ok (.iload_n 2, 1) := by decide +kernel
theorem dX8_entry_20 : decode cX8_entry 20 = .ok (.imul, 1) := by decide +kernel
theorem dX8_entry_21 : decode cX8_entry 21 = .ok (.iadd, 1) := by decide +kernel
theorem dX8_entry_22 : decode cX8_entry 22 = .ok (.iload_n 3, 1) := by decide +kernel
theorem dX8_entry_23 : decode cX8_entry 23 = .ok (.iadd, 1) := by decide +kernel
theorem dX8_entry_24 : decode cX8_entry 24 = .ok (.iaload, 1) := by decide +kernel
theorem dX8_entry_25 : decode cX8_entry 25 = .ok (.goto 4, 3) := by decide +kernel
theorem dX8_entry_28 : decode cX8_entry 28 = .ok (.iconst 0, 1) := by decide +kernel
theorem dX8_entry_29 : decode cX8_entry 29 = .ok (.ireturn, 1) := by decide +kernel
theorem dX8_bits_0 : decode cX8_bits 0 = .ok (.iload_n 0, 1) := by decide +kernel
theorem dX8_bits_1 : decode cX8_bits 1 = .ok (.iconst 1, 1) := by decide +kernel
theorem dX8_bits_2 : decode cX8_bits 2 = .ok (.iand, 1) := by decide +kernel
theorem dX8_bits_3 : decode cX8_bits 3 = .ok (.iload_n 0, 1) := by decide +kernel
theorem dX8_bits_4 : decode cX8_bits 4 = .ok (.iconst 1, 1) := by decide +kernel
theorem dX8_bits_5 : decode cX8_bits 5 = .ok (.ishr, 1) := by decide +kernel
theorem dX8_bits_6 : decode cX8_bits 6 = .ok (.iconst 1, 1) := by decide +kernel
theorem dX8_bits_7 : decode cX8_bits 7 = .ok (.iand, 1) := by decide +kernel
theorem dX8_bits_8 : decode cX8_bits 8 = .ok (.iadd, 1) := by decide +kernel
theorem dX8_bits_9 : decode cX8_bits 9 = .ok (.iload_n 0, 1) := by decide +kernel
theorem dX8_bits_10 : decode cX8_bits 10 = .ok (.iconst 2, 1) := by decide +kernel
theorem dX8_bits_11 : decode cX8_bits 11 = .ok (.ishr, 1) := by decide +kernel
theorem dX8_bits_12 : decode cX8_bits 12 = .ok (.iconst 1, 1) := by decide +kernel
theorem dX8_bits_13 : decode cX8_bits 13 = .ok (.iand, 1) := by decide +kernel
theorem dX8_bits_14 : decode cX8_bits 14 = .ok (.iadd, 1) := by decide +kernel
theorem dX8_bits_15 : decode cX8_bits 15 = .ok (.iload_n 0, 1) := by decide +kernel
theorem dX8_bits_16 : decode cX8_bits 16 = .ok (.iconst 3, 1) := by decide +kernel
theorem dX8_bits_17 : decode cX8_bits 17 = .ok (.ishr, 1) := by decide +kernel
theorem dX8_bits_18 : decode cX8_bits 18 = .ok (.iconst 1, 1) := by decide +kernel
theorem dX8_bits_19 : decode cX8_bits 19 = .ok (.iand, 1) := by decide +kernel
theorem dX8_bits_20 : decode cX8_bits 20 = .ok (.iadd, 1) := by decide +kernel
theorem dX8_bits_21 : decode cX8_bits 21 = .ok (.ireturn, 1) := by decide +kernel
set_option maxRecDepth 20000 in
theorem ggX8_findMinors_X8_bits : GoodIn wsX8_findMinors wsX8_bits := goodIn_r _ [5] (by decide +kernel) (by decide +kernel)
set_option maxRecDepth 20000 in
theorem gX8_findMinors_X8_bits : GoodIn wsX8_findMinors (va_wsS RX8 91 yX8_bits wsX8_bits) := goodIn_app (goodIn_of _ (by decide +kernel)) ggX8_findMinors_X8_bits
set_option maxRecDepth 20000 in
theorem ggX8_findMinors_X8_findMinor : GoodIn wsX8_findMinors wsX8_findMinor := goodIn_r _ [9, 10, 11, 1, 12, 13, 4, 14, 15, 16, 17, 18, 19, 20, 21, 22, 23, 24, 25, 26, 27, 28, 29, 30, 31, 32, 33, 34, 35] (by decide +kernel) (by decide +kernel)
set_option maxRecDepth 20000 in
theorem gX8_findMinors_X8_findMinor : GoodIn wsX8_findMinors (wsV RX8 95 RX8 yX8_findMinor wsX8_findMinor) := goodIn_app (goodIn_of _ (by decide +kernel)) ggX8_findMinors_X8_findMinor
theorem dX8_findMinors_0 : decode cX8_findMinors 0 = .ok (.iconst 0, 1) := by decide +kernel
theorem dX8_findMinors_1 : decode cX8_findMinors 1 = .ok (.istore_n 1, 1) := by decide +kernel
theorem dX8_findMinors_2 : decode cX8_findMinors 2 = .ok (.iload_n 1, 1) := by decide +kernel
theorem dX8_findMinors_3 : decode cX8_findMinors 3 = .ok (.sipush 3328, 3) := by decide +kernel
theorem dX8_findMinors_6 : decode cX8_findMinors 6 = .ok (.if_icmp .ge 16, 3) := by decide +kernel
theorem dX8_findMinors_9 : decode cX8_findMinors 9 = .ok (.aload_n 0, 1) := by decide +kernel
theorem dX8_findMinors_10 : decode cX8_findMinors 10 = .ok (.getfield 20, 3) := by decide +kernel
theorem dX8_findMinors_13 : decode cX8_findMinors 13 = .ok (.iload_n 1, 1) := by decide +kernel
theorem dX8_findMinors_14 : decode cX8_findMinors 14 = .ok (.iconst 0, 1) := by decide +kernel
theorem dX8_findMinors_15 : decode cX8_findMinors 15 = .ok (.iastore, 1) := by decide +kernel
theorem dX8_findMinors_16 : decode cX8_findMinors 16 = .ok (.iinc 1 1, 3) := by decide +kernel
theorem dX8_findMinors_19 : decode cX8_findMinors 19 = .ok (.goto (-17), 3) := by decide +kernel
theorem dX8_findMinors_22 : decode cX8_findMinors 22 = .ok (.aload_n 0, 1) := by decide +kernel
theorem dX8_findMinors_23 : decode cX8_findMinors 23 = .ok (.getfield 20, 3) := by decide +kernel
theorem dX8_findMinors_26 : decode cX8_findMinors 26 = .ok (.iconst 0, 1) := by decide +kernel
theorem dX8_findMinors_27 : decode cX8_findMinors 27 = .ok (.iconst 1, 1) := by decide +kernel
theorem dX8_findMinors_28 : decode cX8_findMinors 28 = .ok (.iastore, 1) := by decide +kernel
theorem dX8_findMinors_29 : decode cX8_findMinors 29 = .ok (.iconst 1, 1) := by decide +kernel
theorem dX8_findMinors_30 : decode cX8_findMinors 30 = .ok (.istore_n 1, 1) := by decide +kernel
theorem dX8_findMinors_31 : decode cX8_findMinors 31 = .ok (.iload_n 1, 1) := by decide +kernel
theorem dX8_findMinors_32 : decode cX8_findMinors 32 = .ok (.bipush 16, 2) := by decide +kernel
theorem dX8_findMinors_34 : decode cX8_findMinors 34 = .ok (.if_icmp .ge 40, 3) := by decide +kernel
theorem dX8_findMinors_37 : decode cX8_findMinors 37 = .ok (.iconst 1, 1) := by decide +kernel
theorem dX8_findMinors_38 : decode cX8_findMinors 38 = .ok (.istore_n 2, 1) := by decide +kernel
theorem dX8_findMinors_39 : decode cX8_findMinors 39 = .ok (.iload_n 2, 1) := by decide +kernel
theorem dX8_findMinors_40 : decode cX8_findMinors 40 = .ok (.bipush 16, 2) := by decide +kernel
theorem dX8_findMinors_42 : decode cX8_findMinors 42 = .ok (.if_icmp .ge 26, 3) := by decide +kernel
theorem dX8_findMinors_45 : decode cX8_findMinors 45 = .ok (.iload_n 1, 1) := by decide +kernel
theorem dX8_findMinors_46 : decode cX8_findMinors 46 = .ok (.invokestatic 91, 3) := by decide +kernel
theorem dX8_findMinors_49 : decode cX8_findMinors 49 = .ok (.iload_n 2, 1) := by decide +kernel
theorem dX8_findMinors_50 : decode cX8_findMinors 50 = .ok (.invokestatic 91, 3) := by decide +kernel
theorem dX8_findMinors_53 : decode cX8_findMinors 53 = .ok (.if_icmp .ne 9, 3) := by decide +kernel
theorem dX8_findMinors_56 : decode cX8_findMinors 56 = .ok (.aload_n 0, 1) := by decide +kernel
theorem dX8_findMinors_57 : decode cX8_findMinors 57 = .ok (.iload_n 1, 1) := by decide +kernel
theorem dX8_findMinors_58 : decode cX8_findMinors 58 = .ok (.iload_n 2, 1) := by decide +kernel
theorem dX8_findMinors_59 : decode cX8_findMinors 59 = .ok (.invokevirtual 95, 3) := by decide +kernel
theorem dX8_findMinors_62 : decode cX8_findMinors 62 = .ok (.iinc 2 1, 3) := by decide +kernel
theorem dX8_findMinors_65 : decode cX8_findMinors 65 = .ok (.goto (-26), 3) := by decide +kernel
theorem dX8_findMinors_68 : decode cX8_findMinors 68 = .ok (.iinc 1 1, 3) := by decide +kernel
theorem dX8_findMinors_71 : decode cX8_findMinors 71 = .ok (.goto (-40), 3) := by decide +kernel
theorem dX8_findMinors_74 : decode cX8_findMinors 74 = .ok (.return_, 1) := by decide +kernel
set_option maxRecDepth 20000 in
theorem ggX8_findMinor_X8_modulo : GoodIn wsX8_findMinor wsX8_modulo := goodIn_r _ [7, 2] (by decide +kernel) (by decide +kernel)
set_option maxRecDepth 20000 in
theorem gX8_findMinor_X8_modulo : GoodIn wsX8_findMinor (va_wsS RX8 87 yX8_modulo wsX8_modulo) := goodIn_app (goodIn_of _ (by decide +kernel)) ggX8_findMinor_X8_modulo
theorem dX8_findMinor_0 : decode cX8_findMinor 0 = .ok (.iconst 0, 1) := by decide +kernel
theorem dX8_findMinor_1 : decode cX8_findMinor 1 = .ok (.istore_n 3, 1) := by decide +kernel
theorem dX8_findMinor_2 : decode cX8_findMinor 2 = .ok (.iload_n 1, 1) := by decide +kernel
theorem dX8_findMinor_3 : decode cX8_findMinor 3 = .ok (.iload_n 3, 1) := by decide +kernel
theorem dX8_findMinor_4 : decode cX8_findMinor 4 = .ok (.ishr, 1) := by decide +kernel
theorem dX8_findMinor_5 : decode cX8_findMinor 5 = .ok (.iconst 1, 1) := by decide +kernel
theorem dX8_findMinor_6 : decode cX8_findMinor 6 = .ok (.iand, 1) := by decide +kernel
theorem dX8_findMinor_7 : decode cX8_findMinor 7 = .ok (.ifCond .ne 9, 3) := by decide +kernel
theorem dX8_findMinor_10 : decode cX8_findMinor 10 = .ok (.iinc 3 1, 3) := by decide +kernel
theorem dX8_findMinor_13 : decode cX8_findMinor 13 = .ok (.goto (-11), 3) := by decide +kernel
theorem dX8_findMinor_16 : decode cX8_findMinor 16 = .ok (.iload_n 1, 1) := by decide +kernel
theorem dX8_findMinor_17 : decode cX8_findMinor 17 = .ok (.iconst 1, 1) := by decide +kernel
theorem dX8_findMinor_18 : decode cX8_findMinor 18 = .ok (.iload_n 3, 1) := by decide +kernel
theorem dX8_findMinor_19 : decode cX8_findMinor 19 = .ok (.ishl, 1) := by decide +kernel
theorem dX8_findMinor_20 : decode cX8_findMinor 20 = .ok (.isub, 1) := by decide +kernel
theorem dX8_findMinor_21 : decode cX8_findMinor 21 = .ok (.istore 4, 2) := by decide +kernel
theorem dX8_findMinor_23 : decode cX8_findMinor 23 = .ok (.bipush 13, 2) := by decide +kernel
theorem dX8_findMinor_25 : decode cX8_findMinor 25 = .ok (.bipush 16, 2) := by decide +kernel
theorem dX8_findMinor_27 : decode cX8_findMinor 27 = .ok (.iload_n 1, 1) := by decide +kernel
theorem dX8_findMinor_28 : decode cX8_findMinor 28 = .ok (.imul, 1) := by decide +kernel
theorem dX8_findMinor_29 : decode cX8_findMinor 29 = .ok (.iload_n 2, 1) := by decide +kernel
theorem dX8_findMinor_30 : decode cX8_findMinor 30 = .ok (.iadd, 1) := by decide +kernel
theorem dX8_findMinor_31 : decode cX8_findMinor 31 = .ok (.imul, 1) := by decide +kernel
theorem dX8_findMinor_32 : decode cX8_findMinor 32 = .ok (.istore 5, 2) := by decide +kernel
theorem dX8_findMinor_34 : decode cX8_findMinor 34 = .ok (.iconst 0, 1) := by decide +kernel
theorem dX8_findMinor_35 : decode cX8_findMinor 35 = .ok (.istore 6, 2) := by decide +kernel
theorem dX8_findMinor_37 : decode cX8_findMinor 37 = .ok (.iconst 0, 1) := by decide +kernel
theorem dX8_findMinor_38 : decode cX8_findMinor 38 = .ok (.istore 7, 2) := by decide +kernel
theorem dX8_findMinor_40 : decode cX8_findMinor 40 = .ok (.iload 7, 2) := by decide +kernel
theorem dX8_findMinor_42 : decode cX8_findMinor 42 = .ok (.iconst 4, 1) := by decide +kernel
theorem dX8_findMinor_43 : decode cX8_findMinor 43 = .ok (.if_icmp .ge 173, 3) := by decide +kernel
theorem dX8_findMinor_46 : decode cX8_findMinor 46 = .ok (.iload_n 2, 1) := by decide +kernel
theorem dX8_findMinor_47 : decode cX8_findMinor 47 = .ok (.iload 7, 2) := by decide +kernel
theorem dX8_findMinor_49 : decode cX8_findMinor 49 = .ok (.ishr, 1) := by decide +kernel
theorem dX8_findMinor_50 : decode cX8_findMinor 50 = .ok (.iconst 1, 1) := by decide +kernel
theorem dX8_findMinor_51 : decode cX8_findMinor 51 = .ok (.iand, 1) := by decide +kernel
theorem dX8_findMinor_52 : decode cX8_findMinor 52 = .ok (.ifCond .ne 6, 3) := by decide +kernel
theorem dX8_findMinor_55 : decode cX8_findMinor 55 = .ok (.goto 155, 3) := by decide +kernel
theorem dX8_findMinor_58 : decode cX8_findMinor 58 = .ok (.bipush 13, 2) := by decide +kernel
theorem dX8_findMinor_60 : decode cX8_findMinor 60 = .ok (.bipush 16, 2) := by decide +kernel
theorem dX8_findMinor_62 : decode cX8_findMinor 62 = .ok (.iload 4, 2) := by decide +kernel
theorem dX8_findMinor_64 : decode cX8_findMinor 64 = .ok (.imul, 1) := by decide +kernel
theorem dX8_findMinor_65 : decode cX8_findMinor 65 = .ok (.iload_n 2, 1) := by decide +kernel
theorem dX8_findMinor_66 : decode cX8_findMinor 66 = .ok (.iadd, 1) := by decide +kernel
theorem dX8_findMinor_67 : decode cX8_findMinor 67 = .ok (.iconst 1, 1) := by decide +kernel
theorem dX8_findMinor_68 : decode cX8_findMinor 68 = .ok (.iload 7, 2) := by decide +kernel
theorem dX8_findMinor_70 : decode cX8_findMinor 70 = .ok (.ishl, 1) := by decide +kernel
theorem dX8_findMinor_71 : decode cX8_findMinor 71 = .ok (.isub, 1) := by decide +kernel
theorem dX8_findMinor_72 : decode cX8_findMinor 72 = .ok (.imul, 1) := by decide +kernel
theorem dX8_findMinor_73 : decode cX8_findMinor 73 = .ok (.istore 8, 2) := by decide +kernel
theorem dX8_findMinor_75 : decode cX8_findMinor 75 = .ok (.iconst 0, 1) := by decide +kernel
theorem dX8_findMinor_76 : decode cX8_findMinor 76 = .ok (.istore 9, 2) := by decide +kernel
theorem dX8_findMinor_78 : decode cX8_findMinor 78 = .ok (.iload 9, 2) := by decide +kernel
theorem dX8_findMinor_80 : decode cX8_findMinor 80 = .ok (.iconst 4, 1) := by decide +kernel
theorem dX8_findMinor_81 : decode cX8_findMinor 81 = .ok (.if_icmp .ge 117, 3) := by decide +kernel
theorem dX8_findMinor_84 : decode cX8_findMinor 84 = .ok (.aload_n 0, 1) := by decide +kernel
theorem dX8_findMinor_85 : decode cX8_findMinor 85 = .ok (.getfield 23, 3) := by decide +kernel
theorem dX8_findMinor_88 : decode cX8_findMinor 88 = .ok (.bipush 16, 2) := by decide +kernel
theorem dX8_findMinor_90 : decode cX8_findMinor 90 = .ok (.iload_n 3, 1) := by decide +kernel
theorem dX8_findMinor_91 : decode cX8_findMinor 91 = .ok (.imul, 1) := by decide +kernel
theorem dX8_findMinor_92 : decode cX8_findMinor 92 = .ok (.iconst 4, 1) := by decide +kernel
theorem dX8_findMinor_93 : decode cX8_findMinor 93 = .ok (.iload 7, 2) := by decide +kernel
theorem dX8_findMinor_95 : decode cX8_findMinor 95 = .ok (.imul, 1) := by decide +kernel
theorem dX8_findMinor_96 : decode cX8_findMinor 96 = .ok (.iadd, 1) := by decide +kernel
theorem dX8_findMinor_97 : decode cX8_findMinor 97 = .ok (.iload 9, 2) := by decide +kernel
theorem dX8_findMinor_99 : decode cX8_findMinor 99 = .ok (.iadd, 1) := by decide +kernel
theorem dX8_findMinor_100 : decode cX8_findMinor 100 = .ok (.iaload, 1) := by decide +kernel
theorem dX8_findMinor_101 : decode cX8_findMinor 101 = .ok (.i2l, 1) := by decide +kernel
theorem dX8_findMinor_102 : decode cX8_findMinor 102 = .ok (.lstore 10, 2) := by decide +kernel
theorem dX8_findMinor_104 : decode cX8_findMinor 104 = .ok (.iload 6, 2) := by decide +kernel
theorem dX8_findMinor_106 : decode cX8_findMinor 106 = .ok (.ifCond .eq 15, 3) := by decide +kernel
theorem dX8_findMinor_109 : decode cX8_findMinor 109 = .ok (.ldc2_w 69, 3) := by decide +kernel
theorem dX8_findMinor_112 : decode cX8_findMinor 112 = .ok (.lload 10, 2) := by decide +kernel
theorem dX8_findMinor_114 : decode cX8_findMinor 114 = .ok (.lsub, 1) := by decide +kernel
theorem dX8_findMinor_115 : decode cX8_findMinor 115 = .ok (.ldc2_w 69, 3) := by decide +kernel
theorem dX8_findMinor_118 : decode cX8_findMinor 118 = .ok (.lrem, 1) := by decide +kernel
theorem dX8_findMinor_119 : decode cX8_findMinor 119 = .ok (.lstore 10, 2) := by decide +kernel
theorem dX8_findMinor_121 : decode cX8_findMinor 121 = .ok (.iconst 0, 1) := by decide +kernel
theorem dX8_findMinor_122 : decode cX8_findMinor 122 = .ok (.istore 12, 2) := by decide +kernel
theorem dX8_findMinor_124 : decode cX8_findMinor 124 = .ok (.iload 12, 2) := by decide +kernel
theorem dX8_findMinor_126 : decode cX8_findMinor 126 = .ok (.iload 9, 2) := by decide +kernel
theorem dX8_findMinor_128 : decode cX8_findMinor 128 = .ok (.iadd, 1) := by decide +kernel
theorem dX8_findMinor_129 : decode cX8_findMinor 129 = .ok (.bipush 13, 2) := by decide +kernel
theorem dX8_findMinor_131 : decode cX8_findMinor 131 = .ok (.if_icmp .ge 61, 3) := by decide +kernel
theorem dX8_findMinor_134 : decode cX8_findMinor 134 = .ok (.lload 10, 2) := by decide +kernel
theorem dX8_findMinor_136 : decode cX8_findMinor 136 = .ok (.lconst 0, 1) := by decide +kernel
theorem dX8_findMinor_137 : decode cX8_findMinor 137 = .ok (.lcmp, 1) := by decide +kernel
theorem dX8_findMinor_138 : decode cX8_findMinor 138 = .ok (.ifCond .le 54, 3) := by decide +kernel
theorem dX8_findMinor_141 : decode cX8_findMinor 141 = .ok (.aload_n 0, 1) := by decide +kernel
theorem dX8_findMinor_142 : decode cX8_findMinor 142 = .ok (.getfield 20, 3) := by decide +kernel
theorem dX8_findMinor_145 : decode cX8_findMinor 145 = .ok (.iload 5, 2) := by decide +kernel
theorem dX8_findMinor_147 : decode cX8_findMinor 147 = .ok (.iload 12, 2) := by decide +kernel
theorem dX8_findMinor_149 : decode cX8_findMinor 149 = .ok (.iadd, 1) := by decide +kernel
theorem dX8_findMinor_150 : decode cX8_findMinor 150 = .ok (.iload 9, 2) := by decide +kernel
theorem dX8_findMinor_152 : decode cX8_findMinor 152 = .ok (.iadd, 1) := by decide +kernel
theorem dX8_findMinor_153 : decode cX8_findMinor 153 = .ok (.aload_n 0, 1) := by decide +kernel
theorem dX8_findMinor_154 : decode cX8_findMinor 154 = .ok (.getfield 20, 3) := by decide +kernel
theorem dX8_findMinor_157 : decode cX8_findMinor 157 = .ok (.iload 5, 2) := by decide +kernel
theorem dX8_findMinor_159 : decode cX8_findMinor 159 = .ok (.iload 12, 2) := by decide +kernel
theorem dX8_findMinor_161 : decode cX8_findMinor 161 = .ok (.iadd, 1) := by decide +kernel
theorem dX8_findMinor_162 : decode cX8_findMinor 162 = .ok (.iload 9, 2) := by decide +kernel
theorem dX8_findMinor_164 : decode cX8_findMinor 164 = .ok (.iadd, 1) := by decide +kernel
theorem dX8_findMinor_165 : decode cX8_findMinor 165 = .ok (.iaload, 1) := by decide +kernel
theorem dX8_findMinor_166 : decode cX8_findMinor 166 = .ok (.i2l, 1) := by decide +kernel
theorem dX8_findMinor_167 : decode cX8_findMinor 167 = .ok (.lload 10, 2) := by decide +kernel
theorem dX8_findMinor_169 : decode cX8_findMinor 169 = .ok (.aload_n 0, 1) := by decide +kernel
theorem dX8_findMinor_170 : decode cX8_findMinor 170 = .ok (.getfield 20, 3) := by decide +kernel
theorem dX8_findMinor_173 : decode cX8_findMinor 173 = .ok (.iload 8, 2) := by decide +kernel
theorem dX8_findMinor_175 : decode cX8_findMinor 175 = .ok (.iload 12, 2) := by decide +kernel
theorem dX8_findMinor_177 : decode cX8_findMinor 177 = .ok (.iadd, 1) := by decide +kernel
theorem dX8_findMinor_178 : decode cX8_findMinor 178 = .ok (.iaload, 1) := by decide +kernel
theorem dX8_findMinor_179 : decode cX8_findMinor 179 = .ok (.i2l, 1) := by decide +kernel
theorem dX8_findMinor_180 : decode cX8_findMinor 180 = .ok (.lmul, 1) := by decide +kernel
theorem dX8_findMinor_181 : decode cX8_findMinor 181 = .ok (.ladd, 1) := by decide +kernel
theorem dX8_findMinor_182 : decode cX8_findMinor 182 = .ok (.invokestatic 87, 3) := by decide +kernel
theorem dX8_findMinor_185 : decode cX8_findMinor 185 = .ok (.iastore, 1) := by decide +kernel
theorem dX8_findMinor_186 : decode cX8_findMinor 186 = .ok (.iinc 12 1, 3) := by decide +kernel
theorem dX8_findMinor_189 : decode cX8_findMinor 189 = .ok (.goto (-65), 3) := by decide +kernel
theorem dX8_findMinor_192 : decode cX8_findMinor 192 = .ok (.iinc 9 1, 3) := by decide +kernel
theorem dX8_findMinor_195 : decode cX8_findMinor 195 = .ok (.goto (-117), 3) := by decide +kernel
theorem dX8_findMinor_198 : decode cX8_findMinor 198 = .ok (.iload 6, 2) := by decide +kernel
theorem dX8_findMinor_200 : decode cX8_findMinor 200 = .ok (.ifCond .ne 7, 3) := by decide +kernel
theorem dX8_findMinor_203 : decode cX8_findMinor 203 = .ok (.iconst 1, 1) := by decide +kernel
theorem dX8_findMinor_204 : decode cX8_findMinor 204 = .ok (.goto 4, 3) := by decide +kernel
theorem dX8_findMinor_207 : decode cX8_findMinor 207 = .ok (.iconst 0, 1) := by decide +kernel
theorem dX8_findMinor_208 : decode cX8_findMinor 208 = .ok (.istore 6, 2) := by decide +kernel
theorem dX8_findMinor_210 : decode cX8_findMinor 210 = .ok (.iinc 7 1, 3) := by decide +kernel
theorem dX8_findMinor_213 : decode cX8_findMinor 213 = .ok (.goto (-173), 3) := by decide +kernel
theorem dX8_findMinor_216 : decode cX8_findMinor 216 = .ok (.return_, 1) := by decide +kernel
set_option maxRecDepth 20000 in
theorem ggX8_loadEntries_X8_findMinors : GoodIn wsX8_loadEntries wsX8_findMinors := goodIn_r _ [7, 8, 9, 10, 6, 11, 12, 13, 14, 15, 1, 16, 17, 18, 19, 20, 21, 22, 23, 24, 25, 26, 27, 28, 29, 30, 31, 32, 33, 34, 35, 36, 37, 38, 39, 40] (by decide +kernel) (by decide +kernel)
set_option maxRecDepth 20000 in
theorem gX8_loadEntries_X8_findMinors : GoodIn wsX8_loadEntries (wsV RX8 99 RX8 yX8_findMinors wsX8_findMinors) := goodIn_app (goodIn_of _ (by decide +kernel)) ggX8_loadEntries_X8_findMinors
theorem dX8_loadEntries_0 : decode cX8_loadEntries 0 = .ok (.iconst 0, 1) := by decide +kernel
theorem dX8_loadEntries_1 : decode cX8_loadEntries 1 = .ok (.istore_n 1, 1) := by decide +kernel
theorem dX8_loadEntries_2 : decode cX8_loadEntries 2 = .ok (.iload_n 1, 1) := by decide +kernel
theorem dX8_loadEntries_3 : decode cX8_loadEntries 3 = .ok (.bipush 64, 2) := by decide +kernel
theorem dX8_loadEntries_5 : decode cX8_loadEntries 5 = .ok (.if_icmp .ge 21, 3) := by decide +kernel
theorem dX8_loadEntries_8 : decode cX8_loadEntries 8 = .ok (.aload_n 0, 1) := by decide +kernel
theorem dX8_loadEntries_9 : decode cX8_loadEntries 9 = .ok (.getfield 23, 3) := by decide +kernel
theorem dX8_loadEntries_12 : decode cX8_loadEntries 12 = .ok (.iload_n 1, 1) := by decide +kernel
theorem dX8_loadEntries_13 : decode cX8_loadEntries 13 = .ok (.aload_n 0, 1) := by decide +kernel
theorem dX8_loadEntries_14 : decode cX8_loadEntries 14 = .ok (.getfield 7, 3) := by decide +kernel
theorem dX8_loadEntries_17 : decode cX8_loadEntries 17 = .ok (.iload_n 1, 1) := by decide +kernel
theorem dX8_loadEntries_18 : decode cX8_loadEntries 18 = .ok (.iaload, 1) := by decide +kernel
theorem dX8_loadEntries_19 : decode cX8_loadEntries 19 = .ok (.iastore, 1) := by decide +kernel
theorem dX8_loadEntries_20 : decode cX8_loadEntries 20 = .ok (.iinc 1 1, 3) := by decide +kernel
theorem dX8_loadEntries_23 : decode cX8_loadEntries 23 = .ok (.goto (-21), 3) := by decide +kernel
theorem dX8_loadEntries_26 : decode cX8_loadEntries 26 = .ok (.aload_n 0, 1) := by decide +kernel
theorem dX8_loadEntries_27 : decode cX8_loadEntries 27 = .ok (.invokevirtual 99, 3) := by decide +kernel
theorem dX8_loadEntries_30 : decode cX8_loadEntries 30 = .ok (.return_, 1) := by decide +kernel
theorem dX8_isMinor_0 : decode cX8_isMinor 0 = .ok (.iconst 0, 1) := by decide +kernel
theorem dX8_isMinor_1 : decode cX8_isMinor 1 = .ok (.istore_n 3, 1) := by decide +kernel
theorem dX8_isMinor_2 : decode cX8_isMinor 2 = .ok (.iconst 0, 1) := by decide +kernel
theorem dX8_isMinor_3 : decode cX8_isMinor 3 = .ok (.istore 4, 2) := by decide +kernel
theorem dX8_isMinor_5 : decode cX8_isMinor 5 = .ok (.iload 4, 2) := by decide +kernel
theorem dX8_isMinor_7 : decode cX8_isMinor 7 = .ok (.bipush 13, 2) := by decide +kernel
theorem dX8_isMinor_9 : decode cX8_isMinor 9 = .ok (.if_icmp .ge 39, 3) := by decide +kernel
theorem dX8_isMinor_12 : decode cX8_isMinor 12 = .ok (.iload_n 3, 1) := by decide +kernel
theorem dX8_isMinor_13 : decode cX8_isMinor 13 = .ok (.ifCond .ne 23, 3) := by decide +kernel
theorem dX8_isMinor_16 : decode cX8_isMinor 16 = .ok (.aload_n 0, 1) := by decide +kernel
theorem dX8_isMinor_17 : decode cX8_isMinor 17 = .ok (.getfield 20, 3) := by decide +kernel
theorem dX8_isMinor_20 : decode cX8_isMinor 20 = .ok (.bipush 13, 2) := by decide +kernel
theorem dX8_isMinor_22 : decode cX8_isMinor 22 = .ok (.bipush 16, 2) := by decide +kernel
theorem dX8_isMinor_24 : decode cX8_isMinor 24 = .ok (.iload_n 1, 1) := by decide +kernel
theorem dX8_isMinor_25 : decode cX8_isMinor 25 = .ok (.imul, 1) := by decide +kernel
theorem dX8_isMinor_26 : decode cX8_isMinor 26 = .ok (.iload_n 2, 1) := by decide +kernel
theorem dX8_isMinor_27 : decode cX8_isMinor 27 = .ok (.iadd, 1) := by decide +kernel
theorem dX8_isMinor_28 : decode cX8_isMinor 28 = .ok (.imul, 1) := by decide +kernel
theorem dX8_isMinor_29 : decode cX8_isMinor 29 = .ok (.iload 4, 2) := by decide +kernel
theorem dX8_isMinor_31 : decode cX8_isMinor 31 = .ok (.iadd, 1) := by decide +kernel
theorem dX8_isMinor_32 : decode cX8_isMinor 32 = .ok (.iaload, 1) := by decide +kernel
theorem dX8_isMinor_33 : decode cX8_isMinor 33 = .ok (.ifCond .eq 7, 3) := by decide +kernel
theorem dX8_isMinor_36 : decode cX8_isMinor 36 = .ok (.iconst 1, 1) := by decide +kernel
theorem dX8_isMinor_37 : decode cX8_isMinor 37 = .ok (.goto 4, 3) := by decide +kernel
theorem dX8_isMinor_40 : decode cX8_isMinor 40 = .ok (.iconst 0, 1) := by decide +kernel
theorem dX8_isMinor_41 : decode cX8_isMinor 41 = .ok (.istore_n 3, 1) := by decide +kernel
theorem dX8_isMinor_42 : decode cX8_isMinor 42 = .ok (.iinc 4 1, 3) := by decide +kernel
theorem dX8_isMinor_45 : decode cX8_isMinor 45 = .ok (.goto (-40), 3) := by decide +kernel
theorem dX8_isMinor_48 : decode cX8_isMinor 48 = .ok (.iload_n 3, 1) := by decide +kernel
theorem dX8_isMinor_49 : decode cX8_isMinor 49 = .ok (.ireturn, 1) := by decide +kernel
set_option maxRecDepth 20000 in
theorem ggX8_rankNow_X8_bits : GoodIn wsX8_rankNow wsX8_bits := goodIn_r _ [4] (by decide +kernel) (by decide +kernel)
set_option maxRecDepth 20000 in
theorem gX8_rankNow_X8_bits : GoodIn wsX8_rankNow (va_wsS RX8 91 yX8_bits wsX8_bits) := goodIn_app (goodIn_of _ (by decide +kernel)) ggX8_rankNow_X8_bits
set_option maxRecDepth 20000 in
theorem ggX8_rankNow_X8_isMinor : GoodIn wsX8_rankNow wsX8_isMinor := goodIn_r _ [8, 9, 10, 11, 12, 13, 14, 15, 16, 17, 18, 19, 20, 21, 22, 23, 24, 25, 26, 27, 28, 29, 30] (by decide +kernel) (by decide +kernel)
set_option maxRecDepth 20000 in
theorem gX8_rankNow_X8_isMinor : GoodIn wsX8_rankNow (wsV RX8 102 RX8 yX8_isMinor wsX8_isMinor) := goodIn_app (goodIn_of _ (by decide +kernel)) ggX8_rankNow_X8_isMinor
