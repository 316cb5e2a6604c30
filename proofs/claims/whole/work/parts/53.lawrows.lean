theorem dL_cell_0 : decode cL_cell 0 = .ok (.iload_n 1, 1) := by decide +kernel
theorem dL_cell_1 : decode cL_cell 1 = .ok (.aload_n 0, 1) := by decide +kernel
theorem dL_cell_2 : decode cL_cell 2 = .ok (.arraylength, 1) := by decide +kernel
theorem dL_cell_3 : decode cL_cell 3 = .ok (.if_icmp .ge 9, 3) := by decide +kernel
theorem dL_cell_6 : decode cL_cell 6 = .ok (.aload_n 0, 1) := by decide +kernel
theorem dL_cell_7 : decode cL_cell 7 = .ok (.iload_n 1, 1) := by decide +kernel
theorem dL_cell_8 : decode cL_cell 8 = .ok (.iaload, 1) := by decide +kernel
theorem dL_cell_9 : decode cL_cell 9 = .ok (.goto 4, 3) := by decide +kernel
theorem dL_cell_12 : decode cL_cell 12 = .ok (.iconst 0, 1) := by decide +kernel
theorem dL_cell_13 : decode cL_cell 13 = .ok (.ireturn, 1) := by decide +kernel
set_option maxRecDepth 20000 in
theorem ggL_get_X2_get : GoodIn wsL_get wsX2_get := goodIn_ca (goodIn_r _ [6, 7, 8, 9, 10, 11, 12, 13, 5, 14, 15, 16, 17, 18, 19, 20, 21, 22, 23, 24, 25, 26, 27, 28, 29, 30, 31, 32, 33, 34, 35, 36, 37, 38, 39, 40, 41, 42, 43, 44, 45, 46, 47, 48, 49, 50, 51, 52] (by decide +kernel) (by decide +kernel)) (goodIn_sub (fun _ h => List.mem_cons_of_mem _ (List.mem_append_right _ h)) (by decide +kernel))
set_option maxRecDepth 20000 in
theorem gL_get_X2_get : GoodIn wsL_get (wsV RL 7 RX2 yX2_get wsX2_get) := goodIn_app (goodIn_of _ (by decide +kernel)) ggL_get_X2_get
theorem dL_get_0 : decode cL_get 0 = .ok (.aload_n 3, 1) := by decide +kernel
theorem dL_get_1 : decode cL_get 1 = .ok (.iconst 0, 1) := by decide +kernel
theorem dL_get_2 : decode cL_get 2 = .ok (.aload_n 0, 1) := by decide +kernel
theorem dL_get_3 : decode cL_get 3 = .ok (.iload_n 1, 1) := by decide +kernel
theorem dL_get_4 : decode cL_get 4 = .ok (.iload_n 2, 1) := by decide +kernel
theorem dL_get_5 : decode cL_get 5 = .ok (.invokevirtual 7, 3) := by decide +kernel
theorem dL_get_8 : decode cL_get 8 = .ok (.i2l, 1) := by decide +kernel
theorem dL_get_9 : decode cL_get 9 = .ok (.lastore, 1) := by decide +kernel
theorem dL_get_10 : decode cL_get 10 = .ok (.goto 7, 3) := by decide +kernel
theorem dL_get_13 : decode cL_get 13 = .ok (.astore 4, 2) := by decide +kernel
theorem dL_get_15 : decode cL_get 15 = .ok (.iconst 1, 1) := by decide +kernel
theorem dL_get_16 : decode cL_get 16 = .ok (.ireturn, 1) := by decide +kernel
theorem dL_get_17 : decode cL_get 17 = .ok (.iconst 0, 1) := by decide +kernel
theorem dL_get_18 : decode cL_get 18 = .ok (.ireturn, 1) := by decide +kernel
set_option maxRecDepth 20000 in
theorem ggL_floor_X2_floor : GoodIn wsL_floor wsX2_floor := goodIn_ca (goodIn_r _ [6, 7, 8, 9, 10, 11, 12, 13, 14, 5, 15, 16, 17, 18, 19, 20, 21, 22, 23, 24, 25, 26, 27, 28, 29, 30, 31, 32, 33, 34, 35, 36, 37, 38, 39, 40, 41, 42] (by decide +kernel) (by decide +kernel)) (goodIn_sub (fun _ h => List.mem_cons_of_mem _ (List.mem_append_right _ h)) (by decide +kernel))
set_option maxRecDepth 20000 in
theorem gL_floor_X2_floor : GoodIn wsL_floor (wsV RL 15 RX2 yX2_floor wsX2_floor) := goodIn_app (goodIn_of _ (by decide +kernel)) ggL_floor_X2_floor
theorem dL_floor_0 : decode cL_floor 0 = .ok (.aload_n 3, 1) := by decide +kernel
theorem dL_floor_1 : decode cL_floor 1 = .ok (.iconst 0, 1) := by decide +kernel
theorem dL_floor_2 : decode cL_floor 2 = .ok (.aload_n 0, 1) := by decide +kernel
theorem dL_floor_3 : decode cL_floor 3 = .ok (.iload_n 1, 1) := by decide +kernel
theorem dL_floor_4 : decode cL_floor 4 = .ok (.iload_n 2, 1) := by decide +kernel
theorem dL_floor_5 : decode cL_floor 5 = .ok (.invokevirtual 15, 3) := by decide +kernel
theorem dL_floor_8 : decode cL_floor 8 = .ok (.i2l, 1) := by decide +kernel
theorem dL_floor_9 : decode cL_floor 9 = .ok (.lastore, 1) := by decide +kernel
theorem dL_floor_10 : decode cL_floor 10 = .ok (.goto 7, 3) := by decide +kernel
theorem dL_floor_13 : decode cL_floor 13 = .ok (.astore 4, 2) := by decide +kernel
theorem dL_floor_15 : decode cL_floor 15 = .ok (.iconst 1, 1) := by decide +kernel
theorem dL_floor_16 : decode cL_floor 16 = .ok (.ireturn, 1) := by decide +kernel
theorem dL_floor_17 : decode cL_floor 17 = .ok (.iconst 0, 1) := by decide +kernel
theorem dL_floor_18 : decode cL_floor 18 = .ok (.ireturn, 1) := by decide +kernel
set_option maxRecDepth 20000 in
theorem ggL_keyAt_X2_keyAt : GoodIn wsL_keyAt wsX2_keyAt := goodIn_ca (goodIn_ca (goodIn_r _ [7, 8, 9, 10, 11, 12, 13, 14, 15, 16, 17, 6, 18, 19, 20, 21, 22, 23, 24, 25, 26, 27, 28, 29, 30, 31, 32, 33, 34, 35, 36, 37, 38, 39, 40, 41, 42, 43, 44, 45] (by decide +kernel) (by decide +kernel)) (goodIn_sub (fun _ h => List.mem_cons_of_mem _ (List.mem_append_left _ (List.mem_append_right _ h))) (by decide +kernel))) (goodIn_sub (fun _ h => List.mem_cons_of_mem _ (List.mem_append_right _ h)) (by decide +kernel))
set_option maxRecDepth 20000 in
theorem gL_keyAt_X2_keyAt : GoodIn wsL_keyAt (wsV RL 18 RX2 yX2_keyAt wsX2_keyAt) := goodIn_app (goodIn_of _ (by decide +kernel)) ggL_keyAt_X2_keyAt
theorem dL_keyAt_0 : decode cL_keyAt 0 = .ok (.aload_n 3, 1) := by decide +kernel
theorem dL_keyAt_1 : decode cL_keyAt 1 = .ok (.iconst 0, 1) := by decide +kernel
theorem dL_keyAt_2 : decode cL_keyAt 2 = .ok (.aload_n 0, 1) := by decide +kernel
theorem dL_keyAt_3 : decode cL_keyAt 3 = .ok (.iload_n 1, 1) := by decide +kernel
theorem dL_keyAt_4 : decode cL_keyAt 4 = .ok (.iload_n 2, 1) := by decide +kernel
theorem dL_keyAt_5 : decode cL_keyAt 5 = .ok (.invokevirtual 18, 3) := by decide +kernel
theorem dL_keyAt_8 : decode cL_keyAt 8 = .ok (.i2l, 1) := by decide +kernel
theorem dL_keyAt_9 : decode cL_keyAt 9 = .ok (.lastore, 1) := by decide +kernel
theorem dL_keyAt_10 : decode cL_keyAt 10 = .ok (.goto 11, 3) := by decide +kernel
theorem dL_keyAt_13 : decode cL_keyAt 13 = .ok (.astore 4, 2) := by decide +kernel
theorem dL_keyAt_15 : decode cL_keyAt 15 = .ok (.iconst 1, 1) := by decide +kernel
theorem dL_keyAt_16 : decode cL_keyAt 16 = .ok (.ireturn, 1) := by decide +kernel
theorem dL_keyAt_17 : decode cL_keyAt 17 = .ok (.astore 4, 2) := by decide +kernel
theorem dL_keyAt_19 : decode cL_keyAt 19 = .ok (.iconst 2, 1) := by decide +kernel
theorem dL_keyAt_20 : decode cL_keyAt 20 = .ok (.ireturn, 1) := by decide +kernel
theorem dL_keyAt_21 : decode cL_keyAt 21 = .ok (.iconst 0, 1) := by decide +kernel
theorem dL_keyAt_22 : decode cL_keyAt 22 = .ok (.ireturn, 1) := by decide +kernel
set_option maxRecDepth 20000 in
theorem ggL_depth_X2_depth : GoodIn wsL_depth wsX2_depth := goodIn_ca (goodIn_r _ [6, 7, 8, 9, 10, 11, 12, 13, 5, 14, 15, 16, 17, 18, 19, 20, 21, 22, 23, 24, 25, 26, 27, 28, 29, 30, 31, 32, 33, 34, 35, 36, 37, 38, 39, 40, 41, 42, 43, 44, 45, 46, 47, 48, 49, 50, 51] (by decide +kernel) (by decide +kernel)) (goodIn_sub (fun _ h => List.mem_cons_of_mem _ (List.mem_append_right _ h)) (by decide +kernel))
set_option maxRecDepth 20000 in
theorem gL_depth_X2_depth : GoodIn wsL_depth (wsV RL 23 RX2 yX2_depth wsX2_depth) := goodIn_app (goodIn_of _ (by decide +kernel)) ggL_depth_X2_depth
theorem dL_depth_0 : decode cL_depth 0 = .ok (.aload_n 3, 1) := by decide +kernel
theorem dL_depth_1 : decode cL_depth 1 = .ok (.iconst 0, 1) := by decide +kernel
theorem dL_depth_2 : decode cL_depth 2 = .ok (.aload_n 0, 1) := by decide +kernel
theorem dL_depth_3 : decode cL_depth 3 = .ok (.iload_n 1, 1) := by decide +kernel
theorem dL_depth_4 : decode cL_depth 4 = .ok (.iload_n 2, 1) := by decide +kernel
theorem dL_depth_5 : decode cL_depth 5 = .ok (.invokevirtual 23, 3) := by decide +kernel
theorem dL_depth_8 : decode cL_depth 8 = .ok (.i2l, 1) := by decide +kernel
theorem dL_depth_9 : decode cL_depth 9 = .ok (.lastore, 1) := by decide +kernel
theorem dL_depth_10 : decode cL_depth 10 = .ok (.goto 7, 3) := by decide +kernel
theorem dL_depth_13 : decode cL_depth 13 = .ok (.astore 4, 2) := by decide +kernel
theorem dL_depth_15 : decode cL_depth 15 = .ok (.iconst 1, 1) := by decide +kernel
theorem dL_depth_16 : decode cL_depth 16 = .ok (.ireturn, 1) := by decide +kernel
theorem dL_depth_17 : decode cL_depth 17 = .ok (.iconst 0, 1) := by decide +kernel
theorem dL_depth_18 : decode cL_depth 18 = .ok (.ireturn, 1) := by decide +kernel
set_option maxRecDepth 20000 in
theorem ggL_law_L_cell : GoodIn wsL_law wsL_cell := goodIn_r _ [10] (by decide +kernel) (by decide +kernel)
set_option maxRecDepth 20000 in
theorem gL_law_L_cell : GoodIn wsL_law (va_wsS RL 26 yL_cell wsL_cell) := goodIn_app (goodIn_of _ (by decide +kernel)) ggL_law_L_cell
set_option maxRecDepth 20000 in
theorem ggL_law_X2_init : GoodIn wsL_law wsX2_init := goodIn_r _ [13, 14, 15, 16, 17, 18, 19, 20, 21, 22, 23, 24, 25, 26, 27, 28, 29, 30, 31, 32, 33, 34, 35, 36, 37, 38, 39, 40, 41, 42, 43, 44, 45, 46, 47, 48, 49, 50, 478, 479, 480, 481, 482, 483, 484, 485, 486, 487, 488, 448, 449, 450, 451, 452, 453, 489, 490, 491] (by decide +kernel) (by decide +kernel)
set_option maxRecDepth 20000 in
theorem gL_law_X2_init : GoodIn wsL_law (wsX2_init) := ggL_law_X2_init
set_option maxRecDepth 20000 in
theorem ggL_law_X3_init : GoodIn wsL_law wsX3_init := goodIn_r _ [53, 54, 15, 16, 27, 55, 56, 57, 58, 59, 25, 60, 61, 62, 63, 64, 65, 66, 67, 68, 454, 455, 456, 457, 458, 459, 460, 461, 462, 463, 464, 465, 466, 467, 468, 469, 470, 471, 472, 473, 474, 475, 476, 477] (by decide +kernel) (by decide +kernel)
set_option maxRecDepth 20000 in
theorem gL_law_X3_init : GoodIn wsL_law (wsX3_init) := ggL_law_X3_init
set_option maxRecDepth 20000 in
theorem ggL_law_X2_put : GoodIn wsL_law wsX2_put := goodIn_r _ [72, 24, 28, 73, 20, 74, 75, 76, 77, 78, 79, 2, 80, 26, 81, 82, 83, 23, 84, 85, 50, 48, 86, 87, 88, 89, 90, 91, 92, 93, 94, 95, 96, 97, 98, 99, 100, 19, 101, 102, 34, 103, 104, 105, 106, 107, 108, 109, 110, 42, 111, 112, 113, 114, 43, 38, 39, 115, 116, 117, 118, 119, 120, 121, 122, 41, 123, 124, 125, 126, 29, 127, 128, 129, 130, 131, 132, 133, 134, 135, 37, 35, 136, 137, 138, 139, 36, 140, 141, 142, 143, 40, 144, 145, 146, 147, 148, 149, 150, 151, 152, 153, 154, 155, 156, 157, 448, 449, 450, 451, 452, 453, 489, 490, 491, 478, 479, 480, 481, 482, 483, 484, 485, 486, 487, 488] (by decide +kernel) (by decide +kernel)
set_option maxRecDepth 20000 in
theorem gL_law_X2_put : GoodIn wsL_law (wsV RL 38 RX2 yX2_put wsX2_put) := goodIn_app (goodIn_of _ (by decide +kernel)) ggL_law_X2_put
set_option maxRecDepth 20000 in
theorem ggL_law_X3_put : GoodIn wsL_law wsX3_put := goodIn_r _ [161, 162, 64, 163, 63, 164, 165, 166, 167, 5, 168, 67, 169, 170, 171, 172, 173, 174, 175, 176, 177, 178, 179, 180, 181, 182, 183, 60, 184, 185, 186, 187, 188, 62, 58, 59, 189, 190, 191, 192, 55, 193, 194, 195, 196, 65, 197, 198, 199, 200, 201, 66, 202, 203, 204, 205, 206, 56, 207, 208, 209, 210, 57, 211, 212, 213, 214, 215, 216, 217, 218, 219, 220, 221, 222, 223, 224, 225, 226, 227, 68, 228, 229, 230, 231, 232, 454, 455, 456, 457, 458, 459, 460, 461, 462, 463, 464, 465, 466, 467, 468, 469, 470, 471, 472, 473, 474, 475, 476, 477] (by decide +kernel) (by decide +kernel)
set_option maxRecDepth 20000 in
theorem gL_law_X3_put : GoodIn wsL_law (wsV RL 42 RX3 yX3_put wsX3_put) := goodIn_app (goodIn_of _ (by decide +kernel)) ggL_law_X3_put
set_option maxRecDepth 20000 in
theorem ggL_law_X2_remove : GoodIn wsL_law wsX2_remove := goodIn_r _ [236, 24, 28, 73, 77, 78, 79, 2, 80, 26, 237, 238, 239, 23, 240, 85, 48, 88, 87, 241, 82, 83, 84, 50, 86, 242, 243, 244, 245, 246, 132, 133, 134, 19, 135, 37, 35, 89, 90, 91, 92, 93, 94, 95, 96, 20, 97, 98, 99, 100, 101, 102, 34, 103, 104, 105, 106, 107, 108, 109, 110, 42, 111, 112, 113, 114, 43, 38, 39, 115, 116, 117, 118, 119, 120, 121, 122, 41, 150, 151, 152, 153, 136, 137, 138, 139, 36, 140, 141, 142, 143, 40, 144, 145, 146, 147, 154, 155, 156, 157, 448, 449, 450, 451, 452, 453, 489, 490, 491, 478, 479, 480, 481, 482, 483, 484, 485, 486, 487, 488] (by decide +kernel) (by decide +kernel)
set_option maxRecDepth 20000 in
theorem gL_law_X2_remove : GoodIn wsL_law (wsV RL 43 RX2 yX2_remove wsX2_remove) := goodIn_app (goodIn_of _ (by decide +kernel)) ggL_law_X2_remove
set_option maxRecDepth 20000 in
theorem ggL_law_X3_remove : GoodIn wsL_law wsX3_remove := goodIn_r _ [250, 162, 64, 164, 163, 65, 55, 58, 59, 165, 166, 167, 5, 168, 67, 63, 169, 170, 171, 172, 173, 174, 175, 176, 177, 178, 179, 180, 181, 182, 183, 60, 184, 185, 186, 187, 188, 62, 189, 190, 191, 192, 251, 252, 253, 254, 197, 198, 199, 200, 201, 66, 202, 193, 194, 195, 196, 207, 208, 209, 210, 56, 57, 211, 212, 213, 214, 215, 216, 217, 218, 219, 220, 221, 222, 223, 255, 256, 257, 258, 229, 230, 231, 232, 454, 455, 456, 457, 458, 459, 460, 461, 462, 463, 464, 465, 466, 467, 468, 469, 470, 471, 472, 473, 474, 475, 476, 477] (by decide +kernel) (by decide +kernel)
set_option maxRecDepth 20000 in
theorem gL_law_X3_remove : GoodIn wsL_law (wsV RL 46 RX3 yX3_remove wsX3_remove) := goodIn_app (goodIn_of _ (by decide +kernel)) ggL_law_X3_remove
set_option maxRecDepth 20000 in
theorem ggL_law_X2_below : GoodIn wsL_law wsX2_below := goodIn_r _ [262, 24, 28, 73, 77, 78, 79, 2, 80, 26, 263, 264, 265, 23, 266, 85, 50, 48, 86, 87, 88, 89, 90, 91, 92, 93, 94, 95, 96, 20, 97, 98, 99, 100, 19, 101, 102, 34, 103, 104, 105, 106, 107, 108, 109, 110, 42, 111, 112, 113, 114, 43, 38, 39, 115, 116, 117, 118, 119, 120, 121, 122, 41, 150, 151, 152, 153, 136, 137, 138, 139, 35, 36, 37, 140, 141, 142, 143, 40, 144, 145, 146, 147, 154, 155, 156, 157, 448, 449, 450, 451, 452, 453, 489, 490, 491, 478, 479, 480, 481, 482, 483, 484, 485, 486, 487, 488] (by decide +kernel) (by decide +kernel)
set_option maxRecDepth 20000 in
theorem gL_law_X2_below : GoodIn wsL_law (wsV RL 47 RX2 yX2_below wsX2_below) := goodIn_app (goodIn_of _ (by decide +kernel)) ggL_law_X2_below
set_option maxRecDepth 20000 in
theorem ggL_law_X3_below : GoodIn wsL_law wsX3_below := goodIn_r _ [270, 162, 64, 163, 55, 65, 59, 165, 166, 167, 5, 168, 67, 63, 169, 170, 171, 172, 173, 174, 175, 176, 177, 178, 164, 179, 180, 181, 182, 183, 60, 184, 185, 186, 187, 188, 62, 58, 193, 194, 195, 196, 207, 208, 209, 210, 56, 57, 211, 212, 213, 214, 215, 216, 217, 218, 219, 220, 221, 222, 223, 251, 252, 253, 254, 197, 198, 199, 200, 201, 66, 202, 454, 455, 456, 457, 458, 459, 460, 461, 462, 463, 464, 465, 466, 467, 468, 469, 470, 471, 472, 473, 474, 475, 476, 477] (by decide +kernel) (by decide +kernel)
set_option maxRecDepth 20000 in
theorem gL_law_X3_below : GoodIn wsL_law (wsV RL 50 RX3 yX3_below wsX3_below) := goodIn_app (goodIn_of _ (by decide +kernel)) ggL_law_X3_below
set_option maxRecDepth 20000 in
theorem ggL_law_X2_join : GoodIn wsL_law wsX2_join := goodIn_r _ [274, 28, 20, 275, 276, 24, 73, 77, 78, 79, 2, 80, 26, 277, 278, 279, 19, 280, 34, 40, 38, 39, 281, 243, 244, 23, 245, 85, 50, 48, 246, 86, 87, 88, 132, 133, 134, 135, 37, 35, 89, 90, 91, 92, 93, 94, 95, 96, 97, 98, 99, 100, 101, 102, 103, 104, 105, 106, 107, 108, 109, 110, 42, 111, 112, 113, 114, 43, 115, 116, 117, 118, 119, 120, 121, 122, 41, 150, 151, 152, 153, 136, 137, 138, 139, 36, 140, 141, 142, 143, 144, 145, 146, 147, 154, 155, 156, 157, 448, 449, 450, 451, 452, 453, 478, 479, 480, 481, 482, 483, 484, 485, 486, 487, 488, 489, 490, 491] (by decide +kernel) (by decide +kernel)
set_option maxRecDepth 20000 in
theorem gL_law_X2_join : GoodIn wsL_law (wsV RL 51 RX2 yX2_join wsX2_join) := goodIn_app (goodIn_of _ (by decide +kernel)) ggL_law_X2_join
set_option maxRecDepth 20000 in
theorem ggL_law_X3_join : GoodIn wsL_law wsX3_join := goodIn_r _ [285, 162, 64, 165, 166, 167, 5, 168, 67, 63, 286, 287, 288, 289, 59, 55, 290, 291, 292, 293, 58, 169, 170, 171, 172, 173, 174, 175, 176, 177, 178, 164, 179, 180, 181, 182, 183, 60, 184, 185, 186, 187, 188, 62, 255, 256, 257, 258, 229, 230, 231, 232, 57, 207, 208, 209, 210, 56, 211, 212, 213, 214, 215, 216, 217, 218, 219, 220, 221, 222, 223, 251, 252, 253, 254, 197, 198, 199, 200, 201, 66, 202, 454, 455, 456, 457, 458, 459, 460, 461, 462, 463, 464, 465, 466, 467, 468, 469, 470, 471, 472, 473, 474, 475, 476, 477] (by decide +kernel) (by decide +kernel)
set_option maxRecDepth 20000 in
theorem gL_law_X3_join : GoodIn wsL_law (wsV RL 54 RX3 yX3_join wsX3_join) := goodIn_app (goodIn_of _ (by decide +kernel)) ggL_law_X3_join
set_option maxRecDepth 20000 in
theorem ggL_law_X2_drop : GoodIn wsL_law wsX2_drop := goodIn_r _ [297, 26, 77, 78, 79, 2, 80, 448, 449, 450, 451, 452, 453] (by decide +kernel) (by decide +kernel)
set_option maxRecDepth 20000 in
theorem gL_law_X2_drop : GoodIn wsL_law (wsV RL 55 RX2 yX2_drop wsX2_drop) := goodIn_app (goodIn_of _ (by decide +kernel)) ggL_law_X2_drop
set_option maxRecDepth 20000 in
theorem ggL_law_X3_drop : GoodIn wsL_law wsX3_drop := goodIn_r _ [301, 162, 63, 64, 165, 166, 167, 5, 168, 67, 454, 455, 456, 457, 458, 459, 460, 461, 462, 463, 464, 465, 466, 467, 468, 469, 470, 471, 472, 473, 474, 475, 476, 477] (by decide +kernel) (by decide +kernel)
set_option maxRecDepth 20000 in
theorem gL_law_X3_drop : GoodIn wsL_law (wsV RL 59 RX3 yX3_drop wsX3_drop) := goodIn_app (goodIn_of _ (by decide +kernel)) ggL_law_X3_drop
set_option maxRecDepth 20000 in
theorem ggL_law_X2_isLive : GoodIn wsL_law wsX2_isLive := goodIn_r _ [80, 26, 448, 449, 450, 451, 452, 453] (by decide +kernel) (by decide +kernel)
set_option maxRecDepth 20000 in
theorem gL_law_X2_isLive : GoodIn wsL_law (wsV RL 60 RX2 yX2_isLive wsX2_isLive) := goodIn_app (goodIn_of _ (by decide +kernel)) ggL_law_X2_isLive
set_option maxRecDepth 20000 in
theorem ggL_law_X3_isLive : GoodIn wsL_law wsX3_isLive := goodIn_r _ [306, 162, 165, 166, 167, 5, 168, 67, 63, 454, 455, 456, 457, 458, 459, 460, 461, 462, 463, 464, 465, 466, 467, 468, 469, 470, 471, 472, 473, 474, 475, 476, 477] (by decide +kernel) (by decide +kernel)
set_option maxRecDepth 20000 in
theorem gL_law_X3_isLive : GoodIn wsL_law (wsV RL 63 RX3 yX3_isLive wsX3_isLive) := goodIn_app (goodIn_of _ (by decide +kernel)) ggL_law_X3_isLive
set_option maxRecDepth 20000 in
theorem ggL_law_L_get : GoodIn wsL_law wsL_get := goodIn_ca (goodIn_r _ [309, 310, 311, 312, 313, 2, 314, 315, 316, 20, 317, 318, 319, 320, 321, 24, 28, 77, 78, 79, 80, 26, 81, 82, 83, 23, 84, 85, 50, 48, 86, 87, 88, 448, 449, 450, 451, 452, 453, 478, 479, 480, 481, 482, 483, 484, 485, 486, 487, 488, 489, 490, 491] (by decide +kernel) (by decide +kernel)) (goodIn_sub (fun _ h => List.mem_append_left _ (List.mem_append_right _ h)) (by decide +kernel))
set_option maxRecDepth 20000 in
theorem gL_law_L_get : GoodIn wsL_law (va_wsS RL 64 yL_get wsL_get) := goodIn_app (goodIn_of _ (by decide +kernel)) ggL_law_L_get
set_option maxRecDepth 20000 in
theorem ggL_law_X3_get : GoodIn wsL_law wsX3_get := goodIn_r _ [325, 64, 162, 56, 165, 166, 167, 5, 168, 67, 63, 189, 190, 191, 192, 55, 59, 58, 454, 455, 456, 457, 458, 459, 460, 461, 462, 463, 464, 465, 466, 467, 468, 469, 470, 471, 472, 473, 474, 475, 476, 477] (by decide +kernel) (by decide +kernel)
set_option maxRecDepth 20000 in
theorem gL_law_X3_get : GoodIn wsL_law (wsV RL 67 RX3 yX3_get wsX3_get) := goodIn_app (goodIn_of _ (by decide +kernel)) ggL_law_X3_get
set_option maxRecDepth 20000 in
theorem ggL_law_X3_thrown : GoodIn wsL_law wsX3_thrown := goodIn_r _ [329, 162, 454, 455, 456, 457, 458, 459, 460, 461, 462, 463, 464, 465, 466, 467, 468, 469, 470, 471, 472, 473, 474, 475, 476, 477] (by decide +kernel) (by decide +kernel)
set_option maxRecDepth 20000 in
theorem gL_law_X3_thrown : GoodIn wsL_law (wsV RL 68 RX3 yX3_thrown wsX3_thrown) := goodIn_app (goodIn_of _ (by decide +kernel)) ggL_law_X3_thrown
set_option maxRecDepth 20000 in
theorem ggL_law_X2_contains : GoodIn wsL_law wsX2_contains := goodIn_r _ [333, 318, 319, 320, 2, 321, 24, 28, 77, 78, 79, 80, 26, 81, 82, 83, 23, 84, 85, 50, 48, 86, 87, 88, 448, 449, 450, 451, 452, 453, 489, 490, 491, 478, 479, 480, 481, 482, 483, 484, 485, 486, 487, 488] (by decide +kernel) (by decide +kernel)
set_option maxRecDepth 20000 in
theorem gL_law_X2_contains : GoodIn wsL_law (wsV RL 72 RX2 yX2_contains wsX2_contains) := goodIn_app (goodIn_of _ (by decide +kernel)) ggL_law_X2_contains
set_option maxRecDepth 20000 in
theorem ggL_law_X3_contains : GoodIn wsL_law wsX3_contains := goodIn_r _ [337, 162, 64, 165, 166, 167, 5, 168, 67, 63, 189, 190, 191, 192, 55, 59, 58, 454, 455, 456, 457, 458, 459, 460, 461, 462, 463, 464, 465, 466, 467, 468, 469, 470, 471, 472, 473, 474, 475, 476, 477] (by decide +kernel) (by decide +kernel)
set_option maxRecDepth 20000 in
theorem gL_law_X3_contains : GoodIn wsL_law (wsV RL 76 RX3 yX3_contains wsX3_contains) := goodIn_app (goodIn_of _ (by decide +kernel)) ggL_law_X3_contains
set_option maxRecDepth 20000 in
theorem ggL_law_X2_size : GoodIn wsL_law wsX2_size := goodIn_r _ [341, 20, 275, 28, 77, 78, 79, 2, 80, 26, 448, 449, 450, 451, 452, 453, 478, 479, 480, 481, 482, 483, 484, 485, 486, 487, 488] (by decide +kernel) (by decide +kernel)
set_option maxRecDepth 20000 in
theorem gL_law_X2_size : GoodIn wsL_law (wsV RL 77 RX2 yX2_size wsX2_size) := goodIn_app (goodIn_of _ (by decide +kernel)) ggL_law_X2_size
set_option maxRecDepth 20000 in
theorem ggL_law_X3_size : GoodIn wsL_law wsX3_size := goodIn_r _ [345, 162, 64, 61, 346, 347, 348, 5, 349, 165, 166, 167, 168, 67, 63, 184, 185, 186, 187, 188, 62, 58, 59, 454, 455, 456, 457, 458, 459, 460, 461, 462, 463, 464, 465, 466, 467, 468, 469, 470, 471, 472, 473, 474, 475, 476, 477] (by decide +kernel) (by decide +kernel)
set_option maxRecDepth 20000 in
theorem gL_law_X3_size : GoodIn wsL_law (wsV RL 81 RX3 yX3_size wsX3_size) := goodIn_app (goodIn_of _ (by decide +kernel)) ggL_law_X3_size
set_option maxRecDepth 20000 in
theorem ggL_law_L_floor : GoodIn wsL_law wsL_floor := goodIn_ca (goodIn_r _ [352, 310, 353, 354, 355, 2, 356, 315, 316, 20, 28, 276, 77, 78, 79, 80, 26, 357, 358, 359, 19, 360, 34, 35, 39, 38, 448, 449, 450, 451, 452, 453, 478, 479, 480, 481, 482, 483, 484, 485, 486, 487, 488] (by decide +kernel) (by decide +kernel)) (goodIn_sub (fun _ h => List.mem_append_left _ (List.mem_append_right _ h)) (by decide +kernel))
set_option maxRecDepth 20000 in
theorem gL_law_L_floor : GoodIn wsL_law (va_wsS RL 82 yL_floor wsL_floor) := goodIn_app (goodIn_of _ (by decide +kernel)) ggL_law_L_floor
set_option maxRecDepth 20000 in
theorem ggL_law_X3_floor : GoodIn wsL_law wsX3_floor := goodIn_r _ [364, 162, 64, 55, 59, 58, 165, 166, 167, 5, 168, 67, 63, 454, 455, 456, 457, 458, 459, 460, 461, 462, 463, 464, 465, 466, 467, 468, 469, 470, 471, 472, 473, 474, 475, 476, 477] (by decide +kernel) (by decide +kernel)
set_option maxRecDepth 20000 in
theorem gL_law_X3_floor : GoodIn wsL_law (wsV RL 84 RX3 yX3_floor wsX3_floor) := goodIn_app (goodIn_of _ (by decide +kernel)) ggL_law_X3_floor
set_option maxRecDepth 20000 in
theorem ggL_law_L_keyAt : GoodIn wsL_law wsL_keyAt := goodIn_ca (goodIn_ca (goodIn_r _ [367, 310, 368, 369, 370, 371, 2, 372, 315, 316, 373, 374, 20, 28, 276, 77, 78, 79, 80, 26, 277, 278, 279, 19, 280, 34, 40, 38, 39, 448, 449, 450, 451, 452, 453, 478, 479, 480, 481, 482, 483, 484, 485, 486, 487, 488] (by decide +kernel) (by decide +kernel)) (goodIn_sub (fun _ h => List.mem_append_left _ (List.mem_append_right _ h)) (by decide +kernel))) (goodIn_sub (fun _ h => List.mem_append_right _ h) (by decide +kernel))
set_option maxRecDepth 20000 in
theorem gL_law_L_keyAt : GoodIn wsL_law (va_wsS RL 85 yL_keyAt wsL_keyAt) := goodIn_app (goodIn_of _ (by decide +kernel)) ggL_law_L_keyAt
set_option maxRecDepth 20000 in
theorem ggL_law_X3_keyAt : GoodIn wsL_law wsX3_keyAt := goodIn_r _ [378, 162, 64, 61, 55, 165, 166, 167, 5, 168, 67, 63, 379, 380, 381, 382, 346, 347, 348, 349, 184, 185, 186, 187, 188, 62, 58, 59, 383, 384, 385, 386, 454, 455, 456, 457, 458, 459, 460, 461, 462, 463, 464, 465, 466, 467, 468, 469, 470, 471, 472, 473, 474, 475, 476, 477] (by decide +kernel) (by decide +kernel)
set_option maxRecDepth 20000 in
theorem gL_law_X3_keyAt : GoodIn wsL_law (wsV RL 87 RX3 yX3_keyAt wsX3_keyAt) := goodIn_app (goodIn_of _ (by decide +kernel)) ggL_law_X3_keyAt
set_option maxRecDepth 20000 in
theorem ggL_law_X2_sum : GoodIn wsL_law wsX2_sum := goodIn_r _ [390, 20, 28, 77, 78, 79, 2, 80, 26, 107, 108, 109, 19, 110, 34, 42, 111, 112, 113, 114, 43, 38, 39, 115, 116, 117, 118, 391, 392, 393, 394, 35, 36, 448, 449, 450, 451, 452, 453, 478, 479, 480, 481, 482, 483, 484, 485, 486, 487, 488] (by decide +kernel) (by decide +kernel)
set_option maxRecDepth 20000 in
theorem gL_law_X2_sum : GoodIn wsL_law (wsV RL 88 RX2 yX2_sum wsX2_sum) := goodIn_app (goodIn_of _ (by decide +kernel)) ggL_law_X2_sum
set_option maxRecDepth 20000 in
theorem ggL_law_X3_sum : GoodIn wsL_law wsX3_sum := goodIn_r _ [398, 162, 64, 61, 55, 56, 346, 347, 348, 5, 349, 165, 166, 167, 168, 67, 63, 184, 185, 186, 187, 188, 62, 58, 59, 454, 455, 456, 457, 458, 459, 460, 461, 462, 463, 464, 465, 466, 467, 468, 469, 470, 471, 472, 473, 474, 475, 476, 477] (by decide +kernel) (by decide +kernel)
set_option maxRecDepth 20000 in
theorem gL_law_X3_sum : GoodIn wsL_law (wsV RL 92 RX3 yX3_sum wsX3_sum) := goodIn_app (goodIn_of _ (by decide +kernel)) ggL_law_X3_sum
set_option maxRecDepth 20000 in
theorem ggL_law_L_depth : GoodIn wsL_law wsL_depth := goodIn_ca (goodIn_r _ [401, 310, 402, 403, 404, 2, 405, 315, 316, 24, 73, 318, 319, 320, 321, 28, 77, 78, 79, 80, 26, 81, 82, 83, 23, 84, 85, 50, 48, 86, 87, 88, 448, 449, 450, 451, 452, 453, 489, 490, 491, 478, 479, 480, 481, 482, 483, 484, 485, 486, 487, 488] (by decide +kernel) (by decide +kernel)) (goodIn_sub (fun _ h => List.mem_append_left _ (List.mem_append_right _ h)) (by decide +kernel))
set_option maxRecDepth 20000 in
theorem gL_law_L_depth : GoodIn wsL_law (va_wsS RL 93 yL_depth wsL_depth) := goodIn_app (goodIn_of _ (by decide +kernel)) ggL_law_L_depth
set_option maxRecDepth 20000 in
theorem ggL_law_X3_depth : GoodIn wsL_law wsX3_depth := goodIn_r _ [409, 64, 162, 163, 165, 166, 167, 5, 168, 67, 63, 189, 190, 191, 192, 55, 59, 58, 193, 194, 195, 196, 65, 454, 455, 456, 457, 458, 459, 460, 461, 462, 463, 464, 465, 466, 467, 468, 469, 470, 471, 472, 473, 474, 475, 476, 477] (by decide +kernel) (by decide +kernel)
set_option maxRecDepth 20000 in
theorem gL_law_X3_depth : GoodIn wsL_law (wsV RL 95 RX3 yX3_depth wsX3_depth) := goodIn_app (goodIn_of _ (by decide +kernel)) ggL_law_X3_depth
set_option maxRecDepth 20000 in
theorem ggL_law_X2_shared : GoodIn wsL_law wsX2_shared := goodIn_r _ [413, 20, 28, 275, 77, 78, 79, 2, 80, 26, 107, 108, 109, 19, 110, 34, 42, 111, 112, 113, 114, 43, 38, 39, 115, 116, 117, 118, 448, 449, 450, 451, 452, 453, 478, 479, 480, 481, 482, 483, 484, 485, 486, 487, 488] (by decide +kernel) (by decide +kernel)
set_option maxRecDepth 20000 in
theorem gL_law_X2_shared : GoodIn wsL_law (wsV RL 96 RX2 yX2_shared wsX2_shared) := goodIn_app (goodIn_of _ (by decide +kernel)) ggL_law_X2_shared
set_option maxRecDepth 20000 in
theorem ggL_law_X3_shared : GoodIn wsL_law wsX3_shared := goodIn_r _ [417, 162, 64, 61, 165, 166, 167, 5, 168, 67, 63, 346, 347, 348, 349, 184, 185, 186, 187, 188, 62, 58, 59, 418, 343, 344, 345, 419, 420, 421, 422, 454, 455, 456, 457, 458, 459, 460, 461, 462, 463, 464, 465, 466, 467, 468, 469, 470, 471, 472, 473, 474, 475, 476, 477] (by decide +kernel) (by decide +kernel)
set_option maxRecDepth 20000 in
theorem gL_law_X3_shared : GoodIn wsL_law (wsV RL 99 RX3 yX3_shared wsX3_shared) := goodIn_app (goodIn_of _ (by decide +kernel)) ggL_law_X3_shared
set_option maxRecDepth 20000 in
theorem ggL_law_X2_nodes : GoodIn wsL_law wsX2_nodes := goodIn_r _ [426, 103, 104, 105, 2, 106, 20, 26, 28, 107, 108, 109, 19, 110, 34, 42, 111, 112, 113, 114, 43, 38, 39, 115, 116, 117, 118, 448, 449, 450, 451, 452, 453, 478, 479, 480, 481, 482, 483, 484, 485, 486, 487, 488] (by decide +kernel) (by decide +kernel)
set_option maxRecDepth 20000 in
theorem gL_law_X2_nodes : GoodIn wsL_law (wsV RL 100 RX2 yX2_nodes wsX2_nodes) := goodIn_app (goodIn_of _ (by decide +kernel)) ggL_law_X2_nodes
set_option maxRecDepth 20000 in
theorem ggL_law_X3_nodes : GoodIn wsL_law wsX3_nodes := goodIn_r _ [430, 162, 180, 181, 182, 5, 183, 60, 67, 63, 64, 184, 185, 186, 187, 188, 62, 58, 59, 454, 455, 456, 457, 458, 459, 460, 461, 462, 463, 464, 465, 466, 467, 468, 469, 470, 471, 472, 473, 474, 475, 476, 477] (by decide +kernel) (by decide +kernel)
set_option maxRecDepth 20000 in
theorem gL_law_X3_nodes : GoodIn wsL_law (wsV RL 103 RX3 yX3_nodes wsX3_nodes) := goodIn_app (goodIn_of _ (by decide +kernel)) ggL_law_X3_nodes
set_option maxRecDepth 20000 in
theorem ggL_law_X2_used : GoodIn wsL_law wsX2_used := goodIn_r _ [434, 20, 435, 448, 449, 450, 451, 452, 453, 478, 479, 480, 481, 482, 483, 484, 485, 486, 487, 488] (by decide +kernel) (by decide +kernel)
set_option maxRecDepth 20000 in
theorem gL_law_X2_used : GoodIn wsL_law (wsV RL 104 RX2 yX2_used wsX2_used) := goodIn_app (goodIn_of _ (by decide +kernel)) ggL_law_X2_used
set_option maxRecDepth 20000 in
theorem ggL_law_X3_used : GoodIn wsL_law wsX3_used := goodIn_r _ [439, 162, 201, 454, 455, 456, 457, 458, 459, 460, 461, 462, 463, 464, 465, 466, 467, 468, 469, 470, 471, 472, 473, 474, 475, 476, 477] (by decide +kernel) (by decide +kernel)
set_option maxRecDepth 20000 in
theorem gL_law_X3_used : GoodIn wsL_law (wsV RL 107 RX3 yX3_used wsX3_used) := goodIn_app (goodIn_of _ (by decide +kernel)) ggL_law_X3_used
set_option maxRecDepth 20000 in
theorem ggL_law_X2_sweeps : GoodIn wsL_law wsX2_sweeps := goodIn_r _ [443, 97, 448, 449, 450, 451, 452, 453] (by decide +kernel) (by decide +kernel)
set_option maxRecDepth 20000 in
theorem gL_law_X2_sweeps : GoodIn wsL_law (wsV RL 108 RX2 yX2_sweeps wsX2_sweeps) := goodIn_app (goodIn_of _ (by decide +kernel)) ggL_law_X2_sweeps
set_option maxRecDepth 20000 in
theorem ggL_law_X3_sweeps : GoodIn wsL_law wsX3_sweeps := goodIn_r _ [447, 162, 202, 454, 455, 456, 457, 458, 459, 460, 461, 462, 463, 464, 465, 466, 467, 468, 469, 470, 471, 472, 473, 474, 475, 476, 477] (by decide +kernel) (by decide +kernel)
set_option maxRecDepth 20000 in
theorem gL_law_X3_sweeps : GoodIn wsL_law (wsV RL 111 RX3 yX3_sweeps wsX3_sweeps) := goodIn_app (goodIn_of _ (by decide +kernel)) ggL_law_X3_sweeps
theorem dL_law_0 : decode cL_law 0 = .ok (.new 8, 3) := by decide +kernel
theorem dL_law_3 : decode cL_law 3 = .ok (.dup, 1) := by decide +kernel
theorem dL_law_4 : decode cL_law 4 = .ok (.aload_n 0, 1) := by decide +kernel
theorem dL_law_5 : decode cL_law 5 = .ok (.iconst 0, 1) := by decide +kernel
theorem dL_law_6 : decode cL_law 6 = .ok (.invokestatic 26, 3) := by decide +kernel
theorem dL_law_9 : decode cL_law 9 = .ok (.aload_n 0, 1) := by decide +kernel
theorem dL_law_10 : decode cL_law 10 = .ok (.iconst 1, 1) := by decide +kernel
theorem dL_law_11 : decode cL_law 11 = .ok (.invokestatic 26, 3) := by decide +kernel
theorem dL_law_14 : decode cL_law 14 = .ok (.aload_n 0, 1) := by decide +kernel
theorem dL_law_15 : decode cL_law 15 = .ok (.iconst 2, 1) := by decide +kernel
theorem dL_law_16 : decode cL_law 16 = .ok (.invokestatic 26, 3) := by decide +kernel
theorem dL_law_19 : decode cL_law 19 = .ok (.invokespecial 32, 3) := by decide +kernel
theorem dL_law_22 : decode cL_law 22 = .ok (.astore_n 1, 1) := by decide +kernel
theorem dL_law_23 : decode cL_law 23 = .ok (.new 35, 3) := by decide +kernel
theorem dL_law_26 : decode cL_law 26 = .ok (.dup, 1) := by decide +kernel
theorem dL_law_27 : decode cL_law 27 = .ok (.aload_n 0, 1) := by decide +kernel
theorem dL_law_28 : decode cL_law 28 = .ok (.iconst 0, 1) := by decide +kernel
theorem dL_law_29 : decode cL_law 29 = .ok (.invokestatic 26, 3) := by decide +kernel
theorem dL_law_32 : decode cL_law 32 = .ok (.aload_n 0, 1) := by decide +kernel
theorem dL_law_33 : decode cL_law 33 = .ok (.iconst 1, 1) := by decide +kernel
theorem dL_law_34 : decode cL_law 34 = .ok (.invokestatic 26, 3) := by decide +kernel
theorem dL_law_37 : decode cL_law 37 = .ok (.aload_n 0, 1) := by decide +kernel
theorem dL_law_38 : decode cL_law 38 = .ok (.iconst 2, 1) := by decide +kernel
theorem dL_law_39 : decode cL_law 39 = .ok (.invokestatic 26, 3) := by decide +kernel
theorem dL_law_42 : decode cL_law 42 = .ok (.invokespecial 37, 3) := by decide +kernel
theorem dL_law_45 : decode cL_law 45 = .ok (.astore_n 2, 1) := by decide +kernel
theorem dL_law_46 : decode cL_law 46 = .ok (.iconst 1, 1) := by decide +kernel
theorem dL_law_47 : decode cL_law 47 = .ok (.newarray .long, 2) := by decide +kernel
theorem dL_law_49 : decode cL_law 49 = .ok (.astore_n 3, 1) := by decide +kernel
theorem dL_law_50 : decode cL_law 50 = .ok (.iconst 3, 1) := by decide +kernel
theorem dL_law_51 : decode cL_law 51 = .ok (.istore 4, 2) := by decide +kernel
theorem dL_law_53 : decode cL_law 53 = .ok (.iload 4, 2) := by decide +kernel
theorem dL_law_55 : decode cL_law 55 = .ok (.aload_n 0, 1) := by decide +kernel
theorem dL_law_56 : decode cL_law 56 = .ok (.arraylength, 1) := by decide +kernel
theorem dL_law_57 : decode cL_law 57 = .ok (.iconst 4, 1) := by decide +kernel
theorem dL_law_58 : decode cL_law 58 = .ok (.isub, 1) := by decide +kernel
theorem dL_law_59 : decode cL_law 59 = .ok (.if_icmp .gt 769, 3) := by decide +kernel
theorem dL_law_62 : decode cL_law 62 = .ok (.aload_n 0, 1) := by decide +kernel
theorem dL_law_63 : decode cL_law 63 = .ok (.iload 4, 2) := by decide +kernel
theorem dL_law_65 : decode cL_law 65 = .ok (.iaload, 1) := by decide +kernel
theorem dL_law_66 : decode cL_law 66 = .ok (.bipush 31, 2) := by decide +kernel
theorem dL_law_68 : decode cL_law 68 = .ok (.iand, 1) := by decide +kernel
theorem dL_law_69 : decode cL_law 69 = .ok (.tableswitch 753 0 16 #[83, 132, 169, 206, 243, 268, 293, 361, 398, 423, 491, 559, 609, 677, 714, 727, 740], 83) := by decide +kernel
theorem dL_law_152 : decode cL_law 152 = .ok (.aload_n 1, 1) := by decide +kernel
theorem dL_law_153 : decode cL_law 153 = .ok (.aload_n 0, 1) := by decide +kernel
theorem dL_law_154 : decode cL_law 154 = .ok (.iload 4, 2) := by decide +kernel
theorem dL_law_156 : decode cL_law 156 = .ok (.iconst 1, 1) := by decide +kernel
theorem dL_law_157 : decode cL_law 157 = .ok (.iadd, 1) := by decide +kernel
theorem dL_law_158 : decode cL_law 158 = .ok (.iaload, 1) := by decide +kernel
theorem dL_law_159 : decode cL_law 159 = .ok (.aload_n 0, 1) := by decide +kernel
theorem dL_law_160 : decode cL_law 160 = .ok (.iload 4, 2) := by decide +kernel
theorem dL_law_162 : decode cL_law 162 = .ok (.iconst 2, 1) := by decide +kernel
theorem dL_law_163 : decode cL_law 163 = .ok (.iadd, 1) := by decide +kernel
theorem dL_law_164 : decode cL_law 164 = .ok (.iaload, 1) := by decide +kernel
theorem dL_law_165 : decode cL_law 165 = .ok (.aload_n 0, 1) := by decide +kernel
theorem dL_law_166 : decode cL_law 166 = .ok (.iload 4, 2) := by decide +kernel
theorem dL_law_168 : decode cL_law 168 = .ok (.iconst 3, 1) := by decide +kernel
theorem dL_law_169 : decode cL_law 169 = .ok (.iadd, 1) := by decide +kernel
theorem dL_law_170 : decode cL_law 170 = .ok (.iaload, 1) := by decide +kernel
theorem dL_law_171 : decode cL_law 171 = .ok (.invokevirtual 38, 3) := by decide +kernel
theorem dL_law_174 : decode cL_law 174 = .ok (.aload_n 2, 1) := by decide +kernel
theorem dL_law_175 : decode cL_law 175 = .ok (.aload_n 0, 1) := by decide +kernel
theorem dL_law_176 : decode cL_law 176 = .ok (.iload 4, 2) := by decide +kernel
theorem dL_law_178 : decode cL_law 178 = .ok (.iconst 1, 1) := by decide +kernel
theorem dL_law_179 : decode cL_law 179 = .ok (.iadd, 1) := by decide +kernel
theorem dL_law_180 : decode cL_law 180 = .ok (.iaload, 1) := by decide +kernel
theorem dL_law_181 : decode cL_law 181 = .ok (.aload_n 0, 1) := by decide +kernel
theorem dL_law_182 : decode cL_law 182 = .ok (.iload 4, 2) := by decide +kernel
theorem dL_law_184 : decode cL_law 184 = .ok (.iconst 2, 1) := by decide +kernel
theorem dL_law_185 : decode cL_law 185 = .ok (.iadd, 1) := by decide +kernel
theorem dL_law_186 : decode cL_law 186 = .ok (.iaload, 1) := by decide +kernel
theorem dL_law_187 : decode cL_law 187 = .ok (.aload_n 0, 1) := by decide +kernel
theorem dL_law_188 : decode cL_law 188 = .ok (.iload 4, 2) := by decide +kernel
theorem dL_law_190 : decode cL_law 190 = .ok (.iconst 3, 1) := by decide +kernel
theorem dL_law_191 : decode cL_law 191 = .ok (.iadd, 1) := by decide +kernel
theorem dL_law_192 : decode cL_law 192 = .ok (.iaload, 1) := by decide +kernel
theorem dL_law_193 : decode cL_law 193 = .ok (.invokevirtual 42, 3) := by decide +kernel
theorem dL_law_196 : decode cL_law 196 = .ok (.if_icmp .eq 626, 3) := by decide +kernel
theorem dL_law_199 : decode cL_law 199 = .ok (.iconst 0, 1) := by decide +kernel
theorem dL_law_200 : decode cL_law 200 = .ok (.ireturn, 1) := by decide +kernel
theorem dL_law_201 : decode cL_law 201 = .ok (.aload_n 1, 1) := by decide +kernel
theorem dL_law_202 : decode cL_law 202 = .ok (.aload_n 0, 1) := by decide +kernel
theorem dL_law_203 : decode cL_law 203 = .ok (.iload 4, 2) := by decide +kernel
theorem dL_law_205 : decode cL_law 205 = .ok (.iconst 1, 1) := by decide +kernel
theorem dL_law_206 : decode cL_law 206 = .ok (.iadd, 1) := by decide +kernel
theorem dL_law_207 : decode cL_law 207 = .ok (.iaload, 1) := by decide +kernel
theorem dL_law_208 : decode cL_law 208 = .ok (.aload_n 0, 1) := by decide +kernel
theorem dL_law_209 : decode cL_law 209 = .ok (.iload 4, 2) := by decide +kernel
theorem dL_law_211 : decode cL_law 211 = .ok (.iconst 2, 1) := by decide +kernel
theorem dL_law_212 : decode cL_law 212 = .ok (.iadd, 1) := by decide +kernel
theorem dL_law_213 : decode cL_law 213 = .ok (.iaload, 1) := by decide +kernel
theorem dL_law_214 : decode cL_law 214 = .ok (.invokevirtual 43, 3) := by decide +kernel
theorem dL_law_217 : decode cL_law 217 = .ok (.aload_n 2, 1) := by decide +kernel
theorem dL_law_218 : decode cL_law 218 = .ok (.aload_n 0, 1) := by decide +kernel
theorem dL_law_219 : decode cL_law 219 = .ok (.iload 4, 2) := by decide +kernel
theorem dL_law_221 : decode cL_law 221 = .ok (.iconst 1, 1) := by decide +kernel
theorem dL_law_222 : decode cL_law 222 = .ok (.iadd, 1) := by decide +kernel
theorem dL_law_223 : decode cL_law 223 = .ok (.iaload, 1) := by decide +kernel
theorem dL_law_224 : decode cL_law 224 = .ok (.aload_n 0, 1) := by decide +kernel
theorem dL_law_225 : decode cL_law 225 = .ok (.iload 4, 2) := by decide +kernel
theorem dL_law_227 : decode cL_law 227 = .ok (.iconst 2, 1) := by decide +kernel
theorem dL_law_228 : decode cL_law 228 = .ok (.iadd, 1) := by decide +kernel
theorem dL_law_229 : decode cL_law 229 = .ok (.iaload, 1) := by decide +kernel
theorem dL_law_230 : decode cL_law 230 = .ok (.invokevirtual 46, 3) := by decide +kernel
theorem dL_law_233 : decode cL_law 233 = .ok (.if_icmp .eq 589, 3) := by decide +kernel
theorem dL_law_236 : decode cL_law 236 = .ok (.iconst 0, 1) := by decide +kernel
theorem dL_law_237 : decode cL_law 237 = .ok (.ireturn, 1) := by decide +kernel
theorem dL_law_238 : decode cL_law 238 = .ok (.aload_n 1, 1) := by decide +kernel
theorem dL_law_239 : decode cL_law 239 = .ok (.aload_n 0, 1) := by decide +kernel
theorem dL_law_240 : decode cL_law 240 = .ok (.iload 4, 2) := by decide +kernel
theorem dL_law_242 : decode cL_law 242 = .ok (.iconst 1, 1) := by decide +kernel
theorem dL_law_243 : decode cL_law 243 = .ok (.iadd, 1) := by decide +kernel
theorem dL_law_244 : decode cL_law 244 = .ok (.iaload, 1) := by decide +kernel
theorem dL_law_245 : decode cL_law 245 = .ok (.aload_n 0, 1) := by decide +kernel
theorem dL_law_246 : decode cL_law 246 = .ok (.iload 4, 2) := by decide +kernel
theorem dL_law_248 : decode cL_law 248 = .ok (.iconst 2, 1) := by decide +kernel
theorem dL_law_249 : decode cL_law 249 = .ok (.iadd, 1) := by decide +kernel
theorem dL_law_250 : decode cL_law 250 = .ok (.iaload, 1) := by decide +kernel
theorem dL_law_251 : decode cL_law 251 = .ok (.invokevirtual 47, 3) := by decide +kernel
theorem dL_law_254 : decode cL_law 254 = .ok (.aload_n 2, 1) := by decide +kernel
theorem dL_law_255 : decode cL_law 255 = .ok (.aload_n 0, 1) := by decide +kernel
theorem dL_law_256 : decode cL_law 256 = .ok (.iload 4, 2) := by decide +kernel
theorem dL_law_258 : decode cL_law 258 = .ok (.iconst 1, 1) := by decide +kernel
theorem dL_law_259 : decode cL_law 259 = .ok (.iadd, 1) := by decide +kernel
theorem dL_law_260 : decode cL_law 260 = .ok (.iaload, 1) := by decide +kernel
theorem dL_law_261 : decode cL_law 261 = .ok (.aload_n 0, 1) := by decide +kernel
theorem dL_law_262 : decode cL_law 262 = .ok (.iload 4, 2) := by decide +kernel
theorem dL_law_264 : decode cL_law 264 = .ok (.iconst 2, 1) := by decide +kernel
theorem dL_law_265 : decode cL_law 265 = .ok (.iadd, 1) := by decide +kernel
theorem dL_law_266 : decode cL_law 266 = .ok (.iaload, 1) := by decide +kernel
theorem dL_law_267 : decode cL_law 267 = .ok (.invokevirtual 50, 3) := by decide +kernel
theorem dL_law_270 : decode cL_law 270 = .ok (.if_icmp .eq 552, 3) := by decide +kernel
theorem dL_law_273 : decode cL_law 273 = .ok (.iconst 0, 1) := by decide +kernel
theorem dL_law_274 : decode cL_law 274 = .ok (.ireturn, 1) := by decide +kernel
theorem dL_law_275 : decode cL_law 275 = .ok (.aload_n 1, 1) := by decide +kernel
theorem dL_law_276 : decode cL_law 276 = .ok (.aload_n 0, 1) := by decide +kernel
theorem dL_law_277 : decode cL_law 277 = .ok (.iload 4, 2) := by decide +kernel
theorem dL_law_279 : decode cL_law 279 = .ok (.iconst 1, 1) := by decide +kernel
theorem dL_law_280 : decode cL_law 280 = .ok (.iadd, 1) := by decide +kernel
theorem dL_law_281 : decode cL_law 281 = .ok (.iaload, 1) := by decide +kernel
theorem dL_law_282 : decode cL_law 282 = .ok (.aload_n 0, 1) := by decide +kernel
theorem dL_law_283 : decode cL_law 283 = .ok (.iload 4, 2) := by decide +kernel
theorem dL_law_285 : decode cL_law 285 = .ok (.iconst 2, 1) := by decide +kernel
theorem dL_law_286 : decode cL_law 286 = .ok (.iadd, 1) := by decide +kernel
theorem dL_law_287 : decode cL_law 287 = .ok (.iaload, 1) := by decide +kernel
theorem dL_law_288 : decode cL_law 288 = .ok (.invokevirtual 51, 3) := by decide +kernel
theorem dL_law_291 : decode cL_law 291 = .ok (.aload_n 2, 1) := by decide +kernel
theorem dL_law_292 : decode cL_law 292 = .ok (.aload_n 0, 1) := by decide +kernel
theorem dL_law_293 : decode cL_law 293 = .ok (.iload 4, 2) := by decide +kernel
theorem dL_law_295 : decode cL_law 295 = .ok (.iconst 1, 1) := by decide +kernel
theorem dL_law_296 : decode cL_law 296 = .ok (.iadd, 1) := by decide +kernel
theorem dL_law_297 : decode cL_law 297 = .ok (.iaload, 1) := by decide +kernel
theorem dL_law_298 : decode cL_law 298 = .ok (.aload_n 0, 1) := by decide +kernel
theorem dL_law_299 : decode cL_law 299 = .ok (.iload 4, 2) := by decide +kernel
theorem dL_law_301 : decode cL_law 301 = .ok (.iconst 2, 1) := by decide +kernel
theorem dL_law_302 : decode cL_law 302 = .ok (.iadd, 1) := by decide +kernel
theorem dL_law_303 : decode cL_law 303 = .ok (.iaload, 1) := by decide +kernel
theorem dL_law_304 : decode cL_law 304 = .ok (.invokevirtual 54, 3) := by decide +kernel
theorem dL_law_307 : decode cL_law 307 = .ok (.if_icmp .eq 515, 3) := by decide +kernel
theorem dL_law_310 : decode cL_law 310 = .ok (.iconst 0, 1) := by decide +kernel
theorem dL_law_311 : decode cL_law 311 = .ok (.ireturn, 1) := by decide +kernel
theorem dL_law_312 : decode cL_law 312 = .ok (.aload_n 1, 1) := by decide +kernel
theorem dL_law_313 : decode cL_law 313 = .ok (.aload_n 0, 1) := by decide +kernel
theorem dL_law_314 : decode cL_law 314 = .ok (.iload 4, 2) := by decide +kernel
theorem dL_law_316 : decode cL_law 316 = .ok (.iconst 1, 1) := by decide +kernel
theorem dL_law_317 : decode cL_law 317 = .ok (.iadd, 1) := by decide +kernel
theorem dL_law_318 : decode cL_law 318 = .ok (.iaload, 1) := by decide +kernel
theorem dL_law_319 : decode cL_law 319 = .ok (.invokevirtual 55, 3) := by decide +kernel
theorem dL_law_322 : decode cL_law 322 = .ok (.aload_n 2, 1) := by decide +kernel
theorem dL_law_323 : decode cL_law 323 = .ok (.aload_n 0, 1) := by decide +kernel
theorem dL_law_324 : decode cL_law 324 = .ok (.iload 4, 2) := by decide +kernel
theorem dL_law_326 : decode cL_law 326 = .ok (.iconst 1, 1) := by decide +kernel
theorem dL_law_327 : decode cL_law 327 = .ok (.iadd, 1) := by decide +kernel
theorem dL_law_328 : decode cL_law 328 = .ok (.iaload, 1) := by decide +kernel
theorem dL_law_329 : decode cL_law 329 = .ok (.invokevirtual 59, 3) := by decide +kernel
theorem dL_law_332 : decode cL_law 332 = .ok (.if_icmp .eq 490, 3) := by decide +kernel
theorem dL_law_335 : decode cL_law 335 = .ok (.iconst 0, 1) := by decide +kernel
theorem dL_law_336 : decode cL_law 336 = .ok (.ireturn, 1) := by decide +kernel
theorem dL_law_337 : decode cL_law 337 = .ok (.aload_n 1, 1) := by decide +kernel
theorem dL_law_338 : decode cL_law 338 = .ok (.aload_n 0, 1) := by decide +kernel
theorem dL_law_339 : decode cL_law 339 = .ok (.iload 4, 2) := by decide +kernel
theorem dL_law_341 : decode cL_law 341 = .ok (.iconst 1, 1) := by decide +kernel
theorem dL_law_342 : decode cL_law 342 = .ok (.iadd, 1) := by decide +kernel
theorem dL_law_343 : decode cL_law 343 = .ok (.iaload, 1) := by decide +kernel
theorem dL_law_344 : decode cL_law 344 = .ok (.invokevirtual 60, 3) := by decide +kernel
theorem dL_law_347 : decode cL_law 347 = .ok (.aload_n 2, 1) := by decide +kernel
theorem dL_law_348 : decode cL_law 348 = .ok (.aload_n 0, 1) := by decide +kernel
theorem dL_law_349 : decode cL_law 349 = .ok (.iload 4, 2) := by decide +kernel
theorem dL_law_351 : decode cL_law 351 = .ok (.iconst 1, 1) := by decide +kernel
theorem dL_law_352 : decode cL_law 352 = .ok (.iadd, 1) := by decide +kernel
theorem dL_law_353 : decode cL_law 353 = .ok (.iaload, 1) := by decide +kernel
theorem dL_law_354 : decode cL_law 354 = .ok (.invokevirtual 63, 3) := by decide +kernel
theorem dL_law_357 : decode cL_law 357 = .ok (.if_icmp .eq 465, 3) := by decide +kernel
theorem dL_law_360 : decode cL_law 360 = .ok (.iconst 0, 1) := by decide +kernel
theorem dL_law_361 : decode cL_law 361 = .ok (.ireturn, 1) := by decide +kernel
theorem dL_law_362 : decode cL_law 362 = .ok (.aload_n 1, 1) := by decide +kernel
theorem dL_law_363 : decode cL_law 363 = .ok (.aload_n 0, 1) := by decide +kernel
theorem dL_law_364 : decode cL_law 364 = .ok (.iload 4, 2) := by decide +kernel
theorem dL_law_366 : decode cL_law 366 = .ok (.iconst 1, 1) := by decide +kernel
theorem dL_law_367 : decode cL_law 367 = .ok (.iadd, 1) := by decide +kernel
theorem dL_law_368 : decode cL_law 368 = .ok (.iaload, 1) := by decide +kernel
theorem dL_law_369 : decode cL_law 369 = .ok (.aload_n 0, 1) := by decide +kernel
theorem dL_law_370 : decode cL_law 370 = .ok (.iload 4, 2) := by decide +kernel
theorem dL_law_372 : decode cL_law 372 = .ok (.iconst 2, 1) := by decide +kernel
theorem dL_law_373 : decode cL_law 373 = .ok (.iadd, 1) := by decide +kernel
theorem dL_law_374 : decode cL_law 374 = .ok (.iaload, 1) := by decide +kernel
theorem dL_law_375 : decode cL_law 375 = .ok (.aload_n 3, 1) := by decide +kernel
theorem dL_law_376 : decode cL_law 376 = .ok (.invokestatic 64, 3) := by decide +kernel
theorem dL_law_379 : decode cL_law 379 = .ok (.istore 5, 2) := by decide +kernel
theorem dL_law_381 : decode cL_law 381 = .ok (.aload_n 2, 1) := by decide +kernel
theorem dL_law_382 : decode cL_law 382 = .ok (.aload_n 0, 1) := by decide +kernel
theorem dL_law_383 : decode cL_law 383 = .ok (.iload 4, 2) := by decide +kernel
theorem dL_law_385 : decode cL_law 385 = .ok (.iconst 1, 1) := by decide +kernel
theorem dL_law_386 : decode cL_law 386 = .ok (.iadd, 1) := by decide +kernel
theorem dL_law_387 : decode cL_law 387 = .ok (.iaload, 1) := by decide +kernel
theorem dL_law_388 : decode cL_law 388 = .ok (.aload_n 0, 1) := by decide +kernel
theorem dL_law_389 : decode cL_law 389 = .ok (.iload 4, 2) := by decide +kernel
theorem dL_law_391 : decode cL_law 391 = .ok (.iconst 2, 1) := by decide +kernel
theorem dL_law_392 : decode cL_law 392 = .ok (.iadd, 1) := by decide +kernel
theorem dL_law_393 : decode cL_law 393 = .ok (.iaload, 1) := by decide +kernel
theorem dL_law_394 : decode cL_law 394 = .ok (.invokevirtual 67, 3) := by decide +kernel
theorem dL_law_397 : decode cL_law 397 = .ok (.istore 6, 2) := by decide +kernel
theorem dL_law_399 : decode cL_law 399 = .ok (.aload_n 2, 1) := by decide +kernel
theorem dL_law_400 : decode cL_law 400 = .ok (.invokevirtual 68, 3) := by decide +kernel
theorem dL_law_403 : decode cL_law 403 = .ok (.iload 5, 2) := by decide +kernel
theorem dL_law_405 : decode cL_law 405 = .ok (.if_icmp .eq 5, 3) := by decide +kernel
theorem dL_law_408 : decode cL_law 408 = .ok (.iconst 0, 1) := by decide +kernel
theorem dL_law_409 : decode cL_law 409 = .ok (.ireturn, 1) := by decide +kernel
theorem dL_law_410 : decode cL_law 410 = .ok (.iload 5, 2) := by decide +kernel
theorem dL_law_412 : decode cL_law 412 = .ok (.ifCond .ne 15, 3) := by decide +kernel
theorem dL_law_415 : decode cL_law 415 = .ok (.aload_n 3, 1) := by decide +kernel
theorem dL_law_416 : decode cL_law 416 = .ok (.iconst 0, 1) := by decide +kernel
theorem dL_law_417 : decode cL_law 417 = .ok (.laload, 1) := by decide +kernel
theorem dL_law_418 : decode cL_law 418 = .ok (.iload 6, 2) := by decide +kernel
theorem dL_law_420 : decode cL_law 420 = .ok (.i2l, 1) := by decide +kernel
theorem dL_law_421 : decode cL_law 421 = .ok (.lcmp, 1) := by decide +kernel
theorem dL_law_422 : decode cL_law 422 = .ok (.ifCond .eq 5, 3) := by decide +kernel
theorem dL_law_425 : decode cL_law 425 = .ok (.iconst 0, 1) := by decide +kernel
theorem dL_law_426 : decode cL_law 426 = .ok (.ireturn, 1) := by decide +kernel
theorem dL_law_427 : decode cL_law 427 = .ok (.goto 395, 3) := by decide +kernel
theorem dL_law_430 : decode cL_law 430 = .ok (.aload_n 1, 1) := by decide +kernel
theorem dL_law_431 : decode cL_law 431 = .ok (.aload_n 0, 1) := by decide +kernel
theorem dL_law_432 : decode cL_law 432 = .ok (.iload 4, 2) := by decide +kernel
theorem dL_law_434 : decode cL_law 434 = .ok (.iconst 1, 1) := by decide +kernel
theorem dL_law_435 : decode cL_law 435 = .ok (.iadd, 1) := by decide +kernel
theorem dL_law_436 : decode cL_law 436 = .ok (.iaload, 1) := by decide +kernel
theorem dL_law_437 : decode cL_law 437 = .ok (.aload_n 0, 1) := by decide +kernel
theorem dL_law_438 : decode cL_law 438 = .ok (.iload 4, 2) := by decide +kernel
theorem dL_law_440 : decode cL_law 440 = .ok (.iconst 2, 1) := by decide +kernel
theorem dL_law_441 : decode cL_law 441 = .ok (.iadd, 1) := by decide +kernel
theorem dL_law_442 : decode cL_law 442 = .ok (.iaload, 1) := by decide +kernel
theorem dL_law_443 : decode cL_law 443 = .ok (.invokevirtual 72, 3) := by decide +kernel
theorem dL_law_446 : decode cL_law 446 = .ok (.aload_n 2, 1) := by decide +kernel
theorem dL_law_447 : decode cL_law 447 = .ok (.aload_n 0, 1) := by decide +kernel
theorem dL_law_448 : decode cL_law 448 = .ok (.iload 4, 2) := by decide +kernel
theorem dL_law_450 : decode cL_law 450 = .ok (.iconst 1, 1) := by decide +kernel
theorem dL_law_451 : decode cL_law 451 = .ok (.iadd, 1) := by decide +kernel
theorem dL_law_452 : decode cL_law 452 = .ok (.iaload, 1) := by decide +kernel
theorem dL_law_453 : decode cL_law 453 = .ok (.aload_n 0, 1) := by decide +kernel
theorem dL_law_454 : decode cL_law 454 = .ok (.iload 4, 2) := by decide +kernel
theorem dL_law_456 : decode cL_law 456 = .ok (.iconst 2, 1) := by decide +kernel
theorem dL_law_457 : decode cL_law 457 = .ok (.iadd, 1) := by decide +kernel
theorem dL_law_458 : decode cL_law 458 = .ok (.iaload, 1) := by decide +kernel
theorem dL_law_459 : decode cL_law 459 = .ok (.invokevirtual 76, 3) := by decide +kernel
theorem dL_law_462 : decode cL_law 462 = .ok (.if_icmp .eq 360, 3) := by decide +kernel
theorem dL_law_465 : decode cL_law 465 = .ok (.iconst 0, 1) := by decide +kernel
theorem dL_law_466 : decode cL_law 466 = .ok (.ireturn, 1) := by decide +kernel
theorem dL_law_467 : decode cL_law 467 = .ok (.aload_n 1, 1) := by decide +kernel
theorem dL_law_468 : decode cL_law 468 = .ok (.aload_n 0, 1) := by decide +kernel
theorem dL_law_469 : decode cL_law 469 = .ok (.iload 4, 2) := by decide +kernel
theorem dL_law_471 : decode cL_law 471 = .ok (.iconst 1, 1) := by decide +kernel
theorem dL_law_472 : decode cL_law 472 = .ok (.iadd, 1) := by decide +kernel
theorem dL_law_473 : decode cL_law 473 = .ok (.iaload, 1) := by decide +kernel
theorem dL_law_474 : decode cL_law 474 = .ok (.invokevirtual 77, 3) := by decide +kernel
theorem dL_law_477 : decode cL_law 477 = .ok (.aload_n 2, 1) := by decide +kernel
theorem dL_law_478 : decode cL_law 478 = .ok (.aload_n 0, 1) := by decide +kernel
theorem dL_law_479 : decode cL_law 479 = .ok (.iload 4, 2) := by decide +kernel
theorem dL_law_481 : decode cL_law 481 = .ok (.iconst 1, 1) := by decide +kernel
theorem dL_law_482 : decode cL_law 482 = .ok (.iadd, 1) := by decide +kernel
theorem dL_law_483 : decode cL_law 483 = .ok (.iaload, 1) := by decide +kernel
theorem dL_law_484 : decode cL_law 484 = .ok (.invokevirtual 81, 3) := by decide +kernel
theorem dL_law_487 : decode cL_law 487 = .ok (.if_icmp .eq 335, 3) := by decide +kernel
theorem dL_law_490 : decode cL_law 490 = .ok (.iconst 0, 1) := by decide +kernel
theorem dL_law_491 : decode cL_law 491 = .ok (.ireturn, 1) := by decide +kernel
theorem dL_law_492 : decode cL_law 492 = .ok (.aload_n 1, 1) := by decide +kernel
theorem dL_law_493 : decode cL_law 493 = .ok (.aload_n 0, 1) := by decide +kernel
theorem dL_law_494 : decode cL_law 494 = .ok (.iload 4, 2) := by decide +kernel
theorem dL_law_496 : decode cL_law 496 = .ok (.iconst 1, 1) := by decide +kernel
theorem dL_law_497 : decode cL_law 497 = .ok (.iadd, 1) := by decide +kernel
theorem dL_law_498 : decode cL_law 498 = .ok (.iaload, 1) := by decide +kernel
theorem dL_law_499 : decode cL_law 499 = .ok (.aload_n 0, 1) := by decide +kernel
theorem dL_law_500 : decode cL_law 500 = .ok (.iload 4, 2) := by decide +kernel
theorem dL_law_502 : decode cL_law 502 = .ok (.iconst 2, 1) := by decide +kernel
theorem dL_law_503 : decode cL_law 503 = .ok (.iadd, 1) := by decide +kernel
theorem dL_law_504 : decode cL_law 504 = .ok (.iaload, 1) := by decide +kernel
theorem dL_law_505 : decode cL_law 505 = .ok (.aload_n 3, 1) := by decide +kernel
theorem dL_law_506 : decode cL_law 506 = .ok (.invokestatic 82, 3) := by decide +kernel
theorem dL_law_509 : decode cL_law 509 = .ok (.istore 5, 2) := by decide +kernel
theorem dL_law_511 : decode cL_law 511 = .ok (.aload_n 2, 1) := by decide +kernel
theorem dL_law_512 : decode cL_law 512 = .ok (.aload_n 0, 1) := by decide +kernel
theorem dL_law_513 : decode cL_law 513 = .ok (.iload 4, 2) := by decide +kernel
theorem dL_law_515 : decode cL_law 515 = .ok (.iconst 1, 1) := by decide +kernel
theorem dL_law_516 : decode cL_law 516 = .ok (.iadd, 1) := by decide +kernel
theorem dL_law_517 : decode cL_law 517 = .ok (.iaload, 1) := by decide +kernel
theorem dL_law_518 : decode cL_law 518 = .ok (.aload_n 0, 1) := by decide +kernel
theorem dL_law_519 : decode cL_law 519 = .ok (.iload 4, 2) := by decide +kernel
theorem dL_law_521 : decode cL_law 521 = .ok (.iconst 2, 1) := by decide +kernel
theorem dL_law_522 : decode cL_law 522 = .ok (.iadd, 1) := by decide +kernel
theorem dL_law_523 : decode cL_law 523 = .ok (.iaload, 1) := by decide +kernel
theorem dL_law_524 : decode cL_law 524 = .ok (.invokevirtual 84, 3) := by decide +kernel
theorem dL_law_527 : decode cL_law 527 = .ok (.istore 6, 2) := by decide +kernel
theorem dL_law_529 : decode cL_law 529 = .ok (.aload_n 2, 1) := by decide +kernel
theorem dL_law_530 : decode cL_law 530 = .ok (.invokevirtual 68, 3) := by decide +kernel
theorem dL_law_533 : decode cL_law 533 = .ok (.iload 5, 2) := by decide +kernel
theorem dL_law_535 : decode cL_law 535 = .ok (.if_icmp .eq 5, 3) := by decide +kernel
theorem dL_law_538 : decode cL_law 538 = .ok (.iconst 0, 1) := by decide +kernel
theorem dL_law_539 : decode cL_law 539 = .ok (.ireturn, 1) := by decide +kernel
theorem dL_law_540 : decode cL_law 540 = .ok (.iload 5, 2) := by decide +kernel
theorem dL_law_542 : decode cL_law 542 = .ok (.ifCond .ne 15, 3) := by decide +kernel
theorem dL_law_545 : decode cL_law 545 = .ok (.aload_n 3, 1) := by decide +kernel
theorem dL_law_546 : decode cL_law 546 = .ok (.iconst 0, 1) := by decide +kernel
theorem dL_law_547 : decode cL_law 547 = .ok (.laload, 1) := by decide +kernel
theorem dL_law_548 : decode cL_law 548 = .ok (.iload 6, 2) := by decide +kernel
theorem dL_law_550 : decode cL_law 550 = .ok (.i2l, 1) := by decide +kernel
theorem dL_law_551 : decode cL_law 551 = .ok (.lcmp, 1) := by decide +kernel
theorem dL_law_552 : decode cL_law 552 = .ok (.ifCond .eq 5, 3) := by decide +kernel
theorem dL_law_555 : decode cL_law 555 = .ok (.iconst 0, 1) := by decide +kernel
theorem dL_law_556 : decode cL_law 556 = .ok (.ireturn, 1) := by decide +kernel
theorem dL_law_557 : decode cL_law 557 = .ok (.goto 265, 3) := by decide +kernel
theorem dL_law_560 : decode cL_law 560 = .ok (.aload_n 1, 1) := by decide +kernel
theorem dL_law_561 : decode cL_law 561 = .ok (.aload_n 0, 1) := by decide +kernel
theorem dL_law_562 : decode cL_law 562 = .ok (.iload 4, 2) := by decide +kernel
theorem dL_law_564 : decode cL_law 564 = .ok (.iconst 1, 1) := by decide +kernel
theorem dL_law_565 : decode cL_law 565 = .ok (.iadd, 1) := by decide +kernel
theorem dL_law_566 : decode cL_law 566 = .ok (.iaload, 1) := by decide +kernel
theorem dL_law_567 : decode cL_law 567 = .ok (.aload_n 0, 1) := by decide +kernel
theorem dL_law_568 : decode cL_law 568 = .ok (.iload 4, 2) := by decide +kernel
theorem dL_law_570 : decode cL_law 570 = .ok (.iconst 2, 1) := by decide +kernel
theorem dL_law_571 : decode cL_law 571 = .ok (.iadd, 1) := by decide +kernel
theorem dL_law_572 : decode cL_law 572 = .ok (.iaload, 1) := by decide +kernel
theorem dL_law_573 : decode cL_law 573 = .ok (.aload_n 3, 1) := by decide +kernel
theorem dL_law_574 : decode cL_law 574 = .ok (.invokestatic 85, 3) := by decide +kernel
theorem dL_law_577 : decode cL_law 577 = .ok (.istore 5, 2) := by decide +kernel
theorem dL_law_579 : decode cL_law 579 = .ok (.aload_n 2, 1) := by decide +kernel
theorem dL_law_580 : decode cL_law 580 = .ok (.aload_n 0, 1) := by decide +kernel
theorem dL_law_581 : decode cL_law 581 = .ok (.iload 4, 2) := by decide +kernel
theorem dL_law_583 : decode cL_law 583 = .ok (.iconst 1, 1) := by decide +kernel
theorem dL_law_584 : decode cL_law 584 = .ok (.iadd, 1) := by decide +kernel
theorem dL_law_585 : decode cL_law 585 = .ok (.iaload, 1) := by decide +kernel
theorem dL_law_586 : decode cL_law 586 = .ok (.aload_n 0, 1) := by decide +kernel
theorem dL_law_587 : decode cL_law 587 = .ok (.iload 4, 2) := by decide +kernel
theorem dL_law_589 : decode cL_law 589 = .ok (.iconst 2, 1) := by decide +kernel
theorem dL_law_590 : decode cL_law 590 = .ok (.iadd, 1) := by decide +kernel
theorem dL_law_591 : decode cL_law 591 = .ok (.iaload, 1) := by decide +kernel
theorem dL_law_592 : decode cL_law 592 = .ok (.invokevirtual 87, 3) := by decide +kernel
theorem dL_law_595 : decode cL_law 595 = .ok (.istore 6, 2) := by decide +kernel
theorem dL_law_597 : decode cL_law 597 = .ok (.aload_n 2, 1) := by decide +kernel
theorem dL_law_598 : decode cL_law 598 = .ok (.invokevirtual 68, 3) := by decide +kernel
theorem dL_law_601 : decode cL_law 601 = .ok (.iload 5, 2) := by decide +kernel
theorem dL_law_603 : decode cL_law 603 = .ok (.if_icmp .eq 5, 3) := by decide +kernel
theorem dL_law_606 : decode cL_law 606 = .ok (.iconst 0, 1) := by decide +kernel
theorem dL_law_607 : decode cL_law 607 = .ok (.ireturn, 1) := by decide +kernel
theorem dL_law_608 : decode cL_law 608 = .ok (.iload 5, 2) := by decide +kernel
theorem dL_law_610 : decode cL_law 610 = .ok (.ifCond .ne 15, 3) := by decide +kernel
theorem dL_law_613 : decode cL_law 613 = .ok (.aload_n 3, 1) := by decide +kernel
theorem dL_law_614 : decode cL_law 614 = .ok (.iconst 0, 1) := by decide +kernel
theorem dL_law_615 : decode cL_law 615 = .ok (.laload, 1) := by decide +kernel
theorem dL_law_616 : decode cL_law 616 = .ok (.iload 6, 2) := by decide +kernel
theorem dL_law_618 : decode cL_law 618 = .ok (.i2l, 1) := by decide +kernel
theorem dL_law_619 : decode cL_law 619 = .ok (.lcmp, 1) := by decide +kernel
theorem dL_law_620 : decode cL_law 620 = .ok (.ifCond .eq 5, 3) := by decide +kernel
theorem dL_law_623 : decode cL_law 623 = .ok (.iconst 0, 1) := by decide +kernel
theorem dL_law_624 : decode cL_law 624 = .ok (.ireturn, 1) := by decide +kernel
theorem dL_law_625 : decode cL_law 625 = .ok (.goto 197, 3) := by decide +kernel
theorem dL_law_628 : decode cL_law 628 = .ok (.aload_n 1, 1) := by decide +kernel
theorem dL_law_629 : decode cL_law 629 = .ok (.aload_n 0, 1) := by decide +kernel
theorem dL_law_630 : decode cL_law 630 = .ok (.iload 4, 2) := by decide +kernel
theorem dL_law_632 : decode cL_law 632 = .ok (.iconst 1, 1) := by decide +kernel
theorem dL_law_633 : decode cL_law 633 = .ok (.iadd, 1) := by decide +kernel
theorem dL_law_634 : decode cL_law 634 = .ok (.iaload, 1) := by decide +kernel
theorem dL_law_635 : decode cL_law 635 = .ok (.aload_n 0, 1) := by decide +kernel
theorem dL_law_636 : decode cL_law 636 = .ok (.iload 4, 2) := by decide +kernel
theorem dL_law_638 : decode cL_law 638 = .ok (.iconst 2, 1) := by decide +kernel
theorem dL_law_639 : decode cL_law 639 = .ok (.iadd, 1) := by decide +kernel
theorem dL_law_640 : decode cL_law 640 = .ok (.iaload, 1) := by decide +kernel
theorem dL_law_641 : decode cL_law 641 = .ok (.aload_n 0, 1) := by decide +kernel
theorem dL_law_642 : decode cL_law 642 = .ok (.iload 4, 2) := by decide +kernel
theorem dL_law_644 : decode cL_law 644 = .ok (.iconst 3, 1) := by decide +kernel
theorem dL_law_645 : decode cL_law 645 = .ok (.iadd, 1) := by decide +kernel
theorem dL_law_646 : decode cL_law 646 = .ok (.iaload, 1) := by decide +kernel
theorem dL_law_647 : decode cL_law 647 = .ok (.invokevirtual 88, 3) := by decide +kernel
theorem dL_law_650 : decode cL_law 650 = .ok (.aload_n 2, 1) := by decide +kernel
theorem dL_law_651 : decode cL_law 651 = .ok (.aload_n 0, 1) := by decide +kernel
theorem dL_law_652 : decode cL_law 652 = .ok (.iload 4, 2) := by decide +kernel
theorem dL_law_654 : decode cL_law 654 = .ok (.iconst 1, 1) := by decide +kernel
theorem dL_law_655 : decode cL_law 655 = .ok (.iadd, 1) := by decide +kernel
theorem dL_law_656 : decode cL_law 656 = .ok (.iaload, 1) := by decide +kernel
theorem dL_law_657 : decode cL_law 657 = .ok (.aload_n 0, 1) := by decide +kernel
theorem dL_law_658 : decode cL_law 658 = .ok (.iload 4, 2) := by decide +kernel
theorem dL_law_660 : decode cL_law 660 = .ok (.iconst 2, 1) := by decide +kernel
theorem dL_law_661 : decode cL_law 661 = .ok (.iadd, 1) := by decide +kernel
theorem dL_law_662 : decode cL_law 662 = .ok (.iaload, 1) := by decide +kernel
theorem dL_law_663 : decode cL_law 663 = .ok (.aload_n 0, 1) := by decide +kernel
theorem dL_law_664 : decode cL_law 664 = .ok (.iload 4, 2) := by decide +kernel
theorem dL_law_666 : decode cL_law 666 = .ok (.iconst 3, 1) := by decide +kernel
theorem dL_law_667 : decode cL_law 667 = .ok (.iadd, 1) := by decide +kernel
theorem dL_law_668 : decode cL_law 668 = .ok (.iaload, 1) := by decide +kernel
theorem dL_law_669 : decode cL_law 669 = .ok (.invokevirtual 92, 3) := by decide +kernel
theorem dL_law_672 : decode cL_law 672 = .ok (.lcmp, 1) := by decide +kernel
theorem dL_law_673 : decode cL_law 673 = .ok (.ifCond .eq 149, 3) := by decide +kernel
theorem dL_law_676 : decode cL_law 676 = .ok (.iconst 0, 1) := by decide +kernel
theorem dL_law_677 : decode cL_law 677 = .ok (.ireturn, 1) := by decide +kernel
theorem dL_law_678 : decode cL_law 678 = .ok (.aload_n 1, 1) := by decide +kernel
theorem dL_law_679 : decode cL_law 679 = .ok (.aload_n 0, 1) := by decide +kernel
theorem dL_law_680 : decode cL_law 680 = .ok (.iload 4, 2) := by decide +kernel
theorem dL_law_682 : decode cL_law 682 = .ok (.iconst 1, 1) := by decide +kernel
theorem dL_law_683 : decode cL_law 683 = .ok (.iadd, 1) := by decide +kernel
theorem dL_law_684 : decode cL_law 684 = .ok (.iaload, 1) := by decide +kernel
theorem dL_law_685 : decode cL_law 685 = .ok (.aload_n 0, 1) := by decide +kernel
theorem dL_law_686 : decode cL_law 686 = .ok (.iload 4, 2) := by decide +kernel
theorem dL_law_688 : decode cL_law 688 = .ok (.iconst 2, 1) := by decide +kernel
theorem dL_law_689 : decode cL_law 689 = .ok (.iadd, 1) := by decide +kernel
theorem dL_law_690 : decode cL_law 690 = .ok (.iaload, 1) := by decide +kernel
theorem dL_law_691 : decode cL_law 691 = .ok (.aload_n 3, 1) := by decide +kernel
theorem dL_law_692 : decode cL_law 692 = .ok (.invokestatic 93, 3) := by decide +kernel
theorem dL_law_695 : decode cL_law 695 = .ok (.istore 5, 2) := by decide +kernel
theorem dL_law_697 : decode cL_law 697 = .ok (.aload_n 2, 1) := by decide +kernel
theorem dL_law_698 : decode cL_law 698 = .ok (.aload_n 0, 1) := by decide +kernel
theorem dL_law_699 : decode cL_law 699 = .ok (.iload 4, 2) := by decide +kernel
theorem dL_law_701 : decode cL_law 701 = .ok (.iconst 1, 1) := by decide +kernel
theorem dL_law_702 : decode cL_law 702 = .ok (.iadd, 1) := by decide +kernel
theorem dL_law_703 : decode cL_law 703 = .ok (.iaload, 1) := by decide +kernel
theorem dL_law_704 : decode cL_law 704 = .ok (.aload_n 0, 1) := by decide +kernel
theorem dL_law_705 : decode cL_law 705 = .ok (.iload 4, 2) := by decide +kernel
theorem dL_law_707 : decode cL_law 707 = .ok (.iconst 2, 1) := by decide +kernel
theorem dL_law_708 : decode cL_law 708 = .ok (.iadd, 1) := by decide +kernel
theorem dL_law_709 : decode cL_law 709 = .ok (.iaload, 1) := by decide +kernel
theorem dL_law_710 : decode cL_law 710 = .ok (.invokevirtual 95, 3) := by decide +kernel
theorem dL_law_713 : decode cL_law 713 = .ok (.istore 6, 2) := by decide +kernel
theorem dL_law_715 : decode cL_law 715 = .ok (.aload_n 2, 1) := by decide +kernel
theorem dL_law_716 : decode cL_law 716 = .ok (.invokevirtual 68, 3) := by decide +kernel
theorem dL_law_719 : decode cL_law 719 = .ok (.iload 5, 2) := by decide +kernel
theorem dL_law_721 : decode cL_law 721 = .ok (.if_icmp .eq 5, 3) := by decide +kernel
theorem dL_law_724 : decode cL_law 724 = .ok (.iconst 0, 1) := by decide +kernel
theorem dL_law_725 : decode cL_law 725 = .ok (.ireturn, 1) := by decide +kernel
theorem dL_law_726 : decode cL_law 726 = .ok (.iload 5, 2) := by decide +kernel
theorem dL_law_728 : decode cL_law 728 = .ok (.ifCond .ne 15, 3) := by decide +kernel
theorem dL_law_731 : decode cL_law 731 = .ok (.aload_n 3, 1) := by decide +kernel
theorem dL_law_732 : decode cL_law 732 = .ok (.iconst 0, 1) := by decide +kernel
theorem dL_law_733 : decode cL_law 733 = .ok (.laload, 1) := by decide +kernel
theorem dL_law_734 : decode cL_law 734 = .ok (.iload 6, 2) := by decide +kernel
theorem dL_law_736 : decode cL_law 736 = .ok (.i2l, 1) := by decide +kernel
theorem dL_law_737 : decode cL_law 737 = .ok (.lcmp, 1) := by decide +kernel
theorem dL_law_738 : decode cL_law 738 = .ok (.ifCond .eq 5, 3) := by decide +kernel
theorem dL_law_741 : decode cL_law 741 = .ok (.iconst 0, 1) := by decide +kernel
theorem dL_law_742 : decode cL_law 742 = .ok (.ireturn, 1) := by decide +kernel
theorem dL_law_743 : decode cL_law 743 = .ok (.goto 79, 3) := by decide +kernel
theorem dL_law_746 : decode cL_law 746 = .ok (.aload_n 1, 1) := by decide +kernel
theorem dL_law_747 : decode cL_law 747 = .ok (.aload_n 0, 1) := by decide +kernel
theorem dL_law_748 : decode cL_law 748 = .ok (.iload 4, 2) := by decide +kernel
theorem dL_law_750 : decode cL_law 750 = .ok (.iconst 1, 1) := by decide +kernel
theorem dL_law_751 : decode cL_law 751 = .ok (.iadd, 1) := by decide +kernel
theorem dL_law_752 : decode cL_law 752 = .ok (.iaload, 1) := by decide +kernel
theorem dL_law_753 : decode cL_law 753 = .ok (.aload_n 0, 1) := by decide +kernel
theorem dL_law_754 : decode cL_law 754 = .ok (.iload 4, 2) := by decide +kernel
theorem dL_law_756 : decode cL_law 756 = .ok (.iconst 2, 1) := by decide +kernel
theorem dL_law_757 : decode cL_law 757 = .ok (.iadd, 1) := by decide +kernel
theorem dL_law_758 : decode cL_law 758 = .ok (.iaload, 1) := by decide +kernel
theorem dL_law_759 : decode cL_law 759 = .ok (.invokevirtual 96, 3) := by decide +kernel
theorem dL_law_762 : decode cL_law 762 = .ok (.aload_n 2, 1) := by decide +kernel
theorem dL_law_763 : decode cL_law 763 = .ok (.aload_n 0, 1) := by decide +kernel
theorem dL_law_764 : decode cL_law 764 = .ok (.iload 4, 2) := by decide +kernel
theorem dL_law_766 : decode cL_law 766 = .ok (.iconst 1, 1) := by decide +kernel
theorem dL_law_767 : decode cL_law 767 = .ok (.iadd, 1) := by decide +kernel
theorem dL_law_768 : decode cL_law 768 = .ok (.iaload, 1) := by decide +kernel
theorem dL_law_769 : decode cL_law 769 = .ok (.aload_n 0, 1) := by decide +kernel
theorem dL_law_770 : decode cL_law 770 = .ok (.iload 4, 2) := by decide +kernel
theorem dL_law_772 : decode cL_law 772 = .ok (.iconst 2, 1) := by decide +kernel
theorem dL_law_773 : decode cL_law 773 = .ok (.iadd, 1) := by decide +kernel
theorem dL_law_774 : decode cL_law 774 = .ok (.iaload, 1) := by decide +kernel
theorem dL_law_775 : decode cL_law 775 = .ok (.invokevirtual 99, 3) := by decide +kernel
theorem dL_law_778 : decode cL_law 778 = .ok (.if_icmp .eq 44, 3) := by decide +kernel
theorem dL_law_781 : decode cL_law 781 = .ok (.iconst 0, 1) := by decide +kernel
theorem dL_law_782 : decode cL_law 782 = .ok (.ireturn, 1) := by decide +kernel
theorem dL_law_783 : decode cL_law 783 = .ok (.aload_n 1, 1) := by decide +kernel
theorem dL_law_784 : decode cL_law 784 = .ok (.invokevirtual 100, 3) := by decide +kernel
theorem dL_law_787 : decode cL_law 787 = .ok (.aload_n 2, 1) := by decide +kernel
theorem dL_law_788 : decode cL_law 788 = .ok (.invokevirtual 103, 3) := by decide +kernel
theorem dL_law_791 : decode cL_law 791 = .ok (.if_icmp .eq 31, 3) := by decide +kernel
theorem dL_law_794 : decode cL_law 794 = .ok (.iconst 0, 1) := by decide +kernel
theorem dL_law_795 : decode cL_law 795 = .ok (.ireturn, 1) := by decide +kernel
theorem dL_law_796 : decode cL_law 796 = .ok (.aload_n 1, 1) := by decide +kernel
theorem dL_law_797 : decode cL_law 797 = .ok (.invokevirtual 104, 3) := by decide +kernel
theorem dL_law_800 : decode cL_law 800 = .ok (.aload_n 2, 1) := by decide +kernel
theorem dL_law_801 : decode cL_law 801 = .ok (.invokevirtual 107, 3) := by decide +kernel
theorem dL_law_804 : decode cL_law 804 = .ok (.if_icmp .eq 18, 3) := by decide +kernel
theorem dL_law_807 : decode cL_law 807 = .ok (.iconst 0, 1) := by decide +kernel
theorem dL_law_808 : decode cL_law 808 = .ok (.ireturn, 1) := by decide +kernel
theorem dL_law_809 : decode cL_law 809 = .ok (.aload_n 1, 1) := by decide +kernel
theorem dL_law_810 : decode cL_law 810 = .ok (.invokevirtual 108, 3) := by decide +kernel
theorem dL_law_813 : decode cL_law 813 = .ok (.aload_n 2, 1) := by decide +kernel
theorem dL_law_814 : decode cL_law 814 = .ok (.invokevirtual 111, 3) := by decide +kernel
theorem dL_law_817 : decode cL_law 817 = .ok (.if_icmp .eq 5, 3) := by decide +kernel
theorem dL_law_820 : decode cL_law 820 = .ok (.iconst 0, 1) := by decide +kernel
theorem dL_law_821 : decode cL_law 821 = .ok (.ireturn, 1) := by decide +kernel
theorem dL_law_822 : decode cL_law 822 = .ok (.iinc 4 4, 3) := by decide +kernel
theorem dL_law_825 : decode cL_law 825 = .ok (.goto (-772), 3) := by decide +kernel
theorem dL_law_828 : decode cL_law 828 = .ok (.iconst 1, 1) := by decide +kernel
theorem dL_law_829 : decode cL_law 829 = .ok (.ireturn, 1) := by decide +kernel
