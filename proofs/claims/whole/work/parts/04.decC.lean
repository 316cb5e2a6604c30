theorem dX0_init_0 : decode cX0_init 0 = .ok (.aload_n 0, 1) := by decide +kernel
theorem dX0_init_1 : decode cX0_init 1 = .ok (.invokespecial 3, 3) := by decide +kernel
theorem dX0_init_4 : decode cX0_init 4 = .ok (.aload_n 0, 1) := by decide +kernel
theorem dX0_init_5 : decode cX0_init 5 = .ok (.iload_n 1, 1) := by decide +kernel
theorem dX0_init_6 : decode cX0_init 6 = .ok (.putfield 9, 3) := by decide +kernel
theorem dX0_init_9 : decode cX0_init 9 = .ok (.aload_n 0, 1) := by decide +kernel
theorem dX0_init_10 : decode cX0_init 10 = .ok (.iload_n 1, 1) := by decide +kernel
theorem dX0_init_11 : decode cX0_init 11 = .ok (.iconst 1, 1) := by decide +kernel
theorem dX0_init_12 : decode cX0_init 12 = .ok (.iadd, 1) := by decide +kernel
theorem dX0_init_13 : decode cX0_init 13 = .ok (.newarray .int, 2) := by decide +kernel
theorem dX0_init_15 : decode cX0_init 15 = .ok (.putfield 15, 3) := by decide +kernel
theorem dX0_init_18 : decode cX0_init 18 = .ok (.aload_n 0, 1) := by decide +kernel
theorem dX0_init_19 : decode cX0_init 19 = .ok (.iload_n 1, 1) := by decide +kernel
theorem dX0_init_20 : decode cX0_init 20 = .ok (.iconst 1, 1) := by decide +kernel
theorem dX0_init_21 : decode cX0_init 21 = .ok (.iadd, 1) := by decide +kernel
theorem dX0_init_22 : decode cX0_init 22 = .ok (.newarray .int, 2) := by decide +kernel
theorem dX0_init_24 : decode cX0_init 24 = .ok (.putfield 19, 3) := by decide +kernel
theorem dX0_init_27 : decode cX0_init 27 = .ok (.aload_n 0, 1) := by decide +kernel
theorem dX0_init_28 : decode cX0_init 28 = .ok (.iload_n 1, 1) := by decide +kernel
theorem dX0_init_29 : decode cX0_init 29 = .ok (.iconst 1, 1) := by decide +kernel
theorem dX0_init_30 : decode cX0_init 30 = .ok (.iadd, 1) := by decide +kernel
theorem dX0_init_31 : decode cX0_init 31 = .ok (.newarray .int, 2) := by decide +kernel
theorem dX0_init_33 : decode cX0_init 33 = .ok (.putfield 22, 3) := by decide +kernel
theorem dX0_init_36 : decode cX0_init 36 = .ok (.aload_n 0, 1) := by decide +kernel
theorem dX0_init_37 : decode cX0_init 37 = .ok (.iload_n 1, 1) := by decide +kernel
theorem dX0_init_38 : decode cX0_init 38 = .ok (.iconst 1, 1) := by decide +kernel
theorem dX0_init_39 : decode cX0_init 39 = .ok (.iadd, 1) := by decide +kernel
theorem dX0_init_40 : decode cX0_init 40 = .ok (.newarray .int, 2) := by decide +kernel
theorem dX0_init_42 : decode cX0_init 42 = .ok (.putfield 25, 3) := by decide +kernel
theorem dX0_init_45 : decode cX0_init 45 = .ok (.aload_n 0, 1) := by decide +kernel
theorem dX0_init_46 : decode cX0_init 46 = .ok (.iload_n 1, 1) := by decide +kernel
theorem dX0_init_47 : decode cX0_init 47 = .ok (.iconst 1, 1) := by decide +kernel
theorem dX0_init_48 : decode cX0_init 48 = .ok (.iadd, 1) := by decide +kernel
theorem dX0_init_49 : decode cX0_init 49 = .ok (.newarray .int, 2) := by decide +kernel
theorem dX0_init_51 : decode cX0_init 51 = .ok (.putfield 28, 3) := by decide +kernel
theorem dX0_init_54 : decode cX0_init 54 = .ok (.aload_n 0, 1) := by decide +kernel
theorem dX0_init_55 : decode cX0_init 55 = .ok (.iload_n 1, 1) := by decide +kernel
theorem dX0_init_56 : decode cX0_init 56 = .ok (.iconst 1, 1) := by decide +kernel
theorem dX0_init_57 : decode cX0_init 57 = .ok (.iadd, 1) := by decide +kernel
theorem dX0_init_58 : decode cX0_init 58 = .ok (.newarray .int, 2) := by decide +kernel
theorem dX0_init_60 : decode cX0_init 60 = .ok (.putfield 31, 3) := by decide +kernel
theorem dX0_init_63 : decode cX0_init 63 = .ok (.aload_n 0, 1) := by decide +kernel
theorem dX0_init_64 : decode cX0_init 64 = .ok (.iload_n 1, 1) := by decide +kernel
theorem dX0_init_65 : decode cX0_init 65 = .ok (.iconst 1, 1) := by decide +kernel
theorem dX0_init_66 : decode cX0_init 66 = .ok (.iadd, 1) := by decide +kernel
theorem dX0_init_67 : decode cX0_init 67 = .ok (.newarray .boolean, 2) := by decide +kernel
theorem dX0_init_69 : decode cX0_init 69 = .ok (.putfield 34, 3) := by decide +kernel
theorem dX0_init_72 : decode cX0_init 72 = .ok (.aload_n 0, 1) := by decide +kernel
theorem dX0_init_73 : decode cX0_init 73 = .ok (.iload_n 1, 1) := by decide +kernel
theorem dX0_init_74 : decode cX0_init 74 = .ok (.iconst 1, 1) := by decide +kernel
theorem dX0_init_75 : decode cX0_init 75 = .ok (.iadd, 1) := by decide +kernel
theorem dX0_init_76 : decode cX0_init 76 = .ok (.newarray .boolean, 2) := by decide +kernel
theorem dX0_init_78 : decode cX0_init 78 = .ok (.putfield 38, 3) := by decide +kernel
theorem dX0_init_81 : decode cX0_init 81 = .ok (.aload_n 0, 1) := by decide +kernel
theorem dX0_init_82 : decode cX0_init 82 = .ok (.iload_n 1, 1) := by decide +kernel
theorem dX0_init_83 : decode cX0_init 83 = .ok (.iconst 1, 1) := by decide +kernel
theorem dX0_init_84 : decode cX0_init 84 = .ok (.iadd, 1) := by decide +kernel
theorem dX0_init_85 : decode cX0_init 85 = .ok (.newarray .int, 2) := by decide +kernel
theorem dX0_init_87 : decode cX0_init 87 = .ok (.putfield 41, 3) := by decide +kernel
theorem dX0_init_90 : decode cX0_init 90 = .ok (.return_, 1) := by decide +kernel
theorem dX0_hasRoom_0 : decode cX0_hasRoom 0 = .ok (.aload_n 0, 1) := by decide +kernel
theorem dX0_hasRoom_1 : decode cX0_hasRoom 1 = .ok (.getfield 44, 3) := by decide +kernel
theorem dX0_hasRoom_4 : decode cX0_hasRoom 4 = .ok (.iload_n 1, 1) := by decide +kernel
theorem dX0_hasRoom_5 : decode cX0_hasRoom 5 = .ok (.iadd, 1) := by decide +kernel
theorem dX0_hasRoom_6 : decode cX0_hasRoom 6 = .ok (.aload_n 0, 1) := by decide +kernel
theorem dX0_hasRoom_7 : decode cX0_hasRoom 7 = .ok (.getfield 9, 3) := by decide +kernel
theorem dX0_hasRoom_10 : decode cX0_hasRoom 10 = .ok (.if_icmp .gt 7, 3) := by decide +kernel
theorem dX0_hasRoom_13 : decode cX0_hasRoom 13 = .ok (.iconst 1, 1) := by decide +kernel
theorem dX0_hasRoom_14 : decode cX0_hasRoom 14 = .ok (.goto 4, 3) := by decide +kernel
theorem dX0_hasRoom_17 : decode cX0_hasRoom 17 = .ok (.iconst 0, 1) := by decide +kernel
theorem dX0_hasRoom_18 : decode cX0_hasRoom 18 = .ok (.ireturn, 1) := by decide +kernel
set_option maxRecDepth 20000 in
theorem ggX0_fresh_X0_freePlace : GoodIn wsX0_fresh wsX0_freePlace := goodIn_r _ [13, 14, 1, 15, 16, 17, 18, 19, 20, 21, 22, 23, 24, 25] (by decide +kernel) (by decide +kernel)
set_option maxRecDepth 20000 in
theorem gX0_fresh_X0_freePlace : GoodIn wsX0_fresh (wsV RX0 47 RX0 yX0_freePlace wsX0_freePlace) := goodIn_app (goodIn_of _ (by decide +kernel)) ggX0_fresh_X0_freePlace
theorem dX0_fresh_0 : decode cX0_fresh 0 = .ok (.aload_n 0, 1) := by decide +kernel
theorem dX0_fresh_1 : decode cX0_fresh 1 = .ok (.invokevirtual 47, 3) := by decide +kernel
theorem dX0_fresh_4 : decode cX0_fresh 4 = .ok (.istore 6, 2) := by decide +kernel
theorem dX0_fresh_6 : decode cX0_fresh 6 = .ok (.aload_n 0, 1) := by decide +kernel
theorem dX0_fresh_7 : decode cX0_fresh 7 = .ok (.getfield 34, 3) := by decide +kernel
theorem dX0_fresh_10 : decode cX0_fresh 10 = .ok (.iload 6, 2) := by decide +kernel
theorem dX0_fresh_12 : decode cX0_fresh 12 = .ok (.iconst 1, 1) := by decide +kernel
theorem dX0_fresh_13 : decode cX0_fresh 13 = .ok (.bastore, 1) := by decide +kernel
theorem dX0_fresh_14 : decode cX0_fresh 14 = .ok (.aload_n 0, 1) := by decide +kernel
theorem dX0_fresh_15 : decode cX0_fresh 15 = .ok (.dup, 1) := by decide +kernel
theorem dX0_fresh_16 : decode cX0_fresh 16 = .ok (.getfield 44, 3) := by decide +kernel
theorem dX0_fresh_19 : decode cX0_fresh 19 = .ok (.iconst 1, 1) := by decide +kernel
theorem dX0_fresh_20 : decode cX0_fresh 20 = .ok (.iadd, 1) := by decide +kernel
theorem dX0_fresh_21 : decode cX0_fresh 21 = .ok (.putfield 44, 3) := by decide +kernel
theorem dX0_fresh_24 : decode cX0_fresh 24 = .ok (.aload_n 0, 1) := by decide +kernel
theorem dX0_fresh_25 : decode cX0_fresh 25 = .ok (.getfield 15, 3) := by decide +kernel
theorem dX0_fresh_28 : decode cX0_fresh 28 = .ok (.iload 6, 2) := by decide +kernel
theorem dX0_fresh_30 : decode cX0_fresh 30 = .ok (.iload_n 1, 1) := by decide +kernel
theorem dX0_fresh_31 : decode cX0_fresh 31 = .ok (.iastore, 1) := by decide +kernel
theorem dX0_fresh_32 : decode cX0_fresh 32 = .ok (.aload_n 0, 1) := by decide +kernel
theorem dX0_fresh_33 : decode cX0_fresh 33 = .ok (.getfield 19, 3) := by decide +kernel
theorem dX0_fresh_36 : decode cX0_fresh 36 = .ok (.iload 6, 2) := by decide +kernel
theorem dX0_fresh_38 : decode cX0_fresh 38 = .ok (.iload_n 2, 1) := by decide +kernel
theorem dX0_fresh_39 : decode cX0_fresh 39 = .ok (.iastore, 1) := by decide +kernel
theorem dX0_fresh_40 : decode cX0_fresh 40 = .ok (.aload_n 0, 1) := by decide +kernel
theorem dX0_fresh_41 : decode cX0_fresh 41 = .ok (.getfield 22, 3) := by decide +kernel
theorem dX0_fresh_44 : decode cX0_fresh 44 = .ok (.iload 6, 2) := by decide +kernel
theorem dX0_fresh_46 : decode cX0_fresh 46 = .ok (.iload_n 3, 1) := by decide +kernel
theorem dX0_fresh_47 : decode cX0_fresh 47 = .ok (.iastore, 1) := by decide +kernel
theorem dX0_fresh_48 : decode cX0_fresh 48 = .ok (.aload_n 0, 1) := by decide +kernel
theorem dX0_fresh_49 : decode cX0_fresh 49 = .ok (.getfield 25, 3) := by decide +kernel
theorem dX0_fresh_52 : decode cX0_fresh 52 = .ok (.iload 6, 2) := by decide +kernel
theorem dX0_fresh_54 : decode cX0_fresh 54 = .ok (.iload 4, 2) := by decide +kernel
theorem dX0_fresh_56 : decode cX0_fresh 56 = .ok (.iastore, 1) := by decide +kernel
theorem dX0_fresh_57 : decode cX0_fresh 57 = .ok (.aload_n 0, 1) := by decide +kernel
theorem dX0_fresh_58 : decode cX0_fresh 58 = .ok (.getfield 28, 3) := by decide +kernel
theorem dX0_fresh_61 : decode cX0_fresh 61 = .ok (.iload 6, 2) := by decide +kernel
theorem dX0_fresh_63 : decode cX0_fresh 63 = .ok (.iload 5, 2) := by decide +kernel
theorem dX0_fresh_65 : decode cX0_fresh 65 = .ok (.iastore, 1) := by decide +kernel
theorem dX0_fresh_66 : decode cX0_fresh 66 = .ok (.aload_n 0, 1) := by decide +kernel
theorem dX0_fresh_67 : decode cX0_fresh 67 = .ok (.getfield 31, 3) := by decide +kernel
theorem dX0_fresh_70 : decode cX0_fresh 70 = .ok (.iload 6, 2) := by decide +kernel
theorem dX0_fresh_72 : decode cX0_fresh 72 = .ok (.iconst 1, 1) := by decide +kernel
theorem dX0_fresh_73 : decode cX0_fresh 73 = .ok (.aload_n 0, 1) := by decide +kernel
theorem dX0_fresh_74 : decode cX0_fresh 74 = .ok (.getfield 31, 3) := by decide +kernel
theorem dX0_fresh_77 : decode cX0_fresh 77 = .ok (.iload 4, 2) := by decide +kernel
theorem dX0_fresh_79 : decode cX0_fresh 79 = .ok (.iaload, 1) := by decide +kernel
theorem dX0_fresh_80 : decode cX0_fresh 80 = .ok (.iadd, 1) := by decide +kernel
theorem dX0_fresh_81 : decode cX0_fresh 81 = .ok (.aload_n 0, 1) := by decide +kernel
theorem dX0_fresh_82 : decode cX0_fresh 82 = .ok (.getfield 31, 3) := by decide +kernel
theorem dX0_fresh_85 : decode cX0_fresh 85 = .ok (.iload 5, 2) := by decide +kernel
theorem dX0_fresh_87 : decode cX0_fresh 87 = .ok (.iaload, 1) := by decide +kernel
theorem dX0_fresh_88 : decode cX0_fresh 88 = .ok (.iadd, 1) := by decide +kernel
theorem dX0_fresh_89 : decode cX0_fresh 89 = .ok (.iastore, 1) := by decide +kernel
theorem dX0_fresh_90 : decode cX0_fresh 90 = .ok (.iload 6, 2) := by decide +kernel
theorem dX0_fresh_92 : decode cX0_fresh 92 = .ok (.ireturn, 1) := by decide +kernel
set_option maxRecDepth 20000 in
theorem ggX0_copy_X0_fresh : GoodIn wsX0_copy wsX0_fresh := goodIn_r _ [8, 9, 10, 1, 2, 3, 11, 12, 13, 14, 15, 16, 7, 17, 18, 19, 20, 21, 22, 23, 24, 25, 26, 27, 28, 29] (by decide +kernel) (by decide +kernel)
set_option maxRecDepth 20000 in
theorem gX0_copy_X0_fresh : GoodIn wsX0_copy (wsV RX0 51 RX0 yX0_fresh wsX0_fresh) := goodIn_app (goodIn_of _ (by decide +kernel)) ggX0_copy_X0_fresh
theorem dX0_copy_0 : decode cX0_copy 0 = .ok (.aload_n 0, 1) := by decide +kernel
theorem dX0_copy_1 : decode cX0_copy 1 = .ok (.aload_n 0, 1) := by decide +kernel
theorem dX0_copy_2 : decode cX0_copy 2 = .ok (.getfield 15, 3) := by decide +kernel
theorem dX0_copy_5 : decode cX0_copy 5 = .ok (.iload_n 1, 1) := by decide +kernel
theorem dX0_copy_6 : decode cX0_copy 6 = .ok (.iaload, 1) := by decide +kernel
theorem dX0_copy_7 : decode cX0_copy 7 = .ok (.aload_n 0, 1) := by decide +kernel
theorem dX0_copy_8 : decode cX0_copy 8 = .ok (.getfield 19, 3) := by decide +kernel
theorem dX0_copy_11 : decode cX0_copy 11 = .ok (.iload_n 1, 1) := by decide +kernel
theorem dX0_copy_12 : decode cX0_copy 12 = .ok (.iaload, 1) := by decide +kernel
theorem dX0_copy_13 : decode cX0_copy 13 = .ok (.aload_n 0, 1) := by decide +kernel
theorem dX0_copy_14 : decode cX0_copy 14 = .ok (.getfield 22, 3) := by decide +kernel
theorem dX0_copy_17 : decode cX0_copy 17 = .ok (.iload_n 1, 1) := by decide +kernel
theorem dX0_copy_18 : decode cX0_copy 18 = .ok (.iaload, 1) := by decide +kernel
theorem dX0_copy_19 : decode cX0_copy 19 = .ok (.iload_n 2, 1) := by decide +kernel
theorem dX0_copy_20 : decode cX0_copy 20 = .ok (.iload_n 3, 1) := by decide +kernel
theorem dX0_copy_21 : decode cX0_copy 21 = .ok (.invokevirtual 51, 3) := by decide +kernel
theorem dX0_copy_24 : decode cX0_copy 24 = .ok (.ireturn, 1) := by decide +kernel
theorem dX0_freePlace_0 : decode cX0_freePlace 0 = .ok (.iconst 1, 1) := by decide +kernel
theorem dX0_freePlace_1 : decode cX0_freePlace 1 = .ok (.istore_n 1, 1) := by decide +kernel
theorem dX0_freePlace_2 : decode cX0_freePlace 2 = .ok (.iload_n 1, 1) := by decide +kernel
theorem dX0_freePlace_3 : decode cX0_freePlace 3 = .ok (.aload_n 0, 1) := by decide +kernel
theorem dX0_freePlace_4 : decode cX0_freePlace 4 = .ok (.getfield 9, 3) := by decide +kernel
theorem dX0_freePlace_7 : decode cX0_freePlace 7 = .ok (.if_icmp .ge 18, 3) := by decide +kernel
theorem dX0_freePlace_10 : decode cX0_freePlace 10 = .ok (.aload_n 0, 1) := by decide +kernel
theorem dX0_freePlace_11 : decode cX0_freePlace 11 = .ok (.getfield 34, 3) := by decide +kernel
theorem dX0_freePlace_14 : decode cX0_freePlace 14 = .ok (.iload_n 1, 1) := by decide +kernel
theorem dX0_freePlace_15 : decode cX0_freePlace 15 = .ok (.baload, 1) := by decide +kernel
theorem dX0_freePlace_16 : decode cX0_freePlace 16 = .ok (.ifCond .eq 9, 3) := by decide +kernel
theorem dX0_freePlace_19 : decode cX0_freePlace 19 = .ok (.iinc 1 1, 3) := by decide +kernel
theorem dX0_freePlace_22 : decode cX0_freePlace 22 = .ok (.goto (-20), 3) := by decide +kernel
theorem dX0_freePlace_25 : decode cX0_freePlace 25 = .ok (.iload_n 1, 1) := by decide +kernel
theorem dX0_freePlace_26 : decode cX0_freePlace 26 = .ok (.ireturn, 1) := by decide +kernel
theorem dX0_goesAbove_0 : decode cX0_goesAbove 0 = .ok (.aload_n 0, 1) := by decide +kernel
theorem dX0_goesAbove_1 : decode cX0_goesAbove 1 = .ok (.getfield 22, 3) := by decide +kernel
theorem dX0_goesAbove_4 : decode cX0_goesAbove 4 = .ok (.iload_n 1, 1) := by decide +kernel
theorem dX0_goesAbove_5 : decode cX0_goesAbove 5 = .ok (.iaload, 1) := by decide +kernel
theorem dX0_goesAbove_6 : decode cX0_goesAbove 6 = .ok (.iload_n 2, 1) := by decide +kernel
theorem dX0_goesAbove_7 : decode cX0_goesAbove 7 = .ok (.if_icmp .eq 21, 3) := by decide +kernel
theorem dX0_goesAbove_10 : decode cX0_goesAbove 10 = .ok (.aload_n 0, 1) := by decide +kernel
theorem dX0_goesAbove_11 : decode cX0_goesAbove 11 = .ok (.getfield 22, 3) := by decide +kernel
theorem dX0_goesAbove_14 : decode cX0_goesAbove 14 = .ok (.iload_n 1, 1) := by decide +kernel
theorem dX0_goesAbove_15 : decode cX0_goesAbove 15 = .ok (.iaload, 1) := by decide +kernel
theorem dX0_goesAbove_16 : decode cX0_goesAbove 16 = .ok (.iload_n 2, 1) := by decide +kernel
theorem dX0_goesAbove_17 : decode cX0_goesAbove 17 = .ok (.if_icmp .le 7, 3) := by decide +kernel
theorem dX0_goesAbove_20 : decode cX0_goesAbove 20 = .ok (.iconst 1, 1) := by decide +kernel
theorem dX0_goesAbove_21 : decode cX0_goesAbove 21 = .ok (.goto 22, 3) := by decide +kernel
theorem dX0_goesAbove_24 : decode cX0_goesAbove 24 = .ok (.iconst 0, 1) := by decide +kernel
theorem dX0_goesAbove_25 : decode cX0_goesAbove 25 = .ok (.goto 18, 3) := by decide +kernel
theorem dX0_goesAbove_28 : decode cX0_goesAbove 28 = .ok (.aload_n 0, 1) := by decide +kernel
theorem dX0_goesAbove_29 : decode cX0_goesAbove 29 = .ok (.getfield 15, 3) := by decide +kernel
theorem dX0_goesAbove_32 : decode cX0_goesAbove 32 = .ok (.iload_n 1, 1) := by decide +kernel
theorem dX0_goesAbove_33 : decode cX0_goesAbove 33 = .ok (.iaload, 1) := by decide +kernel
theorem dX0_goesAbove_34 : decode cX0_goesAbove 34 = .ok (.iload_n 3, 1) := by decide +kernel
theorem dX0_goesAbove_35 : decode cX0_goesAbove 35 = .ok (.if_icmp .ge 7, 3) := by decide +kernel
theorem dX0_goesAbove_38 : decode cX0_goesAbove 38 = .ok (.iconst 1, 1) := by decide +kernel
theorem dX0_goesAbove_39 : decode cX0_goesAbove 39 = .ok (.goto 4, 3) := by decide +kernel
theorem dX0_goesAbove_42 : decode cX0_goesAbove 42 = .ok (.iconst 0, 1) := by decide +kernel
theorem dX0_goesAbove_43 : decode cX0_goesAbove 43 = .ok (.ireturn, 1) := by decide +kernel
theorem dX0_forgetReached_0 : decode cX0_forgetReached 0 = .ok (.iconst 1, 1) := by decide +kernel
theorem dX0_forgetReached_1 : decode cX0_forgetReached 1 = .ok (.istore_n 1, 1) := by decide +kernel
theorem dX0_forgetReached_2 : decode cX0_forgetReached 2 = .ok (.iload_n 1, 1) := by decide +kernel
theorem dX0_forgetReached_3 : decode cX0_forgetReached 3 = .ok (.aload_n 0, 1) := by decide +kernel
theorem dX0_forgetReached_4 : decode cX0_forgetReached 4 = .ok (.getfield 9, 3) := by decide +kernel
theorem dX0_forgetReached_7 : decode cX0_forgetReached 7 = .ok (.if_icmp .gt 16, 3) := by decide +kernel
theorem dX0_forgetReached_10 : decode cX0_forgetReached 10 = .ok (.aload_n 0, 1) := by decide +kernel
theorem dX0_forgetReached_11 : decode cX0_forgetReached 11 = .ok (.getfield 38, 3) := by decide +kernel
theorem dX0_forgetReached_14 : decode cX0_forgetReached 14 = .ok (.iload_n 1, 1) := by decide +kernel
theorem dX0_forgetReached_15 : decode cX0_forgetReached 15 = .ok (.iconst 0, 1) := by decide +kernel
theorem dX0_forgetReached_16 : decode cX0_forgetReached 16 = .ok (.bastore, 1) := by decide +kernel
theorem dX0_forgetReached_17 : decode cX0_forgetReached 17 = .ok (.iinc 1 1, 3) := by decide +kernel
theorem dX0_forgetReached_20 : decode cX0_forgetReached 20 = .ok (.goto (-18), 3) := by decide +kernel
theorem dX0_forgetReached_23 : decode cX0_forgetReached 23 = .ok (.return_, 1) := by decide +kernel
set_option maxRecDepth 20000 in
theorem ggX0_reach_X0_pend : GoodIn wsX0_reach wsX0_pend := goodIn_r _ [9, 10, 2, 11, 12, 13, 14, 15, 16, 17, 18, 19, 20, 21] (by decide +kernel) (by decide +kernel)
set_option maxRecDepth 20000 in
theorem gX0_reach_X0_pend : GoodIn wsX0_reach (wsV RX0 55 RX0 yX0_pend wsX0_pend) := goodIn_app (goodIn_of _ (by decide +kernel)) ggX0_reach_X0_pend
theorem dX0_reach_0 : decode cX0_reach 0 = .ok (.aload_n 0, 1) := by decide +kernel
theorem dX0_reach_1 : decode cX0_reach 1 = .ok (.iload_n 1, 1) := by decide +kernel
theorem dX0_reach_2 : decode cX0_reach 2 = .ok (.iconst 0, 1) := by decide +kernel
theorem dX0_reach_3 : decode cX0_reach 3 = .ok (.invokevirtual 55, 3) := by decide +kernel
theorem dX0_reach_6 : decode cX0_reach 6 = .ok (.istore_n 2, 1) := by decide +kernel
theorem dX0_reach_7 : decode cX0_reach 7 = .ok (.iload_n 2, 1) := by decide +kernel
theorem dX0_reach_8 : decode cX0_reach 8 = .ok (.istore_n 3, 1) := by decide +kernel
theorem dX0_reach_9 : decode cX0_reach 9 = .ok (.iconst 0, 1) := by decide +kernel
theorem dX0_reach_10 : decode cX0_reach 10 = .ok (.istore 4, 2) := by decide +kernel
theorem dX0_reach_12 : decode cX0_reach 12 = .ok (.iload 4, 2) := by decide +kernel
theorem dX0_reach_14 : decode cX0_reach 14 = .ok (.aload_n 0, 1) := by decide +kernel
theorem dX0_reach_15 : decode cX0_reach 15 = .ok (.getfield 9, 3) := by decide +kernel
theorem dX0_reach_18 : decode cX0_reach 18 = .ok (.if_icmp .ge 68, 3) := by decide +kernel
theorem dX0_reach_21 : decode cX0_reach 21 = .ok (.iload_n 3, 1) := by decide +kernel
theorem dX0_reach_22 : decode cX0_reach 22 = .ok (.ifCond .le 64, 3) := by decide +kernel
theorem dX0_reach_25 : decode cX0_reach 25 = .ok (.iinc 3 (-1), 3) := by decide +kernel
theorem dX0_reach_28 : decode cX0_reach 28 = .ok (.aload_n 0, 1) := by decide +kernel
theorem dX0_reach_29 : decode cX0_reach 29 = .ok (.getfield 41, 3) := by decide +kernel
theorem dX0_reach_32 : decode cX0_reach 32 = .ok (.iload_n 3, 1) := by decide +kernel
theorem dX0_reach_33 : decode cX0_reach 33 = .ok (.iaload, 1) := by decide +kernel
theorem dX0_reach_34 : decode cX0_reach 34 = .ok (.istore 5, 2) := by decide +kernel
theorem dX0_reach_36 : decode cX0_reach 36 = .ok (.aload_n 0, 1) := by decide +kernel
theorem dX0_reach_37 : decode cX0_reach 37 = .ok (.aload_n 0, 1) := by decide +kernel
theorem dX0_reach_38 : decode cX0_reach 38 = .ok (.getfield 25, 3) := by decide +kernel
theorem dX0_reach_41 : decode cX0_reach 41 = .ok (.iload 5, 2) := by decide +kernel
theorem dX0_reach_43 : decode cX0_reach 43 = .ok (.iaload, 1) := by decide +kernel
theorem dX0_reach_44 : decode cX0_reach 44 = .ok (.iload_n 3, 1) := by decide +kernel
theorem dX0_reach_45 : decode cX0_reach 45 = .ok (.invokevirtual 55, 3) := by decide +kernel
theorem dX0_reach_48 : decode cX0_reach 48 = .ok (.istore 6, 2) := by decide +kernel
theorem dX0_reach_50 : decode cX0_reach 50 = .ok (.iload 6, 2) := by decide +kernel
theorem dX0_reach_52 : decode cX0_reach 52 = .ok (.aload_n 0, 1) := by decide +kernel
theorem dX0_reach_53 : decode cX0_reach 53 = .ok (.aload_n 0, 1) := by decide +kernel
theorem dX0_reach_54 : decode cX0_reach 54 = .ok (.getfield 28, 3) := by decide +kernel
theorem dX0_reach_57 : decode cX0_reach 57 = .ok (.iload 5, 2) := by decide +kernel
theorem dX0_reach_59 : decode cX0_reach 59 = .ok (.iaload, 1) := by decide +kernel
theorem dX0_reach_60 : decode cX0_reach 60 = .ok (.iload_n 3, 1) := by decide +kernel
theorem dX0_reach_61 : decode cX0_reach 61 = .ok (.iload 6, 2) := by decide +kernel
theorem dX0_reach_63 : decode cX0_reach 63 = .ok (.iadd, 1) := by decide +kernel
theorem dX0_reach_64 : decode cX0_reach 64 = .ok (.invokevirtual 55, 3) := by decide +kernel
theorem dX0_reach_67 : decode cX0_reach 67 = .ok (.iadd, 1) := by decide +kernel
theorem dX0_reach_68 : decode cX0_reach 68 = .ok (.istore 6, 2) := by decide +kernel
theorem dX0_reach_70 : decode cX0_reach 70 = .ok (.iload_n 3, 1) := by decide +kernel
theorem dX0_reach_71 : decode cX0_reach 71 = .ok (.iload 6, 2) := by decide +kernel
theorem dX0_reach_73 : decode cX0_reach 73 = .ok (.iadd, 1) := by decide +kernel
theorem dX0_reach_74 : decode cX0_reach 74 = .ok (.istore_n 3, 1) := by decide +kernel
theorem dX0_reach_75 : decode cX0_reach 75 = .ok (.iload_n 2, 1) := by decide +kernel
theorem dX0_reach_76 : decode cX0_reach 76 = .ok (.iload 6, 2) := by decide +kernel
theorem dX0_reach_78 : decode cX0_reach 78 = .ok (.iadd, 1) := by decide +kernel
theorem dX0_reach_79 : decode cX0_reach 79 = .ok (.istore_n 2, 1) := by decide +kernel
theorem dX0_reach_80 : decode cX0_reach 80 = .ok (.iinc 4 1, 3) := by decide +kernel
theorem dX0_reach_83 : decode cX0_reach 83 = .ok (.goto (-71), 3) := by decide +kernel
theorem dX0_reach_86 : decode cX0_reach 86 = .ok (.iload_n 2, 1) := by decide +kernel
theorem dX0_reach_87 : decode cX0_reach 87 = .ok (.ireturn, 1) := by decide +kernel
theorem dX0_pend_0 : decode cX0_pend 0 = .ok (.iload_n 1, 1) := by decide +kernel
theorem dX0_pend_1 : decode cX0_pend 1 = .ok (.ifCond .eq 12, 3) := by decide +kernel
theorem dX0_pend_4 : decode cX0_pend 4 = .ok (.aload_n 0, 1) := by decide +kernel
theorem dX0_pend_5 : decode cX0_pend 5 = .ok (.getfield 38, 3) := by decide +kernel
theorem dX0_pend_8 : decode cX0_pend 8 = .ok (.iload_n 1, 1) := by decide +kernel
theorem dX0_pend_9 : decode cX0_pend 9 = .ok (.baload, 1) := by decide +kernel
theorem dX0_pend_10 : decode cX0_pend 10 = .ok (.ifCond .eq 5, 3) := by decide +kernel
theorem dX0_pend_13 : decode cX0_pend 13 = .ok (.iconst 0, 1) := by decide +kernel
theorem dX0_pend_14 : decode cX0_pend 14 = .ok (.ireturn, 1) := by decide +kernel
theorem dX0_pend_15 : decode cX0_pend 15 = .ok (.aload_n 0, 1) := by decide +kernel
theorem dX0_pend_16 : decode cX0_pend 16 = .ok (.getfield 38, 3) := by decide +kernel
theorem dX0_pend_19 : decode cX0_pend 19 = .ok (.iload_n 1, 1) := by decide +kernel
theorem dX0_pend_20 : decode cX0_pend 20 = .ok (.iconst 1, 1) := by decide +kernel
theorem dX0_pend_21 : decode cX0_pend 21 = .ok (.bastore, 1) := by decide +kernel
theorem dX0_pend_22 : decode cX0_pend 22 = .ok (.aload_n 0, 1) := by decide +kernel
theorem dX0_pend_23 : decode cX0_pend 23 = .ok (.getfield 41, 3) := by decide +kernel
theorem dX0_pend_26 : decode cX0_pend 26 = .ok (.iload_n 2, 1) := by decide +kernel
theorem dX0_pend_27 : decode cX0_pend 27 = .ok (.iload_n 1, 1) := by decide +kernel
theorem dX0_pend_28 : decode cX0_pend 28 = .ok (.iastore, 1) := by decide +kernel
theorem dX0_pend_29 : decode cX0_pend 29 = .ok (.iconst 1, 1) := by decide +kernel
theorem dX0_pend_30 : decode cX0_pend 30 = .ok (.ireturn, 1) := by decide +kernel
theorem dX0_keepReached_0 : decode cX0_keepReached 0 = .ok (.aload_n 0, 1) := by decide +kernel
theorem dX0_keepReached_1 : decode cX0_keepReached 1 = .ok (.iconst 0, 1) := by decide +kernel
theorem dX0_keepReached_2 : decode cX0_keepReached 2 = .ok (.putfield 44, 3) := by decide +kernel
theorem dX0_keepReached_5 : decode cX0_keepReached 5 = .ok (.iconst 1, 1) := by decide +kernel
theorem dX0_keepReached_6 : decode cX0_keepReached 6 = .ok (.istore_n 1, 1) := by decide +kernel
theorem dX0_keepReached_7 : decode cX0_keepReached 7 = .ok (.iload_n 1, 1) := by decide +kernel
theorem dX0_keepReached_8 : decode cX0_keepReached 8 = .ok (.aload_n 0, 1) := by decide +kernel
theorem dX0_keepReached_9 : decode cX0_keepReached 9 = .ok (.getfield 9, 3) := by decide +kernel
theorem dX0_keepReached_12 : decode cX0_keepReached 12 = .ok (.if_icmp .gt 44, 3) := by decide +kernel
theorem dX0_keepReached_15 : decode cX0_keepReached 15 = .ok (.aload_n 0, 1) := by decide +kernel
theorem dX0_keepReached_16 : decode cX0_keepReached 16 = .ok (.getfield 34, 3) := by decide +kernel
theorem dX0_keepReached_19 : decode cX0_keepReached 19 = .ok (.iload_n 1, 1) := by decide +kernel
theorem dX0_keepReached_20 : decode cX0_keepReached 20 = .ok (.aload_n 0, 1) := by decide +kernel
theorem dX0_keepReached_21 : decode cX0_keepReached 21 = .ok (.getfield 38, 3) := by decide +kernel
theorem dX0_keepReached_24 : decode cX0_keepReached 24 = .ok (.iload_n 1, 1) := by decide +kernel
theorem dX0_keepReached_25 : decode cX0_keepReached 25 = .ok (.baload, 1) := by decide +kernel
theorem dX0_keepReached_26 : decode cX0_keepReached 26 = .ok (.bastore, 1) := by decide +kernel
theorem dX0_keepReached_27 : decode cX0_keepReached 27 = .ok (.aload_n 0, 1) := by decide +kernel
theorem dX0_keepReached_28 : decode cX0_keepReached 28 = .ok (.dup, 1) := by decide +kernel
theorem dX0_keepReached_29 : decode cX0_keepReached 29 = .ok (.getfield 44, 3) := by decide +kernel
theorem dX0_keepReached_32 : decode cX0_keepReached 32 = .ok (.aload_n 0, 1) := by decide +kernel
theorem dX0_keepReached_33 : decode cX0_keepReached 33 = .ok (.getfield 38, 3) := by decide +kernel
theorem dX0_keepReached_36 : decode cX0_keepReached 36 = .ok (.iload_n 1, 1) := by decide +kernel
theorem dX0_keepReached_37 : decode cX0_keepReached 37 = .ok (.baload, 1) := by decide +kernel
theorem dX0_keepReached_38 : decode cX0_keepReached 38 = .ok (.ifCond .eq 7, 3) := by decide +kernel
theorem dX0_keepReached_41 : decode cX0_keepReached 41 = .ok (.iconst 1, 1) := by decide +kernel
theorem dX0_keepReached_42 : decode cX0_keepReached 42 = .ok (.goto 4, 3) := by decide +kernel
theorem dX0_keepReached_45 : decode cX0_keepReached 45 = .ok (.iconst 0, 1) := by decide +kernel
theorem dX0_keepReached_46 : decode cX0_keepReached 46 = .ok (.iadd, 1) := by decide +kernel
theorem dX0_keepReached_47 : decode cX0_keepReached 47 = .ok (.putfield 44, 3) := by decide +kernel
theorem dX0_keepReached_50 : decode cX0_keepReached 50 = .ok (.iinc 1 1, 3) := by decide +kernel
theorem dX0_keepReached_53 : decode cX0_keepReached 53 = .ok (.goto (-46), 3) := by decide +kernel
theorem dX0_keepReached_56 : decode cX0_keepReached 56 = .ok (.return_, 1) := by decide +kernel
theorem dX0_sumReached_0 : decode cX0_sumReached 0 = .ok (.lconst 0, 1) := by decide +kernel
theorem dX0_sumReached_1 : decode cX0_sumReached 1 = .ok (.lstore_n 3, 1) := by decide +kernel
theorem dX0_sumReached_2 : decode cX0_sumReached 2 = .ok (.iconst 1, 1) := by decide +kernel
theorem dX0_sumReached_3 : decode cX0_sumReached 3 = .ok (.istore 5, 2) := by decide +kernel
theorem dX0_sumReached_5 : decode cX0_sumReached 5 = .ok (.iload 5, 2) := by decide +kernel
theorem dX0_sumReached_7 : decode cX0_sumReached 7 = .ok (.aload_n 0, 1) := by decide +kernel
theorem dX0_sumReached_8 : decode cX0_sumReached 8 = .ok (.getfield 9, 3) := by decide +kernel
theorem dX0_sumReached_11 : decode cX0_sumReached 11 = .ok (.if_icmp .gt 52, 3) := by decide +kernel
theorem dX0_sumReached_14 : decode cX0_sumReached 14 = .ok (.aload_n 0, 1) := by decide +kernel
theorem dX0_sumReached_15 : decode cX0_sumReached 15 = .ok (.getfield 38, 3) := by decide +kernel
theorem dX0_sumReached_18 : decode cX0_sumReached 18 = .ok (.iload 5, 2) := by decide +kernel
theorem dX0_sumReached_20 : decode cX0_sumReached 20 = .ok (.baload, 1) := by decide +kernel
theorem dX0_sumReached_21 : decode cX0_sumReached 21 = .ok (.ifCond .eq 36, 3) := by decide +kernel
theorem dX0_sumReached_24 : decode cX0_sumReached 24 = .ok (.aload_n 0, 1) := by decide +kernel
theorem dX0_sumReached_25 : decode cX0_sumReached 25 = .ok (.getfield 15, 3) := by decide +kernel
theorem dX0_sumReached_28 : decode cX0_sumReached 28 = .ok (.iload 5, 2) := by decide +kernel
theorem dX0_sumReached_30 : decode cX0_sumReached 30 = .ok (.iaload, 1) := by decide +kernel
theorem dX0_sumReached_31 : decode cX0_sumReached 31 = .ok (.iload_n 1, 1) := by decide +kernel
theorem dX0_sumReached_32 : decode cX0_sumReached 32 = .ok (.if_icmp .lt 25, 3) := by decide +kernel
theorem dX0_sumReached_35 : decode cX0_sumReached 35 = .ok (.aload_n 0, 1) := by decide +kernel
theorem dX0_sumReached_36 : decode cX0_sumReached 36 = .ok (.getfield 15, 3) := by decide +kernel
theorem dX0_sumReached_39 : decode cX0_sumReached 39 = .ok (.iload 5, 2) := by decide +kernel
theorem dX0_sumReached_41 : decode cX0_sumReached 41 = .ok (.iaload, 1) := by decide +kernel
theorem dX0_sumReached_42 : decode cX0_sumReached 42 = .ok (.iload_n 2, 1) := by decide +kernel
theorem dX0_sumReached_43 : decode cX0_sumReached 43 = .ok (.if_icmp .gt 14, 3) := by decide +kernel
theorem dX0_sumReached_46 : decode cX0_sumReached 46 = .ok (.lload_n 3, 1) := by decide +kernel
theorem dX0_sumReached_47 : decode cX0_sumReached 47 = .ok (.aload_n 0, 1) := by decide +kernel
theorem dX0_sumReached_48 : decode cX0_sumReached 48 = .ok (.getfield 19, 3) := by decide +kernel
theorem dX0_sumReached_51 : decode cX0_sumReached 51 = .ok (.iload 5, 2) := by decide +kernel
theorem dX0_sumReached_53 : decode cX0_sumReached 53 = .ok (.iaload, 1) := by decide +kernel
theorem dX0_sumReached_54 : decode cX0_sumReached 54 = .ok (.i2l, 1) := by decide +kernel
theorem dX0_sumReached_55 : decode cX0_sumReached 55 = .ok (.ladd, 1) := by decide +kernel
theorem dX0_sumReached_56 : decode cX0_sumReached 56 = .ok (.lstore_n 3, 1) := by decide +kernel
theorem dX0_sumReached_57 : decode cX0_sumReached 57 = .ok (.iinc 5 1, 3) := by decide +kernel
theorem dX0_sumReached_60 : decode cX0_sumReached 60 = .ok (.goto (-55), 3) := by decide +kernel
theorem dX0_sumReached_63 : decode cX0_sumReached 63 = .ok (.lload_n 3, 1) := by decide +kernel
theorem dX0_sumReached_64 : decode cX0_sumReached 64 = .ok (.lreturn, 1) := by decide +kernel
theorem dX0_nodeAt_0 : decode cX0_nodeAt 0 = .ok (.iload_n 1, 1) := by decide +kernel
theorem dX0_nodeAt_1 : decode cX0_nodeAt 1 = .ok (.istore_n 3, 1) := by decide +kernel
theorem dX0_nodeAt_2 : decode cX0_nodeAt 2 = .ok (.iload_n 2, 1) := by decide +kernel
theorem dX0_nodeAt_3 : decode cX0_nodeAt 3 = .ok (.istore 4, 2) := by decide +kernel
theorem dX0_nodeAt_5 : decode cX0_nodeAt 5 = .ok (.iconst 0, 1) := by decide +kernel
theorem dX0_nodeAt_6 : decode cX0_nodeAt 6 = .ok (.istore 5, 2) := by decide +kernel
theorem dX0_nodeAt_8 : decode cX0_nodeAt 8 = .ok (.iload 5, 2) := by decide +kernel
theorem dX0_nodeAt_10 : decode cX0_nodeAt 10 = .ok (.aload_n 0, 1) := by decide +kernel
theorem dX0_nodeAt_11 : decode cX0_nodeAt 11 = .ok (.getfield 9, 3) := by decide +kernel
theorem dX0_nodeAt_14 : decode cX0_nodeAt 14 = .ok (.if_icmp .ge 80, 3) := by decide +kernel
theorem dX0_nodeAt_17 : decode cX0_nodeAt 17 = .ok (.iload_n 3, 1) := by decide +kernel
theorem dX0_nodeAt_18 : decode cX0_nodeAt 18 = .ok (.ifCond .eq 76, 3) := by decide +kernel
theorem dX0_nodeAt_21 : decode cX0_nodeAt 21 = .ok (.iload 4, 2) := by decide +kernel
theorem dX0_nodeAt_23 : decode cX0_nodeAt 23 = .ok (.aload_n 0, 1) := by decide +kernel
theorem dX0_nodeAt_24 : decode cX0_nodeAt 24 = .ok (.getfield 31, 3) := by decide +kernel
theorem dX0_nodeAt_27 : decode cX0_nodeAt 27 = .ok (.aload_n 0, 1) := by decide +kernel
theorem dX0_nodeAt_28 : decode cX0_nodeAt 28 = .ok (.getfield 25, 3) := by decide +kernel
theorem dX0_nodeAt_31 : decode cX0_nodeAt 31 = .ok (.iload_n 3, 1) := by decide +kernel
theorem dX0_nodeAt_32 : decode cX0_nodeAt 32 = .ok (.iaload, 1) := by decide +kernel
theorem dX0_nodeAt_33 : decode cX0_nodeAt 33 = .ok (.iaload, 1) := by decide +kernel
theorem dX0_nodeAt_34 : decode cX0_nodeAt 34 = .ok (.if_icmp .eq 60, 3) := by decide +kernel
theorem dX0_nodeAt_37 : decode cX0_nodeAt 37 = .ok (.iload 4, 2) := by decide +kernel
theorem dX0_nodeAt_39 : decode cX0_nodeAt 39 = .ok (.aload_n 0, 1) := by decide +kernel
theorem dX0_nodeAt_40 : decode cX0_nodeAt 40 = .ok (.getfield 31, 3) := by decide +kernel
theorem dX0_nodeAt_43 : decode cX0_nodeAt 43 = .ok (.aload_n 0, 1) := by decide +kernel
theorem dX0_nodeAt_44 : decode cX0_nodeAt 44 = .ok (.getfield 25, 3) := by decide +kernel
theorem dX0_nodeAt_47 : decode cX0_nodeAt 47 = .ok (.iload_n 3, 1) := by decide +kernel
theorem dX0_nodeAt_48 : decode cX0_nodeAt 48 = .ok (.iaload, 1) := by decide +kernel
theorem dX0_nodeAt_49 : decode cX0_nodeAt 49 = .ok (.iaload, 1) := by decide +kernel
theorem dX0_nodeAt_50 : decode cX0_nodeAt 50 = .ok (.if_icmp .ge 13, 3) := by decide +kernel
theorem dX0_nodeAt_53 : decode cX0_nodeAt 53 = .ok (.aload_n 0, 1) := by decide +kernel
theorem dX0_nodeAt_54 : decode cX0_nodeAt 54 = .ok (.getfield 25, 3) := by decide +kernel
theorem dX0_nodeAt_57 : decode cX0_nodeAt 57 = .ok (.iload_n 3, 1) := by decide +kernel
theorem dX0_nodeAt_58 : decode cX0_nodeAt 58 = .ok (.iaload, 1) := by decide +kernel
theorem dX0_nodeAt_59 : decode cX0_nodeAt 59 = .ok (.istore_n 3, 1) := by decide +kernel
theorem dX0_nodeAt_60 : decode cX0_nodeAt 60 = .ok (.goto 28, 3) := by decide +kernel
theorem dX0_nodeAt_63 : decode cX0_nodeAt 63 = .ok (.iload 4, 2) := by decide +kernel
theorem dX0_nodeAt_65 : decode cX0_nodeAt 65 = .ok (.aload_n 0, 1) := by decide +kernel
theorem dX0_nodeAt_66 : decode cX0_nodeAt 66 = .ok (.getfield 31, 3) := by decide +kernel
theorem dX0_nodeAt_69 : decode cX0_nodeAt 69 = .ok (.aload_n 0, 1) := by decide +kernel
theorem dX0_nodeAt_70 : decode cX0_nodeAt 70 = .ok (.getfield 25, 3) := by decide +kernel
theorem dX0_nodeAt_73 : decode cX0_nodeAt 73 = .ok (.iload_n 3, 1) := by decide +kernel
theorem dX0_nodeAt_74 : decode cX0_nodeAt 74 = .ok (.iaload, 1) := by decide +kernel
theorem dX0_nodeAt_75 : decode cX0_nodeAt 75 = .ok (.iaload, 1) := by decide +kernel
theorem dX0_nodeAt_76 : decode cX0_nodeAt 76 = .ok (.iconst 1, 1) := by decide +kernel
theorem dX0_nodeAt_77 : decode cX0_nodeAt 77 = .ok (.iadd, 1) := by decide +kernel
theorem dX0_nodeAt_78 : decode cX0_nodeAt 78 = .ok (.isub, 1) := by decide +kernel
theorem dX0_nodeAt_79 : decode cX0_nodeAt 79 = .ok (.istore 4, 2) := by decide +kernel
theorem dX0_nodeAt_81 : decode cX0_nodeAt 81 = .ok (.aload_n 0, 1) := by decide +kernel
theorem dX0_nodeAt_82 : decode cX0_nodeAt 82 = .ok (.getfield 28, 3) := by decide +kernel
theorem dX0_nodeAt_85 : decode cX0_nodeAt 85 = .ok (.iload_n 3, 1) := by decide +kernel
theorem dX0_nodeAt_86 : decode cX0_nodeAt 86 = .ok (.iaload, 1) := by decide +kernel
theorem dX0_nodeAt_87 : decode cX0_nodeAt 87 = .ok (.istore_n 3, 1) := by decide +kernel
theorem dX0_nodeAt_88 : decode cX0_nodeAt 88 = .ok (.iinc 5 1, 3) := by decide +kernel
theorem dX0_nodeAt_91 : decode cX0_nodeAt 91 = .ok (.goto (-83), 3) := by decide +kernel
theorem dX0_nodeAt_94 : decode cX0_nodeAt 94 = .ok (.iload_n 3, 1) := by decide +kernel
theorem dX0_nodeAt_95 : decode cX0_nodeAt 95 = .ok (.ireturn, 1) := by decide +kernel
theorem dX0_floorNode_0 : decode cX0_floorNode 0 = .ok (.iload_n 1, 1) := by decide +kernel
theorem dX0_floorNode_1 : decode cX0_floorNode 1 = .ok (.istore_n 3, 1) := by decide +kernel
theorem dX0_floorNode_2 : decode cX0_floorNode 2 = .ok (.iconst 0, 1) := by decide +kernel
theorem dX0_floorNode_3 : decode cX0_floorNode 3 = .ok (.istore 4, 2) := by decide +kernel
theorem dX0_floorNode_5 : decode cX0_floorNode 5 = .ok (.iconst 0, 1) := by decide +kernel
theorem dX0_floorNode_6 : decode cX0_floorNode 6 = .ok (.istore 5, 2) := by decide +kernel
theorem dX0_floorNode_8 : decode cX0_floorNode 8 = .ok (.iload 5, 2) := by decide +kernel
theorem dX0_floorNode_10 : decode cX0_floorNode 10 = .ok (.aload_n 0, 1) := by decide +kernel
theorem dX0_floorNode_11 : decode cX0_floorNode 11 = .ok (.getfield 9, 3) := by decide +kernel
theorem dX0_floorNode_14 : decode cX0_floorNode 14 = .ok (.if_icmp .ge 43, 3) := by decide +kernel
theorem dX0_floorNode_17 : decode cX0_floorNode 17 = .ok (.iload_n 3, 1) := by decide +kernel
theorem dX0_floorNode_18 : decode cX0_floorNode 18 = .ok (.ifCond .eq 39, 3) := by decide +kernel
theorem dX0_floorNode_21 : decode cX0_floorNode 21 = .ok (.aload_n 0, 1) := by decide +kernel
theorem dX0_floorNode_22 : decode cX0_floorNode 22 = .ok (.getfield 15, 3) := by decide +kernel
theorem dX0_floorNode_25 : decode cX0_floorNode 25 = .ok (.iload_n 3, 1) := by decide +kernel
theorem dX0_floorNode_26 : decode cX0_floorNode 26 = .ok (.iaload, 1) := by decide +kernel
theorem dX0_floorNode_27 : decode cX0_floorNode 27 = .ok (.iload_n 2, 1) := by decide +kernel
theorem dX0_floorNode_28 : decode cX0_floorNode 28 = .ok (.if_icmp .gt 16, 3) := by decide +kernel
theorem dX0_floorNode_31 : decode cX0_floorNode 31 = .ok (.iload_n 3, 1) := by decide +kernel
theorem dX0_floorNode_32 : decode cX0_floorNode 32 = .ok (.istore 4, 2) := by decide +kernel
theorem dX0_floorNode_34 : decode cX0_floorNode 34 = .ok (.aload_n 0, 1) := by decide +kernel
theorem dX0_floorNode_35 : decode cX0_floorNode 35 = .ok (.getfield 28, 3) := by decide +kernel
theorem dX0_floorNode_38 : decode cX0_floorNode 38 = .ok (.iload_n 3, 1) := by decide +kernel
theorem dX0_floorNode_39 : decode cX0_floorNode 39 = .ok (.iaload, 1) := by decide +kernel
theorem dX0_floorNode_40 : decode cX0_floorNode 40 = .ok (.istore_n 3, 1) := by decide +kernel
theorem dX0_floorNode_41 : decode cX0_floorNode 41 = .ok (.goto 10, 3) := by decide +kernel
theorem dX0_floorNode_44 : decode cX0_floorNode 44 = .ok (.aload_n 0, 1) := by decide +kernel
theorem dX0_floorNode_45 : decode cX0_floorNode 45 = .ok (.getfield 25, 3) := by decide +kernel
theorem dX0_floorNode_48 : decode cX0_floorNode 48 = .ok (.iload_n 3, 1) := by decide +kernel
theorem dX0_floorNode_49 : decode cX0_floorNode 49 = .ok (.iaload, 1) := by decide +kernel
theorem dX0_floorNode_50 : decode cX0_floorNode 50 = .ok (.istore_n 3, 1) := by decide +kernel
theorem dX0_floorNode_51 : decode cX0_floorNode 51 = .ok (.iinc 5 1, 3) := by decide +kernel
theorem dX0_floorNode_54 : decode cX0_floorNode 54 = .ok (.goto (-46), 3) := by decide +kernel
theorem dX0_floorNode_57 : decode cX0_floorNode 57 = .ok (.iload 4, 2) := by decide +kernel
theorem dX0_floorNode_59 : decode cX0_floorNode 59 = .ok (.ireturn, 1) := by decide +kernel
theorem dX1_init_0 : decode cX1_init 0 = .ok (.aload_n 0, 1) := by decide +kernel
theorem dX1_init_1 : decode cX1_init 1 = .ok (.invokespecial 3, 3) := by decide +kernel
theorem dX1_init_4 : decode cX1_init 4 = .ok (.aload_n 0, 1) := by decide +kernel
theorem dX1_init_5 : decode cX1_init 5 = .ok (.aload_n 1, 1) := by decide +kernel
theorem dX1_init_6 : decode cX1_init 6 = .ok (.putfield 9, 3) := by decide +kernel
theorem dX1_init_9 : decode cX1_init 9 = .ok (.aload_n 0, 1) := by decide +kernel
theorem dX1_init_10 : decode cX1_init 10 = .ok (.aload_n 1, 1) := by decide +kernel
theorem dX1_init_11 : decode cX1_init 11 = .ok (.getfield 15, 3) := by decide +kernel
theorem dX1_init_14 : decode cX1_init 14 = .ok (.newarray .int, 2) := by decide +kernel
theorem dX1_init_16 : decode cX1_init 16 = .ok (.putfield 21, 3) := by decide +kernel
theorem dX1_init_19 : decode cX1_init 19 = .ok (.return_, 1) := by decide +kernel
theorem dX1_noteTo_0 : decode cX1_noteTo 0 = .ok (.aload_n 0, 1) := by decide +kernel
theorem dX1_noteTo_1 : decode cX1_noteTo 1 = .ok (.iconst 0, 1) := by decide +kernel
theorem dX1_noteTo_2 : decode cX1_noteTo 2 = .ok (.putfield 25, 3) := by decide +kernel
theorem dX1_noteTo_5 : decode cX1_noteTo 5 = .ok (.iload_n 1, 1) := by decide +kernel
theorem dX1_noteTo_6 : decode cX1_noteTo 6 = .ok (.istore_n 3, 1) := by decide +kernel
theorem dX1_noteTo_7 : decode cX1_noteTo 7 = .ok (.aload_n 0, 1) := by decide +kernel
theorem dX1_noteTo_8 : decode cX1_noteTo 8 = .ok (.getfield 25, 3) := by decide +kernel
theorem dX1_noteTo_11 : decode cX1_noteTo 11 = .ok (.aload_n 0, 1) := by decide +kernel
theorem dX1_noteTo_12 : decode cX1_noteTo 12 = .ok (.getfield 21, 3) := by decide +kernel
theorem dX1_noteTo_15 : decode cX1_noteTo 15 = .ok (.arraylength, 1) := by decide +kernel
theorem dX1_noteTo_16 : decode cX1_noteTo 16 = .ok (.if_icmp .ge 78, 3) := by decide +kernel
theorem dX1_noteTo_19 : decode cX1_noteTo 19 = .ok (.iload_n 3, 1) := by decide +kernel
theorem dX1_noteTo_20 : decode cX1_noteTo 20 = .ok (.ifCond .eq 74, 3) := by decide +kernel
theorem dX1_noteTo_23 : decode cX1_noteTo 23 = .ok (.aload_n 0, 1) := by decide +kernel
theorem dX1_noteTo_24 : decode cX1_noteTo 24 = .ok (.getfield 9, 3) := by decide +kernel
theorem dX1_noteTo_27 : decode cX1_noteTo 27 = .ok (.getfield 28, 3) := by decide +kernel
theorem dX1_noteTo_30 : decode cX1_noteTo 30 = .ok (.iload_n 3, 1) := by decide +kernel
theorem dX1_noteTo_31 : decode cX1_noteTo 31 = .ok (.iaload, 1) := by decide +kernel
theorem dX1_noteTo_32 : decode cX1_noteTo 32 = .ok (.iload_n 2, 1) := by decide +kernel
theorem dX1_noteTo_33 : decode cX1_noteTo 33 = .ok (.if_icmp .eq 61, 3) := by decide +kernel
theorem dX1_noteTo_36 : decode cX1_noteTo 36 = .ok (.aload_n 0, 1) := by decide +kernel
theorem dX1_noteTo_37 : decode cX1_noteTo 37 = .ok (.getfield 21, 3) := by decide +kernel
theorem dX1_noteTo_40 : decode cX1_noteTo 40 = .ok (.aload_n 0, 1) := by decide +kernel
theorem dX1_noteTo_41 : decode cX1_noteTo 41 = .ok (.getfield 25, 3) := by decide +kernel
theorem dX1_noteTo_44 : decode cX1_noteTo 44 = .ok (.iload_n 3, 1) := by decide +kernel
theorem dX1_noteTo_45 : decode cX1_noteTo 45 = .ok (.iastore, 1) := by decide +kernel
theorem dX1_noteTo_46 : decode cX1_noteTo 46 = .ok (.aload_n 0, 1) := by decide +kernel
theorem dX1_noteTo_47 : decode cX1_noteTo 47 = .ok (.dup, 1) := by decide +kernel
theorem dX1_noteTo_48 : decode cX1_noteTo 48 = .ok (.getfield 25, 3) := by decide +kernel
theorem dX1_noteTo_51 : decode cX1_noteTo 51 = .ok (.iconst 1, 1) := by decide +kernel
theorem dX1_noteTo_52 : decode cX1_noteTo 52 = .ok (.iadd, 1) := by decide +kernel
theorem dX1_noteTo_53 : decode cX1_noteTo 53 = .ok (.putfield 25, 3) := by decide +kernel
theorem dX1_noteTo_56 : decode cX1_noteTo 56 = .ok (.aload_n 0, 1) := by decide +kernel
theorem dX1_noteTo_57 : decode cX1_noteTo 57 = .ok (.getfield 9, 3) := by decide +kernel
theorem dX1_noteTo_60 : decode cX1_noteTo 60 = .ok (.getfield 28, 3) := by decide +kernel
theorem dX1_noteTo_63 : decode cX1_noteTo 63 = .ok (.iload_n 3, 1) := by decide +kernel
theorem dX1_noteTo_64 : decode cX1_noteTo 64 = .ok (.iaload, 1) := by decide +kernel
theorem dX1_noteTo_65 : decode cX1_noteTo 65 = .ok (.iload_n 2, 1) := by decide +kernel
theorem dX1_noteTo_66 : decode cX1_noteTo 66 = .ok (.if_icmp .ge 15, 3) := by decide +kernel
theorem dX1_noteTo_69 : decode cX1_noteTo 69 = .ok (.aload_n 0, 1) := by decide +kernel
theorem dX1_noteTo_70 : decode cX1_noteTo 70 = .ok (.getfield 9, 3) := by decide +kernel
theorem dX1_noteTo_73 : decode cX1_noteTo 73 = .ok (.getfield 31, 3) := by decide +kernel
theorem dX1_noteTo_76 : decode cX1_noteTo 76 = .ok (.iload_n 3, 1) := by decide +kernel
theorem dX1_noteTo_77 : decode cX1_noteTo 77 = .ok (.iaload, 1) := by decide +kernel
theorem dX1_noteTo_78 : decode cX1_noteTo 78 = .ok (.goto 12, 3) := by decide +kernel
theorem dX1_noteTo_81 : decode cX1_noteTo 81 = .ok (.aload_n 0, 1) := by decide +kernel
theorem dX1_noteTo_82 : decode cX1_noteTo 82 = .ok (.getfield 9, 3) := by decide +kernel
theorem dX1_noteTo_85 : decode cX1_noteTo 85 = .ok (.getfield 34, 3) := by decide +kernel
theorem dX1_noteTo_88 : decode cX1_noteTo 88 = .ok (.iload_n 3, 1) := by decide +kernel
theorem dX1_noteTo_89 : decode cX1_noteTo 89 = .ok (.iaload, 1) := by decide +kernel
theorem dX1_noteTo_90 : decode cX1_noteTo 90 = .ok (.istore_n 3, 1) := by decide +kernel
theorem dX1_noteTo_91 : decode cX1_noteTo 91 = .ok (.goto (-84), 3) := by decide +kernel
theorem dX1_noteTo_94 : decode cX1_noteTo 94 = .ok (.iload_n 3, 1) := by decide +kernel
theorem dX1_noteTo_95 : decode cX1_noteTo 95 = .ok (.ireturn, 1) := by decide +kernel
theorem dX1_noteLesser_0 : decode cX1_noteLesser 0 = .ok (.aload_n 0, 1) := by decide +kernel
theorem dX1_noteLesser_1 : decode cX1_noteLesser 1 = .ok (.iconst 0, 1) := by decide +kernel
theorem dX1_noteLesser_2 : decode cX1_noteLesser 2 = .ok (.putfield 25, 3) := by decide +kernel
theorem dX1_noteLesser_5 : decode cX1_noteLesser 5 = .ok (.iload_n 1, 1) := by decide +kernel
theorem dX1_noteLesser_6 : decode cX1_noteLesser 6 = .ok (.istore_n 3, 1) := by decide +kernel
theorem dX1_noteLesser_7 : decode cX1_noteLesser 7 = .ok (.iconst 0, 1) := by decide +kernel
theorem dX1_noteLesser_8 : decode cX1_noteLesser 8 = .ok (.istore 4, 2) := by decide +kernel
theorem dX1_noteLesser_10 : decode cX1_noteLesser 10 = .ok (.iload 4, 2) := by decide +kernel
theorem dX1_noteLesser_12 : decode cX1_noteLesser 12 = .ok (.aload_n 0, 1) := by decide +kernel
theorem dX1_noteLesser_13 : decode cX1_noteLesser 13 = .ok (.getfield 21, 3) := by decide +kernel
theorem dX1_noteLesser_16 : decode cX1_noteLesser 16 = .ok (.arraylength, 1) := by decide +kernel
theorem dX1_noteLesser_17 : decode cX1_noteLesser 17 = .ok (.if_icmp .ge 69, 3) := by decide +kernel
theorem dX1_noteLesser_20 : decode cX1_noteLesser 20 = .ok (.iload_n 3, 1) := by decide +kernel
theorem dX1_noteLesser_21 : decode cX1_noteLesser 21 = .ok (.ifCond .eq 65, 3) := by decide +kernel
theorem dX1_noteLesser_24 : decode cX1_noteLesser 24 = .ok (.aload_n 0, 1) := by decide +kernel
theorem dX1_noteLesser_25 : decode cX1_noteLesser 25 = .ok (.getfield 9, 3) := by decide +kernel
theorem dX1_noteLesser_28 : decode cX1_noteLesser 28 = .ok (.getfield 28, 3) := by decide +kernel
theorem dX1_noteLesser_31 : decode cX1_noteLesser 31 = .ok (.iload_n 3, 1) := by decide +kernel
theorem dX1_noteLesser_32 : decode cX1_noteLesser 32 = .ok (.iaload, 1) := by decide +kernel
theorem dX1_noteLesser_33 : decode cX1_noteLesser 33 = .ok (.iload_n 2, 1) := by decide +kernel
theorem dX1_noteLesser_34 : decode cX1_noteLesser 34 = .ok (.if_icmp .ge 36, 3) := by decide +kernel
theorem dX1_noteLesser_37 : decode cX1_noteLesser 37 = .ok (.aload_n 0, 1) := by decide +kernel
theorem dX1_noteLesser_38 : decode cX1_noteLesser 38 = .ok (.getfield 21, 3) := by decide +kernel
theorem dX1_noteLesser_41 : decode cX1_noteLesser 41 = .ok (.aload_n 0, 1) := by decide +kernel
theorem dX1_noteLesser_42 : decode cX1_noteLesser 42 = .ok (.getfield 25, 3) := by decide +kernel
theorem dX1_noteLesser_45 : decode cX1_noteLesser 45 = .ok (.iload_n 3, 1) := by decide +kernel
theorem dX1_noteLesser_46 : decode cX1_noteLesser 46 = .ok (.iastore, 1) := by decide +kernel
theorem dX1_noteLesser_47 : decode cX1_noteLesser 47 = .ok (.aload_n 0, 1) := by decide +kernel
theorem dX1_noteLesser_48 : decode cX1_noteLesser 48 = .ok (.dup, 1) := by decide +kernel
theorem dX1_noteLesser_49 : decode cX1_noteLesser 49 = .ok (.getfield 25, 3) := by decide +kernel
theorem dX1_noteLesser_52 : decode cX1_noteLesser 52 = .ok (.iconst 1, 1) := by decide +kernel
theorem dX1_noteLesser_53 : decode cX1_noteLesser 53 = .ok (.iadd, 1) := by decide +kernel
theorem dX1_noteLesser_54 : decode cX1_noteLesser 54 = .ok (.putfield 25, 3) := by decide +kernel
theorem dX1_noteLesser_57 : decode cX1_noteLesser 57 = .ok (.aload_n 0, 1) := by decide +kernel
theorem dX1_noteLesser_58 : decode cX1_noteLesser 58 = .ok (.getfield 9, 3) := by decide +kernel
theorem dX1_noteLesser_61 : decode cX1_noteLesser 61 = .ok (.getfield 31, 3) := by decide +kernel
theorem dX1_noteLesser_64 : decode cX1_noteLesser 64 = .ok (.iload_n 3, 1) := by decide +kernel
theorem dX1_noteLesser_65 : decode cX1_noteLesser 65 = .ok (.iaload, 1) := by decide +kernel
theorem dX1_noteLesser_66 : decode cX1_noteLesser 66 = .ok (.istore_n 3, 1) := by decide +kernel
theorem dX1_noteLesser_67 : decode cX1_noteLesser 67 = .ok (.goto 13, 3) := by decide +kernel
theorem dX1_noteLesser_70 : decode cX1_noteLesser 70 = .ok (.aload_n 0, 1) := by decide +kernel
theorem dX1_noteLesser_71 : decode cX1_noteLesser 71 = .ok (.getfield 9, 3) := by decide +kernel
theorem dX1_noteLesser_74 : decode cX1_noteLesser 74 = .ok (.getfield 34, 3) := by decide +kernel
theorem dX1_noteLesser_77 : decode cX1_noteLesser 77 = .ok (.iload_n 3, 1) := by decide +kernel
theorem dX1_noteLesser_78 : decode cX1_noteLesser 78 = .ok (.iaload, 1) := by decide +kernel
theorem dX1_noteLesser_79 : decode cX1_noteLesser 79 = .ok (.istore_n 3, 1) := by decide +kernel
theorem dX1_noteLesser_80 : decode cX1_noteLesser 80 = .ok (.iinc 4 1, 3) := by decide +kernel
theorem dX1_noteLesser_83 : decode cX1_noteLesser 83 = .ok (.goto (-73), 3) := by decide +kernel
theorem dX1_noteLesser_86 : decode cX1_noteLesser 86 = .ok (.return_, 1) := by decide +kernel
set_option maxRecDepth 20000 in
theorem ggX1_noteRemoval_X1_noteTo : GoodIn wsX1_noteRemoval wsX1_noteTo := goodIn_r _ [9, 1, 10, 2, 11, 4, 3, 24, 25, 26, 27, 28, 29, 30, 31, 32, 33, 34, 35, 36, 37] (by decide +kernel) (by decide +kernel)
set_option maxRecDepth 20000 in
theorem gX1_noteRemoval_X1_noteTo : GoodIn wsX1_noteRemoval (wsV RX1 37 RX1 yX1_noteTo wsX1_noteTo) := goodIn_app (goodIn_of _ (by decide +kernel)) ggX1_noteRemoval_X1_noteTo
set_option maxRecDepth 20000 in
theorem ggX1_noteRemoval_X1_noteJoint : GoodIn wsX1_noteRemoval wsX1_noteJoint := goodIn_r _ [15, 1, 10, 2, 16, 11, 4, 3, 17, 18, 19, 20, 21, 22, 23, 24, 25, 26, 27, 28, 29, 30, 31, 32, 33, 34, 35, 36, 37] (by decide +kernel) (by decide +kernel)
set_option maxRecDepth 20000 in
theorem gX1_noteRemoval_X1_noteJoint : GoodIn wsX1_noteRemoval (wsV RX1 41 RX1 yX1_noteJoint wsX1_noteJoint) := goodIn_app (goodIn_of _ (by decide +kernel)) ggX1_noteRemoval_X1_noteJoint
theorem dX1_noteRemoval_0 : decode cX1_noteRemoval 0 = .ok (.aload_n 0, 1) := by decide +kernel
theorem dX1_noteRemoval_1 : decode cX1_noteRemoval 1 = .ok (.iload_n 1, 1) := by decide +kernel
theorem dX1_noteRemoval_2 : decode cX1_noteRemoval 2 = .ok (.iload_n 2, 1) := by decide +kernel
theorem dX1_noteRemoval_3 : decode cX1_noteRemoval 3 = .ok (.invokevirtual 37, 3) := by decide +kernel
theorem dX1_noteRemoval_6 : decode cX1_noteRemoval 6 = .ok (.istore_n 3, 1) := by decide +kernel
theorem dX1_noteRemoval_7 : decode cX1_noteRemoval 7 = .ok (.iload_n 3, 1) := by decide +kernel
theorem dX1_noteRemoval_8 : decode cX1_noteRemoval 8 = .ok (.ifCond .ne 10, 3) := by decide +kernel
theorem dX1_noteRemoval_11 : decode cX1_noteRemoval 11 = .ok (.aload_n 0, 1) := by decide +kernel
theorem dX1_noteRemoval_12 : decode cX1_noteRemoval 12 = .ok (.iconst 0, 1) := by decide +kernel
theorem dX1_noteRemoval_13 : decode cX1_noteRemoval 13 = .ok (.putfield 25, 3) := by decide +kernel
theorem dX1_noteRemoval_16 : decode cX1_noteRemoval 16 = .ok (.iload_n 1, 1) := by decide +kernel
theorem dX1_noteRemoval_17 : decode cX1_noteRemoval 17 = .ok (.ireturn, 1) := by decide +kernel
theorem dX1_noteRemoval_18 : decode cX1_noteRemoval 18 = .ok (.aload_n 0, 1) := by decide +kernel
theorem dX1_noteRemoval_19 : decode cX1_noteRemoval 19 = .ok (.aload_n 0, 1) := by decide +kernel
theorem dX1_noteRemoval_20 : decode cX1_noteRemoval 20 = .ok (.getfield 9, 3) := by decide +kernel
theorem dX1_noteRemoval_23 : decode cX1_noteRemoval 23 = .ok (.getfield 34, 3) := by decide +kernel
theorem dX1_noteRemoval_26 : decode cX1_noteRemoval 26 = .ok (.iload_n 3, 1) := by decide +kernel
theorem dX1_noteRemoval_27 : decode cX1_noteRemoval 27 = .ok (.iaload, 1) := by decide +kernel
theorem dX1_noteRemoval_28 : decode cX1_noteRemoval 28 = .ok (.aload_n 0, 1) := by decide +kernel
theorem dX1_noteRemoval_29 : decode cX1_noteRemoval 29 = .ok (.getfield 9, 3) := by decide +kernel
theorem dX1_noteRemoval_32 : decode cX1_noteRemoval 32 = .ok (.getfield 31, 3) := by decide +kernel
theorem dX1_noteRemoval_35 : decode cX1_noteRemoval 35 = .ok (.iload_n 3, 1) := by decide +kernel
theorem dX1_noteRemoval_36 : decode cX1_noteRemoval 36 = .ok (.iaload, 1) := by decide +kernel
theorem dX1_noteRemoval_37 : decode cX1_noteRemoval 37 = .ok (.invokevirtual 41, 3) := by decide +kernel
theorem dX1_noteRemoval_40 : decode cX1_noteRemoval 40 = .ok (.ireturn, 1) := by decide +kernel
set_option maxRecDepth 20000 in
theorem ggX1_noteJoint_X0_goesAbove : GoodIn wsX1_noteJoint wsX0_goesAbove := goodIn_r _ [12, 13, 14, 18, 19, 20, 21, 22, 23, 24, 25, 26, 27, 28] (by decide +kernel) (by decide +kernel)
set_option maxRecDepth 20000 in
theorem gX1_noteJoint_X0_goesAbove : GoodIn wsX1_noteJoint (wsV RX1 47 RX0 yX0_goesAbove wsX0_goesAbove) := goodIn_app (goodIn_of _ (by decide +kernel)) ggX1_noteJoint_X0_goesAbove
theorem dX1_noteJoint_0 : decode cX1_noteJoint 0 = .ok (.iload_n 1, 1) := by decide +kernel
theorem dX1_noteJoint_1 : decode cX1_noteJoint 1 = .ok (.istore_n 3, 1) := by decide +kernel
theorem dX1_noteJoint_2 : decode cX1_noteJoint 2 = .ok (.iload_n 2, 1) := by decide +kernel
theorem dX1_noteJoint_3 : decode cX1_noteJoint 3 = .ok (.istore 4, 2) := by decide +kernel
theorem dX1_noteJoint_5 : decode cX1_noteJoint 5 = .ok (.aload_n 0, 1) := by decide +kernel
theorem dX1_noteJoint_6 : decode cX1_noteJoint 6 = .ok (.getfield 25, 3) := by decide +kernel
theorem dX1_noteJoint_9 : decode cX1_noteJoint 9 = .ok (.aload_n 0, 1) := by decide +kernel
theorem dX1_noteJoint_10 : decode cX1_noteJoint 10 = .ok (.getfield 21, 3) := by decide +kernel
theorem dX1_noteJoint_13 : decode cX1_noteJoint 13 = .ok (.arraylength, 1) := by decide +kernel
theorem dX1_noteJoint_14 : decode cX1_noteJoint 14 = .ok (.if_icmp .ge 102, 3) := by decide +kernel
theorem dX1_noteJoint_17 : decode cX1_noteJoint 17 = .ok (.iload_n 3, 1) := by decide +kernel
theorem dX1_noteJoint_18 : decode cX1_noteJoint 18 = .ok (.ifCond .eq 98, 3) := by decide +kernel
theorem dX1_noteJoint_21 : decode cX1_noteJoint 21 = .ok (.iload 4, 2) := by decide +kernel
theorem dX1_noteJoint_23 : decode cX1_noteJoint 23 = .ok (.ifCond .eq 93, 3) := by decide +kernel
theorem dX1_noteJoint_26 : decode cX1_noteJoint 26 = .ok (.aload_n 0, 1) := by decide +kernel
theorem dX1_noteJoint_27 : decode cX1_noteJoint 27 = .ok (.getfield 9, 3) := by decide +kernel
theorem dX1_noteJoint_30 : decode cX1_noteJoint 30 = .ok (.iload_n 3, 1) := by decide +kernel
theorem dX1_noteJoint_31 : decode cX1_noteJoint 31 = .ok (.aload_n 0, 1) := by decide +kernel
theorem dX1_noteJoint_32 : decode cX1_noteJoint 32 = .ok (.getfield 9, 3) := by decide +kernel
theorem dX1_noteJoint_35 : decode cX1_noteJoint 35 = .ok (.getfield 44, 3) := by decide +kernel
theorem dX1_noteJoint_38 : decode cX1_noteJoint 38 = .ok (.iload 4, 2) := by decide +kernel
theorem dX1_noteJoint_40 : decode cX1_noteJoint 40 = .ok (.iaload, 1) := by decide +kernel
theorem dX1_noteJoint_41 : decode cX1_noteJoint 41 = .ok (.aload_n 0, 1) := by decide +kernel
theorem dX1_noteJoint_42 : decode cX1_noteJoint 42 = .ok (.getfield 9, 3) := by decide +kernel
theorem dX1_noteJoint_45 : decode cX1_noteJoint 45 = .ok (.getfield 28, 3) := by decide +kernel
theorem dX1_noteJoint_48 : decode cX1_noteJoint 48 = .ok (.iload 4, 2) := by decide +kernel
theorem dX1_noteJoint_50 : decode cX1_noteJoint 50 = .ok (.iaload, 1) := by decide +kernel
theorem dX1_noteJoint_51 : decode cX1_noteJoint 51 = .ok (.invokevirtual 47, 3) := by decide +kernel
theorem dX1_noteJoint_54 : decode cX1_noteJoint 54 = .ok (.ifCond .eq 26, 3) := by decide +kernel
theorem dX1_noteJoint_57 : decode cX1_noteJoint 57 = .ok (.aload_n 0, 1) := by decide +kernel
theorem dX1_noteJoint_58 : decode cX1_noteJoint 58 = .ok (.getfield 21, 3) := by decide +kernel
theorem dX1_noteJoint_61 : decode cX1_noteJoint 61 = .ok (.aload_n 0, 1) := by decide +kernel
theorem dX1_noteJoint_62 : decode cX1_noteJoint 62 = .ok (.getfield 25, 3) := by decide +kernel
theorem dX1_noteJoint_65 : decode cX1_noteJoint 65 = .ok (.iload_n 3, 1) := by decide +kernel
theorem dX1_noteJoint_66 : decode cX1_noteJoint 66 = .ok (.iastore, 1) := by decide +kernel
theorem dX1_noteJoint_67 : decode cX1_noteJoint 67 = .ok (.aload_n 0, 1) := by decide +kernel
theorem dX1_noteJoint_68 : decode cX1_noteJoint 68 = .ok (.getfield 9, 3) := by decide +kernel
theorem dX1_noteJoint_71 : decode cX1_noteJoint 71 = .ok (.getfield 31, 3) := by decide +kernel
theorem dX1_noteJoint_74 : decode cX1_noteJoint 74 = .ok (.iload_n 3, 1) := by decide +kernel
theorem dX1_noteJoint_75 : decode cX1_noteJoint 75 = .ok (.iaload, 1) := by decide +kernel
theorem dX1_noteJoint_76 : decode cX1_noteJoint 76 = .ok (.istore_n 3, 1) := by decide +kernel
theorem dX1_noteJoint_77 : decode cX1_noteJoint 77 = .ok (.goto 26, 3) := by decide +kernel
theorem dX1_noteJoint_80 : decode cX1_noteJoint 80 = .ok (.aload_n 0, 1) := by decide +kernel
theorem dX1_noteJoint_81 : decode cX1_noteJoint 81 = .ok (.getfield 21, 3) := by decide +kernel
theorem dX1_noteJoint_84 : decode cX1_noteJoint 84 = .ok (.aload_n 0, 1) := by decide +kernel
theorem dX1_noteJoint_85 : decode cX1_noteJoint 85 = .ok (.getfield 25, 3) := by decide +kernel
theorem dX1_noteJoint_88 : decode cX1_noteJoint 88 = .ok (.iload 4, 2) := by decide +kernel
theorem dX1_noteJoint_90 : decode cX1_noteJoint 90 = .ok (.iastore, 1) := by decide +kernel
theorem dX1_noteJoint_91 : decode cX1_noteJoint 91 = .ok (.aload_n 0, 1) := by decide +kernel
theorem dX1_noteJoint_92 : decode cX1_noteJoint 92 = .ok (.getfield 9, 3) := by decide +kernel
theorem dX1_noteJoint_95 : decode cX1_noteJoint 95 = .ok (.getfield 34, 3) := by decide +kernel
theorem dX1_noteJoint_98 : decode cX1_noteJoint 98 = .ok (.iload 4, 2) := by decide +kernel
theorem dX1_noteJoint_100 : decode cX1_noteJoint 100 = .ok (.iaload, 1) := by decide +kernel
theorem dX1_noteJoint_101 : decode cX1_noteJoint 101 = .ok (.istore 4, 2) := by decide +kernel
theorem dX1_noteJoint_103 : decode cX1_noteJoint 103 = .ok (.aload_n 0, 1) := by decide +kernel
theorem dX1_noteJoint_104 : decode cX1_noteJoint 104 = .ok (.dup, 1) := by decide +kernel
theorem dX1_noteJoint_105 : decode cX1_noteJoint 105 = .ok (.getfield 25, 3) := by decide +kernel
theorem dX1_noteJoint_108 : decode cX1_noteJoint 108 = .ok (.iconst 1, 1) := by decide +kernel
theorem dX1_noteJoint_109 : decode cX1_noteJoint 109 = .ok (.iadd, 1) := by decide +kernel
theorem dX1_noteJoint_110 : decode cX1_noteJoint 110 = .ok (.putfield 25, 3) := by decide +kernel
theorem dX1_noteJoint_113 : decode cX1_noteJoint 113 = .ok (.goto (-108), 3) := by decide +kernel
theorem dX1_noteJoint_116 : decode cX1_noteJoint 116 = .ok (.iload_n 3, 1) := by decide +kernel
theorem dX1_noteJoint_117 : decode cX1_noteJoint 117 = .ok (.ifCond .ne 8, 3) := by decide +kernel
theorem dX1_noteJoint_120 : decode cX1_noteJoint 120 = .ok (.iload 4, 2) := by decide +kernel
theorem dX1_noteJoint_122 : decode cX1_noteJoint 122 = .ok (.goto 4, 3) := by decide +kernel
theorem dX1_noteJoint_125 : decode cX1_noteJoint 125 = .ok (.iload_n 3, 1) := by decide +kernel
theorem dX1_noteJoint_126 : decode cX1_noteJoint 126 = .ok (.ireturn, 1) := by decide +kernel
set_option maxRecDepth 20000 in
theorem ggX1_placeNew_X0_goesAbove : GoodIn wsX1_placeNew wsX0_goesAbove := goodIn_r _ [11, 12, 13, 37, 38, 39, 40, 41, 42, 43, 44, 45, 46, 47] (by decide +kernel) (by decide +kernel)
set_option maxRecDepth 20000 in
theorem gX1_placeNew_X0_goesAbove : GoodIn wsX1_placeNew (wsV RX1 47 RX0 yX0_goesAbove wsX0_goesAbove) := goodIn_app (goodIn_of _ (by decide +kernel)) ggX1_placeNew_X0_goesAbove
set_option maxRecDepth 20000 in
theorem ggX1_placeNew_X0_copy : GoodIn wsX1_placeNew wsX0_copy := goodIn_r _ [17, 13, 18, 12, 19, 20, 21, 10, 22, 23, 24, 25, 26, 27, 28, 29, 30, 31, 32, 37, 38, 39, 40, 41, 42, 43, 44, 45, 46, 47] (by decide +kernel) (by decide +kernel)
set_option maxRecDepth 20000 in
theorem gX1_placeNew_X0_copy : GoodIn wsX1_placeNew (wsV RX1 51 RX0 yX0_copy wsX0_copy) := goodIn_app (goodIn_of _ (by decide +kernel)) ggX1_placeNew_X0_copy
set_option maxRecDepth 20000 in
theorem ggX1_placeNew_X0_fresh : GoodIn wsX1_placeNew wsX0_fresh := goodIn_r _ [22, 23, 24, 13, 18, 12, 25, 26, 27, 28, 29, 30, 10, 31, 32, 37, 38, 39, 40, 41, 42, 43, 44, 45, 46, 47] (by decide +kernel) (by decide +kernel)
set_option maxRecDepth 20000 in
theorem gX1_placeNew_X0_fresh : GoodIn wsX1_placeNew (wsV RX1 55 RX0 yX0_fresh wsX0_fresh) := goodIn_app (goodIn_of _ (by decide +kernel)) ggX1_placeNew_X0_fresh
theorem dX1_placeNew_0 : decode cX1_placeNew 0 = .ok (.iconst 0, 1) := by decide +kernel
theorem dX1_placeNew_1 : decode cX1_placeNew 1 = .ok (.istore 4, 2) := by decide +kernel
theorem dX1_placeNew_3 : decode cX1_placeNew 3 = .ok (.iconst 0, 1) := by decide +kernel
theorem dX1_placeNew_4 : decode cX1_placeNew 4 = .ok (.istore 5, 2) := by decide +kernel
theorem dX1_placeNew_6 : decode cX1_placeNew 6 = .ok (.aload_n 0, 1) := by decide +kernel
theorem dX1_placeNew_7 : decode cX1_placeNew 7 = .ok (.getfield 25, 3) := by decide +kernel
theorem dX1_placeNew_10 : decode cX1_placeNew 10 = .ok (.ifCond .le 113, 3) := by decide +kernel
theorem dX1_placeNew_13 : decode cX1_placeNew 13 = .ok (.aload_n 0, 1) := by decide +kernel
theorem dX1_placeNew_14 : decode cX1_placeNew 14 = .ok (.getfield 9, 3) := by decide +kernel
theorem dX1_placeNew_17 : decode cX1_placeNew 17 = .ok (.aload_n 0, 1) := by decide +kernel
theorem dX1_placeNew_18 : decode cX1_placeNew 18 = .ok (.getfield 21, 3) := by decide +kernel
theorem dX1_placeNew_21 : decode cX1_placeNew 21 = .ok (.aload_n 0, 1) := by decide +kernel
theorem dX1_placeNew_22 : decode cX1_placeNew 22 = .ok (.getfield 25, 3) := by decide +kernel
theorem dX1_placeNew_25 : decode cX1_placeNew 25 = .ok (.iconst 1, 1) := by decide +kernel
theorem dX1_placeNew_26 : decode cX1_placeNew 26 = .ok (.isub, 1) := by decide +kernel
theorem dX1_placeNew_27 : decode cX1_placeNew 27 = .ok (.iaload, 1) := by decide +kernel
theorem dX1_placeNew_28 : decode cX1_placeNew 28 = .ok (.iload_n 3, 1) := by decide +kernel
theorem dX1_placeNew_29 : decode cX1_placeNew 29 = .ok (.iload_n 1, 1) := by decide +kernel
theorem dX1_placeNew_30 : decode cX1_placeNew 30 = .ok (.invokevirtual 47, 3) := by decide +kernel
theorem dX1_placeNew_33 : decode cX1_placeNew 33 = .ok (.ifCond .ne 90, 3) := by decide +kernel
theorem dX1_placeNew_36 : decode cX1_placeNew 36 = .ok (.aload_n 0, 1) := by decide +kernel
theorem dX1_placeNew_37 : decode cX1_placeNew 37 = .ok (.dup, 1) := by decide +kernel
theorem dX1_placeNew_38 : decode cX1_placeNew 38 = .ok (.getfield 25, 3) := by decide +kernel
theorem dX1_placeNew_41 : decode cX1_placeNew 41 = .ok (.iconst 1, 1) := by decide +kernel
theorem dX1_placeNew_42 : decode cX1_placeNew 42 = .ok (.isub, 1) := by decide +kernel
theorem dX1_placeNew_43 : decode cX1_placeNew 43 = .ok (.putfield 25, 3) := by decide +kernel
theorem dX1_placeNew_46 : decode cX1_placeNew 46 = .ok (.aload_n 0, 1) := by decide +kernel
theorem dX1_placeNew_47 : decode cX1_placeNew 47 = .ok (.getfield 21, 3) := by decide +kernel
theorem dX1_placeNew_50 : decode cX1_placeNew 50 = .ok (.aload_n 0, 1) := by decide +kernel
theorem dX1_placeNew_51 : decode cX1_placeNew 51 = .ok (.getfield 25, 3) := by decide +kernel
theorem dX1_placeNew_54 : decode cX1_placeNew 54 = .ok (.iaload, 1) := by decide +kernel
theorem dX1_placeNew_55 : decode cX1_placeNew 55 = .ok (.istore 6, 2) := by decide +kernel
theorem dX1_placeNew_57 : decode cX1_placeNew 57 = .ok (.aload_n 0, 1) := by decide +kernel
theorem dX1_placeNew_58 : decode cX1_placeNew 58 = .ok (.getfield 9, 3) := by decide +kernel
theorem dX1_placeNew_61 : decode cX1_placeNew 61 = .ok (.getfield 28, 3) := by decide +kernel
theorem dX1_placeNew_64 : decode cX1_placeNew 64 = .ok (.iload 6, 2) := by decide +kernel
theorem dX1_placeNew_66 : decode cX1_placeNew 66 = .ok (.iaload, 1) := by decide +kernel
theorem dX1_placeNew_67 : decode cX1_placeNew 67 = .ok (.iload_n 1, 1) := by decide +kernel
theorem dX1_placeNew_68 : decode cX1_placeNew 68 = .ok (.if_icmp .ge 29, 3) := by decide +kernel
theorem dX1_placeNew_71 : decode cX1_placeNew 71 = .ok (.aload_n 0, 1) := by decide +kernel
theorem dX1_placeNew_72 : decode cX1_placeNew 72 = .ok (.getfield 9, 3) := by decide +kernel
theorem dX1_placeNew_75 : decode cX1_placeNew 75 = .ok (.iload 6, 2) := by decide +kernel
theorem dX1_placeNew_77 : decode cX1_placeNew 77 = .ok (.aload_n 0, 1) := by decide +kernel
theorem dX1_placeNew_78 : decode cX1_placeNew 78 = .ok (.getfield 9, 3) := by decide +kernel
theorem dX1_placeNew_81 : decode cX1_placeNew 81 = .ok (.getfield 34, 3) := by decide +kernel
theorem dX1_placeNew_84 : decode cX1_placeNew 84 = .ok (.iload 6, 2) := by decide +kernel
theorem dX1_placeNew_86 : decode cX1_placeNew 86 = .ok (.iaload, 1) := by decide +kernel
theorem dX1_placeNew_87 : decode cX1_placeNew 87 = .ok (.iload 4, 2) := by decide +kernel
theorem dX1_placeNew_89 : decode cX1_placeNew 89 = .ok (.invokevirtual 51, 3) := by decide +kernel
theorem dX1_placeNew_92 : decode cX1_placeNew 92 = .ok (.istore 4, 2) := by decide +kernel
theorem dX1_placeNew_94 : decode cX1_placeNew 94 = .ok (.goto 26, 3) := by decide +kernel
theorem dX1_placeNew_97 : decode cX1_placeNew 97 = .ok (.aload_n 0, 1) := by decide +kernel
theorem dX1_placeNew_98 : decode cX1_placeNew 98 = .ok (.getfield 9, 3) := by decide +kernel
theorem dX1_placeNew_101 : decode cX1_placeNew 101 = .ok (.iload 6, 2) := by decide +kernel
theorem dX1_placeNew_103 : decode cX1_placeNew 103 = .ok (.iload 5, 2) := by decide +kernel
theorem dX1_placeNew_105 : decode cX1_placeNew 105 = .ok (.aload_n 0, 1) := by decide +kernel
theorem dX1_placeNew_106 : decode cX1_placeNew 106 = .ok (.getfield 9, 3) := by decide +kernel
theorem dX1_placeNew_109 : decode cX1_placeNew 109 = .ok (.getfield 31, 3) := by decide +kernel
theorem dX1_placeNew_112 : decode cX1_placeNew 112 = .ok (.iload 6, 2) := by decide +kernel
theorem dX1_placeNew_114 : decode cX1_placeNew 114 = .ok (.iaload, 1) := by decide +kernel
theorem dX1_placeNew_115 : decode cX1_placeNew 115 = .ok (.invokevirtual 51, 3) := by decide +kernel
theorem dX1_placeNew_118 : decode cX1_placeNew 118 = .ok (.istore 5, 2) := by decide +kernel
theorem dX1_placeNew_120 : decode cX1_placeNew 120 = .ok (.goto (-114), 3) := by decide +kernel
theorem dX1_placeNew_123 : decode cX1_placeNew 123 = .ok (.aload_n 0, 1) := by decide +kernel
theorem dX1_placeNew_124 : decode cX1_placeNew 124 = .ok (.getfield 9, 3) := by decide +kernel
theorem dX1_placeNew_127 : decode cX1_placeNew 127 = .ok (.iload_n 1, 1) := by decide +kernel
theorem dX1_placeNew_128 : decode cX1_placeNew 128 = .ok (.iload_n 2, 1) := by decide +kernel
theorem dX1_placeNew_129 : decode cX1_placeNew 129 = .ok (.iload_n 3, 1) := by decide +kernel
theorem dX1_placeNew_130 : decode cX1_placeNew 130 = .ok (.iload 4, 2) := by decide +kernel
theorem dX1_placeNew_132 : decode cX1_placeNew 132 = .ok (.iload 5, 2) := by decide +kernel
theorem dX1_placeNew_134 : decode cX1_placeNew 134 = .ok (.invokevirtual 55, 3) := by decide +kernel
theorem dX1_placeNew_137 : decode cX1_placeNew 137 = .ok (.ireturn, 1) := by decide +kernel
set_option maxRecDepth 20000 in
theorem ggX1_copyOver_X0_copy : GoodIn wsX1_copyOver wsX0_copy := goodIn_r _ [11, 12, 13, 14, 15, 16, 17, 10, 18, 19, 20, 21, 22, 23, 24, 25, 26, 27, 28, 32, 33, 34, 35, 36, 37, 38, 39, 40, 41, 42] (by decide +kernel) (by decide +kernel)
set_option maxRecDepth 20000 in
theorem gX1_copyOver_X0_copy : GoodIn wsX1_copyOver (wsV RX1 51 RX0 yX0_copy wsX0_copy) := goodIn_app (goodIn_of _ (by decide +kernel)) ggX1_copyOver_X0_copy
theorem dX1_copyOver_0 : decode cX1_copyOver 0 = .ok (.iload_n 1, 1) := by decide +kernel
theorem dX1_copyOver_1 : decode cX1_copyOver 1 = .ok (.istore_n 3, 1) := by decide +kernel
theorem dX1_copyOver_2 : decode cX1_copyOver 2 = .ok (.aload_n 0, 1) := by decide +kernel
theorem dX1_copyOver_3 : decode cX1_copyOver 3 = .ok (.getfield 25, 3) := by decide +kernel
theorem dX1_copyOver_6 : decode cX1_copyOver 6 = .ok (.ifCond .le 85, 3) := by decide +kernel
theorem dX1_copyOver_9 : decode cX1_copyOver 9 = .ok (.aload_n 0, 1) := by decide +kernel
theorem dX1_copyOver_10 : decode cX1_copyOver 10 = .ok (.dup, 1) := by decide +kernel
theorem dX1_copyOver_11 : decode cX1_copyOver 11 = .ok (.getfield 25, 3) := by decide +kernel
theorem dX1_copyOver_14 : decode cX1_copyOver 14 = .ok (.iconst 1, 1) := by decide +kernel
theorem dX1_copyOver_15 : decode cX1_copyOver 15 = .ok (.isub, 1) := by decide +kernel
theorem dX1_copyOver_16 : decode cX1_copyOver 16 = .ok (.putfield 25, 3) := by decide +kernel
theorem dX1_copyOver_19 : decode cX1_copyOver 19 = .ok (.aload_n 0, 1) := by decide +kernel
theorem dX1_copyOver_20 : decode cX1_copyOver 20 = .ok (.getfield 21, 3) := by decide +kernel
theorem dX1_copyOver_23 : decode cX1_copyOver 23 = .ok (.aload_n 0, 1) := by decide +kernel
theorem dX1_copyOver_24 : decode cX1_copyOver 24 = .ok (.getfield 25, 3) := by decide +kernel
theorem dX1_copyOver_27 : decode cX1_copyOver 27 = .ok (.iaload, 1) := by decide +kernel
theorem dX1_copyOver_28 : decode cX1_copyOver 28 = .ok (.istore 4, 2) := by decide +kernel
theorem dX1_copyOver_30 : decode cX1_copyOver 30 = .ok (.aload_n 0, 1) := by decide +kernel
theorem dX1_copyOver_31 : decode cX1_copyOver 31 = .ok (.getfield 9, 3) := by decide +kernel
theorem dX1_copyOver_34 : decode cX1_copyOver 34 = .ok (.getfield 28, 3) := by decide +kernel
theorem dX1_copyOver_37 : decode cX1_copyOver 37 = .ok (.iload 4, 2) := by decide +kernel
theorem dX1_copyOver_39 : decode cX1_copyOver 39 = .ok (.iaload, 1) := by decide +kernel
theorem dX1_copyOver_40 : decode cX1_copyOver 40 = .ok (.iload_n 2, 1) := by decide +kernel
theorem dX1_copyOver_41 : decode cX1_copyOver 41 = .ok (.if_icmp .ge 26, 3) := by decide +kernel
theorem dX1_copyOver_44 : decode cX1_copyOver 44 = .ok (.aload_n 0, 1) := by decide +kernel
theorem dX1_copyOver_45 : decode cX1_copyOver 45 = .ok (.getfield 9, 3) := by decide +kernel
theorem dX1_copyOver_48 : decode cX1_copyOver 48 = .ok (.iload 4, 2) := by decide +kernel
theorem dX1_copyOver_50 : decode cX1_copyOver 50 = .ok (.aload_n 0, 1) := by decide +kernel
theorem dX1_copyOver_51 : decode cX1_copyOver 51 = .ok (.getfield 9, 3) := by decide +kernel
theorem dX1_copyOver_54 : decode cX1_copyOver 54 = .ok (.getfield 34, 3) := by decide +kernel
theorem dX1_copyOver_57 : decode cX1_copyOver 57 = .ok (.iload 4, 2) := by decide +kernel
theorem dX1_copyOver_59 : decode cX1_copyOver 59 = .ok (.iaload, 1) := by decide +kernel
theorem dX1_copyOver_60 : decode cX1_copyOver 60 = .ok (.iload_n 3, 1) := by decide +kernel
theorem dX1_copyOver_61 : decode cX1_copyOver 61 = .ok (.invokevirtual 51, 3) := by decide +kernel
theorem dX1_copyOver_64 : decode cX1_copyOver 64 = .ok (.goto 23, 3) := by decide +kernel
theorem dX1_copyOver_67 : decode cX1_copyOver 67 = .ok (.aload_n 0, 1) := by decide +kernel
theorem dX1_copyOver_68 : decode cX1_copyOver 68 = .ok (.getfield 9, 3) := by decide +kernel
theorem dX1_copyOver_71 : decode cX1_copyOver 71 = .ok (.iload 4, 2) := by decide +kernel
theorem dX1_copyOver_73 : decode cX1_copyOver 73 = .ok (.iload_n 3, 1) := by decide +kernel
theorem dX1_copyOver_74 : decode cX1_copyOver 74 = .ok (.aload_n 0, 1) := by decide +kernel
theorem dX1_copyOver_75 : decode cX1_copyOver 75 = .ok (.getfield 9, 3) := by decide +kernel
theorem dX1_copyOver_78 : decode cX1_copyOver 78 = .ok (.getfield 31, 3) := by decide +kernel
theorem dX1_copyOver_81 : decode cX1_copyOver 81 = .ok (.iload 4, 2) := by decide +kernel
theorem dX1_copyOver_83 : decode cX1_copyOver 83 = .ok (.iaload, 1) := by decide +kernel
theorem dX1_copyOver_84 : decode cX1_copyOver 84 = .ok (.invokevirtual 51, 3) := by decide +kernel
theorem dX1_copyOver_87 : decode cX1_copyOver 87 = .ok (.istore_n 3, 1) := by decide +kernel
theorem dX1_copyOver_88 : decode cX1_copyOver 88 = .ok (.goto (-86), 3) := by decide +kernel
theorem dX1_copyOver_91 : decode cX1_copyOver 91 = .ok (.iload_n 3, 1) := by decide +kernel
theorem dX1_copyOver_92 : decode cX1_copyOver 92 = .ok (.ireturn, 1) := by decide +kernel
set_option maxRecDepth 20000 in
theorem ggX2_init_X0_init : GoodIn wsX2_init wsX0_init := goodIn_r _ [19, 20, 2, 3, 21, 14, 22, 23, 24, 25, 26, 27, 12, 28, 29, 30, 38, 39, 40, 41, 42, 43, 44, 45, 46, 47, 48] (by decide +kernel) (by decide +kernel)
set_option maxRecDepth 20000 in
theorem gX2_init_X0_init : GoodIn wsX2_init (wsX0_init) := ggX2_init_X0_init
set_option maxRecDepth 20000 in
theorem ggX2_init_X1_init : GoodIn wsX2_init wsX1_init := goodIn_r _ [33, 34, 2, 3, 35, 36, 14, 37, 55, 56, 57, 38, 39, 40, 41, 42, 43, 44, 45, 46, 47, 48] (by decide +kernel) (by decide +kernel)
set_option maxRecDepth 20000 in
theorem gX2_init_X1_init : GoodIn wsX2_init (wsX1_init) := ggX2_init_X1_init
theorem dX2_init_0 : decode cX2_init 0 = .ok (.aload_n 0, 1) := by decide +kernel
theorem dX2_init_1 : decode cX2_init 1 = .ok (.invokespecial 1, 3) := by decide +kernel
theorem dX2_init_4 : decode cX2_init 4 = .ok (.iload_n 1, 1) := by decide +kernel
theorem dX2_init_5 : decode cX2_init 5 = .ok (.iconst 1, 1) := by decide +kernel
theorem dX2_init_6 : decode cX2_init 6 = .ok (.if_icmp .lt 13, 3) := by decide +kernel
theorem dX2_init_9 : decode cX2_init 9 = .ok (.iload_n 1, 1) := by decide +kernel
theorem dX2_init_10 : decode cX2_init 10 = .ok (.bipush 40, 2) := by decide +kernel
theorem dX2_init_12 : decode cX2_init 12 = .ok (.if_icmp .gt 7, 3) := by decide +kernel
theorem dX2_init_15 : decode cX2_init 15 = .ok (.iload_n 1, 1) := by decide +kernel
theorem dX2_init_16 : decode cX2_init 16 = .ok (.goto 5, 3) := by decide +kernel
theorem dX2_init_19 : decode cX2_init 19 = .ok (.bipush 20, 2) := by decide +kernel
theorem dX2_init_21 : decode cX2_init 21 = .ok (.istore 4, 2) := by decide +kernel
theorem dX2_init_23 : decode cX2_init 23 = .ok (.iload_n 2, 1) := by decide +kernel
theorem dX2_init_24 : decode cX2_init 24 = .ok (.iconst 1, 1) := by decide +kernel
theorem dX2_init_25 : decode cX2_init 25 = .ok (.if_icmp .lt 13, 3) := by decide +kernel
theorem dX2_init_28 : decode cX2_init 28 = .ok (.iload_n 2, 1) := by decide +kernel
theorem dX2_init_29 : decode cX2_init 29 = .ok (.bipush 8, 2) := by decide +kernel
theorem dX2_init_31 : decode cX2_init 31 = .ok (.if_icmp .gt 7, 3) := by decide +kernel
theorem dX2_init_34 : decode cX2_init 34 = .ok (.iload_n 2, 1) := by decide +kernel
theorem dX2_init_35 : decode cX2_init 35 = .ok (.goto 4, 3) := by decide +kernel
theorem dX2_init_38 : decode cX2_init 38 = .ok (.iconst 4, 1) := by decide +kernel
theorem dX2_init_39 : decode cX2_init 39 = .ok (.istore 5, 2) := by decide +kernel
theorem dX2_init_41 : decode cX2_init 41 = .ok (.new 9, 3) := by decide +kernel
theorem dX2_init_44 : decode cX2_init 44 = .ok (.dup, 1) := by decide +kernel
theorem dX2_init_45 : decode cX2_init 45 = .ok (.iload 4, 2) := by decide +kernel
theorem dX2_init_47 : decode cX2_init 47 = .ok (.invokespecial 11, 3) := by decide +kernel
theorem dX2_init_50 : decode cX2_init 50 = .ok (.astore 6, 2) := by decide +kernel
theorem dX2_init_52 : decode cX2_init 52 = .ok (.aload_n 0, 1) := by decide +kernel
theorem dX2_init_53 : decode cX2_init 53 = .ok (.aload 6, 2) := by decide +kernel
theorem dX2_init_55 : decode cX2_init 55 = .ok (.putfield 14, 3) := by decide +kernel
theorem dX2_init_58 : decode cX2_init 58 = .ok (.aload_n 0, 1) := by decide +kernel
theorem dX2_init_59 : decode cX2_init 59 = .ok (.new 18, 3) := by decide +kernel
theorem dX2_init_62 : decode cX2_init 62 = .ok (.dup, 1) := by decide +kernel
theorem dX2_init_63 : decode cX2_init 63 = .ok (.aload 6, 2) := by decide +kernel
theorem dX2_init_65 : decode cX2_init 65 = .ok (.invokespecial 20, 3) := by decide +kernel
theorem dX2_init_68 : decode cX2_init 68 = .ok (.putfield 23, 3) := by decide +kernel
theorem dX2_init_71 : decode cX2_init 71 = .ok (.aload_n 0, 1) := by decide +kernel
theorem dX2_init_72 : decode cX2_init 72 = .ok (.iload 5, 2) := by decide +kernel
theorem dX2_init_74 : decode cX2_init 74 = .ok (.newarray .boolean, 2) := by decide +kernel
theorem dX2_init_76 : decode cX2_init 76 = .ok (.putfield 27, 3) := by decide +kernel
theorem dX2_init_79 : decode cX2_init 79 = .ok (.aload_n 0, 1) := by decide +kernel
theorem dX2_init_80 : decode cX2_init 80 = .ok (.iload 5, 2) := by decide +kernel
theorem dX2_init_82 : decode cX2_init 82 = .ok (.newarray .int, 2) := by decide +kernel
theorem dX2_init_84 : decode cX2_init 84 = .ok (.putfield 31, 3) := by decide +kernel
theorem dX2_init_87 : decode cX2_init 87 = .ok (.aload_n 0, 1) := by decide +kernel
theorem dX2_init_88 : decode cX2_init 88 = .ok (.getfield 27, 3) := by decide +kernel
theorem dX2_init_91 : decode cX2_init 91 = .ok (.iconst 0, 1) := by decide +kernel
theorem dX2_init_92 : decode cX2_init 92 = .ok (.iconst 1, 1) := by decide +kernel
theorem dX2_init_93 : decode cX2_init 93 = .ok (.bastore, 1) := by decide +kernel
theorem dX2_init_94 : decode cX2_init 94 = .ok (.aload_n 0, 1) := by decide +kernel
theorem dX2_init_95 : decode cX2_init 95 = .ok (.iload_n 3, 1) := by decide +kernel
theorem dX2_init_96 : decode cX2_init 96 = .ok (.putfield 35, 3) := by decide +kernel
theorem dX2_init_99 : decode cX2_init 99 = .ok (.return_, 1) := by decide +kernel
set_option maxRecDepth 20000 in
theorem ggX2_put_X2_isLive : GoodIn wsX2_put wsX2_isLive := goodIn_r _ [12, 13, 106, 107, 108, 109, 110, 111] (by decide +kernel) (by decide +kernel)
set_option maxRecDepth 20000 in
theorem gX2_put_X2_isLive : GoodIn wsX2_put (wsV RX2 39 RX2 yX2_isLive wsX2_isLive) := goodIn_app (goodIn_of _ (by decide +kernel)) ggX2_put_X2_isLive
set_option maxRecDepth 20000 in
theorem ggX2_put_X1_noteTo : GoodIn wsX2_put wsX1_noteTo := goodIn_r _ [18, 19, 20, 21, 22, 23, 24, 112, 113, 114, 115, 116, 117, 118, 119, 120, 121, 122, 123, 124, 125] (by decide +kernel) (by decide +kernel)
set_option maxRecDepth 20000 in
theorem gX2_put_X1_noteTo : GoodIn wsX2_put (wsV RX2 43 RX1 yX1_noteTo wsX1_noteTo) := goodIn_app (goodIn_of _ (by decide +kernel)) ggX2_put_X1_noteTo
set_option maxRecDepth 20000 in
theorem ggX2_put_X2_handleFor : GoodIn wsX2_put wsX2_handleFor := goodIn_r _ [28, 13, 29, 30, 31, 11, 32, 4, 33, 34, 35, 36, 37, 38, 39, 40, 41, 42, 43, 44, 2, 45, 46, 47, 48, 49, 50, 51, 52, 53, 54, 55, 56, 57, 58, 59, 60, 61, 62, 63, 64, 65, 106, 107, 108, 109, 110, 111, 115, 116, 117, 118, 119, 120, 121, 122, 123, 124, 125] (by decide +kernel) (by decide +kernel)
set_option maxRecDepth 20000 in
theorem gX2_put_X2_handleFor : GoodIn wsX2_put (wsV RX2 50 RX2 yX2_handleFor wsX2_handleFor) := goodIn_app (goodIn_of _ (by decide +kernel)) ggX2_put_X2_handleFor
set_option maxRecDepth 20000 in
theorem ggX2_put_X2_drawWeight : GoodIn wsX2_put wsX2_drawWeight := goodIn_r _ [69, 70, 71, 106, 107, 108, 109, 110, 111] (by decide +kernel) (by decide +kernel)
set_option maxRecDepth 20000 in
theorem gX2_put_X2_drawWeight : GoodIn wsX2_put (wsV RX2 54 RX2 yX2_drawWeight wsX2_drawWeight) := goodIn_app (goodIn_of _ (by decide +kernel)) ggX2_put_X2_drawWeight
set_option maxRecDepth 20000 in
theorem ggX2_put_X1_placeNew : GoodIn wsX2_put wsX1_placeNew := goodIn_r _ [75, 19, 21, 20, 22, 24, 23, 76, 77, 78, 37, 79, 80, 81, 82, 83, 84, 85, 86, 87, 88, 89, 90, 65, 39, 55, 56, 91, 92, 93, 94, 95, 40, 96, 112, 113, 114, 115, 116, 117, 118, 119, 120, 121, 122, 123, 124, 125] (by decide +kernel) (by decide +kernel)
set_option maxRecDepth 20000 in
theorem gX2_put_X1_placeNew : GoodIn wsX2_put (wsV RX2 58 RX1 yX1_placeNew wsX1_placeNew) := goodIn_app (goodIn_of _ (by decide +kernel)) ggX2_put_X1_placeNew
set_option maxRecDepth 20000 in
theorem ggX2_put_X0_fresh : GoodIn wsX2_put wsX0_fresh := goodIn_r _ [90, 65, 39, 81, 86, 80, 55, 56, 91, 92, 93, 94, 37, 95, 40, 115, 116, 117, 118, 119, 120, 121, 122, 123, 124, 125] (by decide +kernel) (by decide +kernel)
set_option maxRecDepth 20000 in
theorem gX2_put_X0_fresh : GoodIn wsX2_put (wsV RX2 71 RX0 yX0_fresh wsX0_fresh) := goodIn_app (goodIn_of _ (by decide +kernel)) ggX2_put_X0_fresh
set_option maxRecDepth 20000 in
theorem ggX2_put_X1_copyOver : GoodIn wsX2_put wsX1_copyOver := goodIn_r _ [101, 19, 20, 21, 22, 24, 23, 82, 83, 84, 37, 85, 81, 86, 80, 87, 88, 89, 90, 65, 39, 55, 56, 91, 92, 93, 94, 95, 40, 112, 113, 114, 115, 116, 117, 118, 119, 120, 121, 122, 123, 124, 125] (by decide +kernel) (by decide +kernel)
set_option maxRecDepth 20000 in
theorem gX2_put_X1_copyOver : GoodIn wsX2_put (wsV RX2 75 RX1 yX1_copyOver wsX1_copyOver) := goodIn_app (goodIn_of _ (by decide +kernel)) ggX2_put_X1_copyOver
set_option maxRecDepth 20000 in
theorem ggX2_put_X2_open : GoodIn wsX2_put wsX2_open := goodIn_r _ [105, 13, 2, 106, 107, 108, 109, 110, 111] (by decide +kernel) (by decide +kernel)
set_option maxRecDepth 20000 in
theorem gX2_put_X2_open : GoodIn wsX2_put (wsV RX2 78 RX2 yX2_open wsX2_open) := goodIn_app (goodIn_of _ (by decide +kernel)) ggX2_put_X2_open
theorem dX2_put_0 : decode cX2_put 0 = .ok (.aload_n 0, 1) := by decide +kernel
theorem dX2_put_1 : decode cX2_put 1 = .ok (.iload_n 1, 1) := by decide +kernel
theorem dX2_put_2 : decode cX2_put 2 = .ok (.invokevirtual 39, 3) := by decide +kernel
theorem dX2_put_5 : decode cX2_put 5 = .ok (.ifCond .ne 5, 3) := by decide +kernel
theorem dX2_put_8 : decode cX2_put 8 = .ok (.iconst (-1), 1) := by decide +kernel
theorem dX2_put_9 : decode cX2_put 9 = .ok (.ireturn, 1) := by decide +kernel
theorem dX2_put_10 : decode cX2_put 10 = .ok (.aload_n 0, 1) := by decide +kernel
theorem dX2_put_11 : decode cX2_put 11 = .ok (.getfield 23, 3) := by decide +kernel
theorem dX2_put_14 : decode cX2_put 14 = .ok (.aload_n 0, 1) := by decide +kernel
theorem dX2_put_15 : decode cX2_put 15 = .ok (.getfield 31, 3) := by decide +kernel
theorem dX2_put_18 : decode cX2_put 18 = .ok (.iload_n 1, 1) := by decide +kernel
theorem dX2_put_19 : decode cX2_put 19 = .ok (.iaload, 1) := by decide +kernel
theorem dX2_put_20 : decode cX2_put 20 = .ok (.iload_n 2, 1) := by decide +kernel
theorem dX2_put_21 : decode cX2_put 21 = .ok (.invokevirtual 43, 3) := by decide +kernel
theorem dX2_put_24 : decode cX2_put 24 = .ok (.istore 4, 2) := by decide +kernel
theorem dX2_put_26 : decode cX2_put 26 = .ok (.aload_n 0, 1) := by decide +kernel
theorem dX2_put_27 : decode cX2_put 27 = .ok (.aload_n 0, 1) := by decide +kernel
theorem dX2_put_28 : decode cX2_put 28 = .ok (.getfield 23, 3) := by decide +kernel
theorem dX2_put_31 : decode cX2_put 31 = .ok (.getfield 47, 3) := by decide +kernel
theorem dX2_put_34 : decode cX2_put 34 = .ok (.iconst 1, 1) := by decide +kernel
theorem dX2_put_35 : decode cX2_put 35 = .ok (.iadd, 1) := by decide +kernel
theorem dX2_put_36 : decode cX2_put 36 = .ok (.invokevirtual 50, 3) := by decide +kernel
theorem dX2_put_39 : decode cX2_put 39 = .ok (.istore 5, 2) := by decide +kernel
theorem dX2_put_41 : decode cX2_put 41 = .ok (.iload 5, 2) := by decide +kernel
theorem dX2_put_43 : decode cX2_put 43 = .ok (.ifCond .ge 6, 3) := by decide +kernel
theorem dX2_put_46 : decode cX2_put 46 = .ok (.iload 5, 2) := by decide +kernel
theorem dX2_put_48 : decode cX2_put 48 = .ok (.ireturn, 1) := by decide +kernel
theorem dX2_put_49 : decode cX2_put 49 = .ok (.iload 4, 2) := by decide +kernel
theorem dX2_put_51 : decode cX2_put 51 = .ok (.ifCond .ne 19, 3) := by decide +kernel
theorem dX2_put_54 : decode cX2_put 54 = .ok (.aload_n 0, 1) := by decide +kernel
theorem dX2_put_55 : decode cX2_put 55 = .ok (.getfield 23, 3) := by decide +kernel
theorem dX2_put_58 : decode cX2_put 58 = .ok (.iload_n 2, 1) := by decide +kernel
theorem dX2_put_59 : decode cX2_put 59 = .ok (.iload_n 3, 1) := by decide +kernel
theorem dX2_put_60 : decode cX2_put 60 = .ok (.aload_n 0, 1) := by decide +kernel
theorem dX2_put_61 : decode cX2_put 61 = .ok (.invokevirtual 54, 3) := by decide +kernel
theorem dX2_put_64 : decode cX2_put 64 = .ok (.invokevirtual 58, 3) := by decide +kernel
theorem dX2_put_67 : decode cX2_put 67 = .ok (.goto 42, 3) := by decide +kernel
theorem dX2_put_70 : decode cX2_put 70 = .ok (.aload_n 0, 1) := by decide +kernel
theorem dX2_put_71 : decode cX2_put 71 = .ok (.getfield 14, 3) := by decide +kernel
theorem dX2_put_74 : decode cX2_put 74 = .ok (.iload_n 2, 1) := by decide +kernel
theorem dX2_put_75 : decode cX2_put 75 = .ok (.iload_n 3, 1) := by decide +kernel
theorem dX2_put_76 : decode cX2_put 76 = .ok (.aload_n 0, 1) := by decide +kernel
theorem dX2_put_77 : decode cX2_put 77 = .ok (.getfield 14, 3) := by decide +kernel
theorem dX2_put_80 : decode cX2_put 80 = .ok (.getfield 62, 3) := by decide +kernel
theorem dX2_put_83 : decode cX2_put 83 = .ok (.iload 4, 2) := by decide +kernel
theorem dX2_put_85 : decode cX2_put 85 = .ok (.iaload, 1) := by decide +kernel
theorem dX2_put_86 : decode cX2_put 86 = .ok (.aload_n 0, 1) := by decide +kernel
theorem dX2_put_87 : decode cX2_put 87 = .ok (.getfield 14, 3) := by decide +kernel
theorem dX2_put_90 : decode cX2_put 90 = .ok (.getfield 65, 3) := by decide +kernel
theorem dX2_put_93 : decode cX2_put 93 = .ok (.iload 4, 2) := by decide +kernel
theorem dX2_put_95 : decode cX2_put 95 = .ok (.iaload, 1) := by decide +kernel
theorem dX2_put_96 : decode cX2_put 96 = .ok (.aload_n 0, 1) := by decide +kernel
theorem dX2_put_97 : decode cX2_put 97 = .ok (.getfield 14, 3) := by decide +kernel
theorem dX2_put_100 : decode cX2_put 100 = .ok (.getfield 68, 3) := by decide +kernel
theorem dX2_put_103 : decode cX2_put 103 = .ok (.iload 4, 2) := by decide +kernel
theorem dX2_put_105 : decode cX2_put 105 = .ok (.iaload, 1) := by decide +kernel
theorem dX2_put_106 : decode cX2_put 106 = .ok (.invokevirtual 71, 3) := by decide +kernel
theorem dX2_put_109 : decode cX2_put 109 = .ok (.istore 6, 2) := by decide +kernel
theorem dX2_put_111 : decode cX2_put 111 = .ok (.aload_n 0, 1) := by decide +kernel
theorem dX2_put_112 : decode cX2_put 112 = .ok (.iload 5, 2) := by decide +kernel
theorem dX2_put_114 : decode cX2_put 114 = .ok (.aload_n 0, 1) := by decide +kernel
theorem dX2_put_115 : decode cX2_put 115 = .ok (.getfield 23, 3) := by decide +kernel
theorem dX2_put_118 : decode cX2_put 118 = .ok (.iload 6, 2) := by decide +kernel
theorem dX2_put_120 : decode cX2_put 120 = .ok (.iload_n 2, 1) := by decide +kernel
theorem dX2_put_121 : decode cX2_put 121 = .ok (.invokevirtual 75, 3) := by decide +kernel
theorem dX2_put_124 : decode cX2_put 124 = .ok (.invokevirtual 78, 3) := by decide +kernel
theorem dX2_put_127 : decode cX2_put 127 = .ok (.ireturn, 1) := by decide +kernel
set_option maxRecDepth 20000 in
theorem ggX2_remove_X2_isLive : GoodIn wsX2_remove wsX2_isLive := goodIn_r _ [8, 9, 100, 101, 102, 103, 104, 105] (by decide +kernel) (by decide +kernel)
set_option maxRecDepth 20000 in
theorem gX2_remove_X2_isLive : GoodIn wsX2_remove (wsV RX2 39 RX2 yX2_isLive wsX2_isLive) := goodIn_app (goodIn_of _ (by decide +kernel)) ggX2_remove_X2_isLive
set_option maxRecDepth 20000 in
theorem ggX2_remove_X1_noteRemoval : GoodIn wsX2_remove wsX1_noteRemoval := goodIn_r _ [14, 15, 16, 17, 18, 19, 20, 21, 13, 22, 23, 24, 25, 26, 27, 28, 29, 30, 31, 32, 33, 34, 35, 36, 106, 107, 108, 109, 110, 111, 112, 113, 114, 115, 116, 117, 118, 119] (by decide +kernel) (by decide +kernel)
set_option maxRecDepth 20000 in
theorem gX2_remove_X1_noteRemoval : GoodIn wsX2_remove (wsV RX2 81 RX1 yX1_noteRemoval wsX1_noteRemoval) := goodIn_app (goodIn_of _ (by decide +kernel)) ggX2_remove_X1_noteRemoval
set_option maxRecDepth 20000 in
theorem ggX2_remove_X2_handleFor : GoodIn wsX2_remove wsX2_handleFor := goodIn_r _ [40, 9, 41, 42, 43, 7, 44, 45, 46, 47, 48, 49, 33, 50, 51, 52, 53, 54, 55, 56, 2, 57, 58, 59, 60, 61, 62, 63, 64, 65, 66, 67, 68, 69, 70, 71, 72, 73, 74, 75, 76, 77, 100, 101, 102, 103, 104, 105, 109, 110, 111, 112, 113, 114, 115, 116, 117, 118, 119] (by decide +kernel) (by decide +kernel)
set_option maxRecDepth 20000 in
theorem gX2_remove_X2_handleFor : GoodIn wsX2_remove (wsV RX2 50 RX2 yX2_handleFor wsX2_handleFor) := goodIn_app (goodIn_of _ (by decide +kernel)) ggX2_remove_X2_handleFor
set_option maxRecDepth 20000 in
theorem ggX2_remove_X1_copyOver : GoodIn wsX2_remove wsX1_copyOver := goodIn_r _ [81, 15, 23, 16, 24, 17, 18, 82, 83, 84, 33, 85, 36, 86, 35, 87, 88, 89, 90, 77, 51, 67, 68, 91, 92, 93, 94, 95, 52, 106, 107, 108, 109, 110, 111, 112, 113, 114, 115, 116, 117, 118, 119] (by decide +kernel) (by decide +kernel)
set_option maxRecDepth 20000 in
theorem gX2_remove_X1_copyOver : GoodIn wsX2_remove (wsV RX2 75 RX1 yX1_copyOver wsX1_copyOver) := goodIn_app (goodIn_of _ (by decide +kernel)) ggX2_remove_X1_copyOver
set_option maxRecDepth 20000 in
theorem ggX2_remove_X2_open : GoodIn wsX2_remove wsX2_open := goodIn_r _ [99, 9, 2, 100, 101, 102, 103, 104, 105] (by decide +kernel) (by decide +kernel)
set_option maxRecDepth 20000 in
theorem gX2_remove_X2_open : GoodIn wsX2_remove (wsV RX2 78 RX2 yX2_open wsX2_open) := goodIn_app (goodIn_of _ (by decide +kernel)) ggX2_remove_X2_open
theorem dX2_remove_0 : decode cX2_remove 0 = .ok (.aload_n 0, 1) := by decide +kernel
theorem dX2_remove_1 : decode cX2_remove 1 = .ok (.iload_n 1, 1) := by decide +kernel
theorem dX2_remove_2 : decode cX2_remove 2 = .ok (.invokevirtual 39, 3) := by decide +kernel
theorem dX2_remove_5 : decode cX2_remove 5 = .ok (.ifCond .ne 5, 3) := by decide +kernel
theorem dX2_remove_8 : decode cX2_remove 8 = .ok (.iconst (-1), 1) := by decide +kernel
theorem dX2_remove_9 : decode cX2_remove 9 = .ok (.ireturn, 1) := by decide +kernel
theorem dX2_remove_10 : decode cX2_remove 10 = .ok (.aload_n 0, 1) := by decide +kernel
theorem dX2_remove_11 : decode cX2_remove 11 = .ok (.getfield 23, 3) := by decide +kernel
theorem dX2_remove_14 : decode cX2_remove 14 = .ok (.aload_n 0, 1) := by decide +kernel
theorem dX2_remove_15 : decode cX2_remove 15 = .ok (.getfield 31, 3) := by decide +kernel
theorem dX2_remove_18 : decode cX2_remove 18 = .ok (.iload_n 1, 1) := by decide +kernel
theorem dX2_remove_19 : decode cX2_remove 19 = .ok (.iaload, 1) := by decide +kernel
theorem dX2_remove_20 : decode cX2_remove 20 = .ok (.iload_n 2, 1) := by decide +kernel
theorem dX2_remove_21 : decode cX2_remove 21 = .ok (.invokevirtual 81, 3) := by decide +kernel
theorem dX2_remove_24 : decode cX2_remove 24 = .ok (.istore_n 3, 1) := by decide +kernel
theorem dX2_remove_25 : decode cX2_remove 25 = .ok (.aload_n 0, 1) := by decide +kernel
theorem dX2_remove_26 : decode cX2_remove 26 = .ok (.aload_n 0, 1) := by decide +kernel
theorem dX2_remove_27 : decode cX2_remove 27 = .ok (.getfield 23, 3) := by decide +kernel
theorem dX2_remove_30 : decode cX2_remove 30 = .ok (.getfield 47, 3) := by decide +kernel
theorem dX2_remove_33 : decode cX2_remove 33 = .ok (.invokevirtual 50, 3) := by decide +kernel
theorem dX2_remove_36 : decode cX2_remove 36 = .ok (.istore 4, 2) := by decide +kernel
theorem dX2_remove_38 : decode cX2_remove 38 = .ok (.iload 4, 2) := by decide +kernel
theorem dX2_remove_40 : decode cX2_remove 40 = .ok (.ifCond .ge 8, 3) := by decide +kernel
theorem dX2_remove_43 : decode cX2_remove 43 = .ok (.iload 4, 2) := by decide +kernel
theorem dX2_remove_45 : decode cX2_remove 45 = .ok (.goto 18, 3) := by decide +kernel
theorem dX2_remove_48 : decode cX2_remove 48 = .ok (.aload_n 0, 1) := by decide +kernel
theorem dX2_remove_49 : decode cX2_remove 49 = .ok (.iload 4, 2) := by decide +kernel
theorem dX2_remove_51 : decode cX2_remove 51 = .ok (.aload_n 0, 1) := by decide +kernel
theorem dX2_remove_52 : decode cX2_remove 52 = .ok (.getfield 23, 3) := by decide +kernel
theorem dX2_remove_55 : decode cX2_remove 55 = .ok (.iload_n 3, 1) := by decide +kernel
theorem dX2_remove_56 : decode cX2_remove 56 = .ok (.iload_n 2, 1) := by decide +kernel
theorem dX2_remove_57 : decode cX2_remove 57 = .ok (.invokevirtual 75, 3) := by decide +kernel
theorem dX2_remove_60 : decode cX2_remove 60 = .ok (.invokevirtual 78, 3) := by decide +kernel
theorem dX2_remove_63 : decode cX2_remove 63 = .ok (.ireturn, 1) := by decide +kernel
set_option maxRecDepth 20000 in
theorem ggX2_below_X2_isLive : GoodIn wsX2_below wsX2_isLive := goodIn_r _ [8, 9, 87, 88, 89, 90, 91, 92] (by decide +kernel) (by decide +kernel)
set_option maxRecDepth 20000 in
theorem gX2_below_X2_isLive : GoodIn wsX2_below (wsV RX2 39 RX2 yX2_isLive wsX2_isLive) := goodIn_app (goodIn_of _ (by decide +kernel)) ggX2_below_X2_isLive
set_option maxRecDepth 20000 in
theorem ggX2_below_X1_noteLesser : GoodIn wsX2_below wsX1_noteLesser := goodIn_r _ [14, 15, 16, 17, 18, 19, 20, 93, 94, 95, 96, 97, 98, 99, 100, 101, 102, 103, 104, 105, 106] (by decide +kernel) (by decide +kernel)
set_option maxRecDepth 20000 in
theorem gX2_below_X1_noteLesser : GoodIn wsX2_below (wsV RX2 84 RX1 yX1_noteLesser wsX1_noteLesser) := goodIn_app (goodIn_of _ (by decide +kernel)) ggX2_below_X1_noteLesser
set_option maxRecDepth 20000 in
theorem ggX2_below_X2_handleFor : GoodIn wsX2_below wsX2_handleFor := goodIn_r _ [24, 9, 25, 26, 27, 7, 28, 29, 30, 31, 32, 33, 34, 35, 36, 37, 38, 39, 40, 41, 2, 42, 43, 44, 45, 46, 47, 48, 49, 50, 51, 52, 53, 54, 55, 56, 57, 58, 59, 60, 61, 62, 87, 88, 89, 90, 91, 92, 96, 97, 98, 99, 100, 101, 102, 103, 104, 105, 106] (by decide +kernel) (by decide +kernel)
set_option maxRecDepth 20000 in
theorem gX2_below_X2_handleFor : GoodIn wsX2_below (wsV RX2 50 RX2 yX2_handleFor wsX2_handleFor) := goodIn_app (goodIn_of _ (by decide +kernel)) ggX2_below_X2_handleFor
set_option maxRecDepth 20000 in
theorem ggX2_below_X1_copyOver : GoodIn wsX2_below wsX1_copyOver := goodIn_r _ [66, 15, 16, 17, 18, 20, 19, 67, 68, 69, 34, 70, 71, 72, 73, 74, 75, 76, 77, 62, 36, 52, 53, 78, 79, 80, 81, 82, 37, 93, 94, 95, 96, 97, 98, 99, 100, 101, 102, 103, 104, 105, 106] (by decide +kernel) (by decide +kernel)
set_option maxRecDepth 20000 in
theorem gX2_below_X1_copyOver : GoodIn wsX2_below (wsV RX2 75 RX1 yX1_copyOver wsX1_copyOver) := goodIn_app (goodIn_of _ (by decide +kernel)) ggX2_below_X1_copyOver
set_option maxRecDepth 20000 in
theorem ggX2_below_X2_open : GoodIn wsX2_below wsX2_open := goodIn_r _ [86, 9, 2, 87, 88, 89, 90, 91, 92] (by decide +kernel) (by decide +kernel)
set_option maxRecDepth 20000 in
theorem gX2_below_X2_open : GoodIn wsX2_below (wsV RX2 78 RX2 yX2_open wsX2_open) := goodIn_app (goodIn_of _ (by decide +kernel)) ggX2_below_X2_open
theorem dX2_below_0 : decode cX2_below 0 = .ok (.aload_n 0, 1) := by decide +kernel
theorem dX2_below_1 : decode cX2_below 1 = .ok (.iload_n 1, 1) := by decide +kernel
theorem dX2_below_2 : decode cX2_below 2 = .ok (.invokevirtual 39, 3) := by decide +kernel
theorem dX2_below_5 : decode cX2_below 5 = .ok (.ifCond .ne 5, 3) := by decide +kernel
theorem dX2_below_8 : decode cX2_below 8 = .ok (.iconst (-1), 1) := by decide +kernel
theorem dX2_below_9 : decode cX2_below 9 = .ok (.ireturn, 1) := by decide +kernel
theorem dX2_below_10 : decode cX2_below 10 = .ok (.aload_n 0, 1) := by decide +kernel
theorem dX2_below_11 : decode cX2_below 11 = .ok (.getfield 23, 3) := by decide +kernel
theorem dX2_below_14 : decode cX2_below 14 = .ok (.aload_n 0, 1) := by decide +kernel
theorem dX2_below_15 : decode cX2_below 15 = .ok (.getfield 31, 3) := by decide +kernel
theorem dX2_below_18 : decode cX2_below 18 = .ok (.iload_n 1, 1) := by decide +kernel
theorem dX2_below_19 : decode cX2_below 19 = .ok (.iaload, 1) := by decide +kernel
theorem dX2_below_20 : decode cX2_below 20 = .ok (.iload_n 2, 1) := by decide +kernel
theorem dX2_below_21 : decode cX2_below 21 = .ok (.invokevirtual 84, 3) := by decide +kernel
theorem dX2_below_24 : decode cX2_below 24 = .ok (.aload_n 0, 1) := by decide +kernel
theorem dX2_below_25 : decode cX2_below 25 = .ok (.aload_n 0, 1) := by decide +kernel
theorem dX2_below_26 : decode cX2_below 26 = .ok (.getfield 23, 3) := by decide +kernel
theorem dX2_below_29 : decode cX2_below 29 = .ok (.getfield 47, 3) := by decide +kernel
theorem dX2_below_32 : decode cX2_below 32 = .ok (.invokevirtual 50, 3) := by decide +kernel
theorem dX2_below_35 : decode cX2_below 35 = .ok (.istore_n 3, 1) := by decide +kernel
theorem dX2_below_36 : decode cX2_below 36 = .ok (.iload_n 3, 1) := by decide +kernel
theorem dX2_below_37 : decode cX2_below 37 = .ok (.ifCond .ge 7, 3) := by decide +kernel
theorem dX2_below_40 : decode cX2_below 40 = .ok (.iload_n 3, 1) := by decide +kernel
theorem dX2_below_41 : decode cX2_below 41 = .ok (.goto 17, 3) := by decide +kernel
theorem dX2_below_44 : decode cX2_below 44 = .ok (.aload_n 0, 1) := by decide +kernel
theorem dX2_below_45 : decode cX2_below 45 = .ok (.iload_n 3, 1) := by decide +kernel
theorem dX2_below_46 : decode cX2_below 46 = .ok (.aload_n 0, 1) := by decide +kernel
theorem dX2_below_47 : decode cX2_below 47 = .ok (.getfield 23, 3) := by decide +kernel
theorem dX2_below_50 : decode cX2_below 50 = .ok (.iconst 0, 1) := by decide +kernel
theorem dX2_below_51 : decode cX2_below 51 = .ok (.iload_n 2, 1) := by decide +kernel
theorem dX2_below_52 : decode cX2_below 52 = .ok (.invokevirtual 75, 3) := by decide +kernel
theorem dX2_below_55 : decode cX2_below 55 = .ok (.invokevirtual 78, 3) := by decide +kernel
theorem dX2_below_58 : decode cX2_below 58 = .ok (.ireturn, 1) := by decide +kernel
set_option maxRecDepth 20000 in
theorem ggX2_join_X2_isLive : GoodIn wsX2_join wsX2_isLive := goodIn_r _ [11, 12, 98, 99, 100, 101, 102, 103] (by decide +kernel) (by decide +kernel)
set_option maxRecDepth 20000 in
theorem gX2_join_X2_isLive : GoodIn wsX2_join (wsV RX2 39 RX2 yX2_isLive wsX2_isLive) := goodIn_app (goodIn_of _ (by decide +kernel)) ggX2_join_X2_isLive
set_option maxRecDepth 20000 in
theorem ggX2_join_X0_nodeAt : GoodIn wsX2_join wsX0_nodeAt := goodIn_r _ [17, 18, 19, 20, 21, 104, 105, 106, 107, 108, 109, 110, 111, 112, 113, 114] (by decide +kernel) (by decide +kernel)
set_option maxRecDepth 20000 in
theorem gX2_join_X0_nodeAt : GoodIn wsX2_join (wsV RX2 91 RX0 yX0_nodeAt wsX0_nodeAt) := goodIn_app (goodIn_of _ (by decide +kernel)) ggX2_join_X0_nodeAt
set_option maxRecDepth 20000 in
theorem ggX2_join_X1_noteJoint : GoodIn wsX2_join wsX1_noteJoint := goodIn_r _ [26, 27, 28, 29, 30, 31, 32, 33, 34, 35, 36, 16, 37, 38, 39, 115, 116, 117, 104, 105, 106, 107, 108, 109, 110, 111, 112, 113, 114] (by decide +kernel) (by decide +kernel)
set_option maxRecDepth 20000 in
theorem gX2_join_X1_noteJoint : GoodIn wsX2_join (wsV RX2 97 RX1 yX1_noteJoint wsX1_noteJoint) := goodIn_app (goodIn_of _ (by decide +kernel)) ggX2_join_X1_noteJoint
set_option maxRecDepth 20000 in
theorem ggX2_join_X2_handleFor : GoodIn wsX2_join wsX2_handleFor := goodIn_r _ [43, 12, 44, 45, 46, 10, 47, 2, 48, 49, 50, 51, 16, 52, 53, 18, 54, 55, 56, 57, 1, 58, 59, 60, 61, 62, 63, 64, 65, 66, 67, 20, 21, 68, 69, 70, 71, 72, 73, 74, 75, 76, 98, 99, 100, 101, 102, 103, 104, 105, 106, 107, 108, 109, 110, 111, 112, 113, 114] (by decide +kernel) (by decide +kernel)
set_option maxRecDepth 20000 in
theorem gX2_join_X2_handleFor : GoodIn wsX2_join (wsV RX2 50 RX2 yX2_handleFor wsX2_handleFor) := goodIn_app (goodIn_of _ (by decide +kernel)) ggX2_join_X2_handleFor
set_option maxRecDepth 20000 in
theorem ggX2_join_X1_copyOver : GoodIn wsX2_join wsX1_copyOver := goodIn_r _ [80, 27, 28, 29, 31, 33, 32, 81, 82, 83, 16, 84, 39, 85, 38, 86, 87, 88, 89, 76, 53, 20, 21, 19, 90, 91, 92, 93, 18, 115, 116, 117, 104, 105, 106, 107, 108, 109, 110, 111, 112, 113, 114] (by decide +kernel) (by decide +kernel)
set_option maxRecDepth 20000 in
theorem gX2_join_X1_copyOver : GoodIn wsX2_join (wsV RX2 75 RX1 yX1_copyOver wsX1_copyOver) := goodIn_app (goodIn_of _ (by decide +kernel)) ggX2_join_X1_copyOver
set_option maxRecDepth 20000 in
theorem ggX2_join_X2_open : GoodIn wsX2_join wsX2_open := goodIn_r _ [97, 12, 1, 98, 99, 100, 101, 102, 103] (by decide +kernel) (by decide +kernel)
set_option maxRecDepth 20000 in
theorem gX2_join_X2_open : GoodIn wsX2_join (wsV RX2 78 RX2 yX2_open wsX2_open) := goodIn_app (goodIn_of _ (by decide +kernel)) ggX2_join_X2_open
theorem dX2_join_0 : decode cX2_join 0 = .ok (.aload_n 0, 1) := by decide +kernel
theorem dX2_join_1 : decode cX2_join 1 = .ok (.iload_n 1, 1) := by decide +kernel
theorem dX2_join_2 : decode cX2_join 2 = .ok (.invokevirtual 39, 3) := by decide +kernel
theorem dX2_join_5 : decode cX2_join 5 = .ok (.ifCond .eq 11, 3) := by decide +kernel
theorem dX2_join_8 : decode cX2_join 8 = .ok (.aload_n 0, 1) := by decide +kernel
theorem dX2_join_9 : decode cX2_join 9 = .ok (.iload_n 2, 1) := by decide +kernel
theorem dX2_join_10 : decode cX2_join 10 = .ok (.invokevirtual 39, 3) := by decide +kernel
theorem dX2_join_13 : decode cX2_join 13 = .ok (.ifCond .ne 5, 3) := by decide +kernel
theorem dX2_join_16 : decode cX2_join 16 = .ok (.iconst (-1), 1) := by decide +kernel
theorem dX2_join_17 : decode cX2_join 17 = .ok (.ireturn, 1) := by decide +kernel
theorem dX2_join_18 : decode cX2_join 18 = .ok (.aload_n 0, 1) := by decide +kernel
theorem dX2_join_19 : decode cX2_join 19 = .ok (.getfield 31, 3) := by decide +kernel
theorem dX2_join_22 : decode cX2_join 22 = .ok (.iload_n 1, 1) := by decide +kernel
theorem dX2_join_23 : decode cX2_join 23 = .ok (.iaload, 1) := by decide +kernel
theorem dX2_join_24 : decode cX2_join 24 = .ok (.istore_n 3, 1) := by decide +kernel
theorem dX2_join_25 : decode cX2_join 25 = .ok (.aload_n 0, 1) := by decide +kernel
theorem dX2_join_26 : decode cX2_join 26 = .ok (.getfield 31, 3) := by decide +kernel
theorem dX2_join_29 : decode cX2_join 29 = .ok (.iload_n 2, 1) := by decide +kernel
theorem dX2_join_30 : decode cX2_join 30 = .ok (.iaload, 1) := by decide +kernel
theorem dX2_join_31 : decode cX2_join 31 = .ok (.istore 4, 2) := by decide +kernel
theorem dX2_join_33 : decode cX2_join 33 = .ok (.aload_n 0, 1) := by decide +kernel
theorem dX2_join_34 : decode cX2_join 34 = .ok (.getfield 14, 3) := by decide +kernel
theorem dX2_join_37 : decode cX2_join 37 = .ok (.iload_n 3, 1) := by decide +kernel
theorem dX2_join_38 : decode cX2_join 38 = .ok (.aload_n 0, 1) := by decide +kernel
theorem dX2_join_39 : decode cX2_join 39 = .ok (.getfield 14, 3) := by decide +kernel
theorem dX2_join_42 : decode cX2_join 42 = .ok (.getfield 88, 3) := by decide +kernel
theorem dX2_join_45 : decode cX2_join 45 = .ok (.iload_n 3, 1) := by decide +kernel
theorem dX2_join_46 : decode cX2_join 46 = .ok (.iaload, 1) := by decide +kernel
theorem dX2_join_47 : decode cX2_join 47 = .ok (.iconst 1, 1) := by decide +kernel
theorem dX2_join_48 : decode cX2_join 48 = .ok (.isub, 1) := by decide +kernel
theorem dX2_join_49 : decode cX2_join 49 = .ok (.invokevirtual 91, 3) := by decide +kernel
theorem dX2_join_52 : decode cX2_join 52 = .ok (.istore 5, 2) := by decide +kernel
theorem dX2_join_54 : decode cX2_join 54 = .ok (.aload_n 0, 1) := by decide +kernel
theorem dX2_join_55 : decode cX2_join 55 = .ok (.getfield 14, 3) := by decide +kernel
theorem dX2_join_58 : decode cX2_join 58 = .ok (.iload 4, 2) := by decide +kernel
theorem dX2_join_60 : decode cX2_join 60 = .ok (.iconst 0, 1) := by decide +kernel
theorem dX2_join_61 : decode cX2_join 61 = .ok (.invokevirtual 91, 3) := by decide +kernel
theorem dX2_join_64 : decode cX2_join 64 = .ok (.istore 6, 2) := by decide +kernel
theorem dX2_join_66 : decode cX2_join 66 = .ok (.iload 5, 2) := by decide +kernel
theorem dX2_join_68 : decode cX2_join 68 = .ok (.ifCond .eq 34, 3) := by decide +kernel
theorem dX2_join_71 : decode cX2_join 71 = .ok (.iload 6, 2) := by decide +kernel
theorem dX2_join_73 : decode cX2_join 73 = .ok (.ifCond .eq 29, 3) := by decide +kernel
theorem dX2_join_76 : decode cX2_join 76 = .ok (.aload_n 0, 1) := by decide +kernel
theorem dX2_join_77 : decode cX2_join 77 = .ok (.getfield 14, 3) := by decide +kernel
theorem dX2_join_80 : decode cX2_join 80 = .ok (.getfield 94, 3) := by decide +kernel
theorem dX2_join_83 : decode cX2_join 83 = .ok (.iload 5, 2) := by decide +kernel
theorem dX2_join_85 : decode cX2_join 85 = .ok (.iaload, 1) := by decide +kernel
theorem dX2_join_86 : decode cX2_join 86 = .ok (.aload_n 0, 1) := by decide +kernel
theorem dX2_join_87 : decode cX2_join 87 = .ok (.getfield 14, 3) := by decide +kernel
theorem dX2_join_90 : decode cX2_join 90 = .ok (.getfield 94, 3) := by decide +kernel
theorem dX2_join_93 : decode cX2_join 93 = .ok (.iload 6, 2) := by decide +kernel
theorem dX2_join_95 : decode cX2_join 95 = .ok (.iaload, 1) := by decide +kernel
theorem dX2_join_96 : decode cX2_join 96 = .ok (.if_icmp .lt 6, 3) := by decide +kernel
theorem dX2_join_99 : decode cX2_join 99 = .ok (.bipush (-4), 2) := by decide +kernel
theorem dX2_join_101 : decode cX2_join 101 = .ok (.ireturn, 1) := by decide +kernel
theorem dX2_join_102 : decode cX2_join 102 = .ok (.aload_n 0, 1) := by decide +kernel
theorem dX2_join_103 : decode cX2_join 103 = .ok (.getfield 23, 3) := by decide +kernel
theorem dX2_join_106 : decode cX2_join 106 = .ok (.iconst 0, 1) := by decide +kernel
theorem dX2_join_107 : decode cX2_join 107 = .ok (.putfield 47, 3) := by decide +kernel
theorem dX2_join_110 : decode cX2_join 110 = .ok (.aload_n 0, 1) := by decide +kernel
theorem dX2_join_111 : decode cX2_join 111 = .ok (.getfield 23, 3) := by decide +kernel
theorem dX2_join_114 : decode cX2_join 114 = .ok (.iload_n 3, 1) := by decide +kernel
theorem dX2_join_115 : decode cX2_join 115 = .ok (.iload 4, 2) := by decide +kernel
theorem dX2_join_117 : decode cX2_join 117 = .ok (.invokevirtual 97, 3) := by decide +kernel
theorem dX2_join_120 : decode cX2_join 120 = .ok (.istore 7, 2) := by decide +kernel
theorem dX2_join_122 : decode cX2_join 122 = .ok (.aload_n 0, 1) := by decide +kernel
theorem dX2_join_123 : decode cX2_join 123 = .ok (.aload_n 0, 1) := by decide +kernel
theorem dX2_join_124 : decode cX2_join 124 = .ok (.getfield 23, 3) := by decide +kernel
theorem dX2_join_127 : decode cX2_join 127 = .ok (.getfield 47, 3) := by decide +kernel
theorem dX2_join_130 : decode cX2_join 130 = .ok (.invokevirtual 50, 3) := by decide +kernel
theorem dX2_join_133 : decode cX2_join 133 = .ok (.istore 8, 2) := by decide +kernel
theorem dX2_join_135 : decode cX2_join 135 = .ok (.iload 8, 2) := by decide +kernel
theorem dX2_join_137 : decode cX2_join 137 = .ok (.ifCond .ge 8, 3) := by decide +kernel
theorem dX2_join_140 : decode cX2_join 140 = .ok (.iload 8, 2) := by decide +kernel
theorem dX2_join_142 : decode cX2_join 142 = .ok (.goto 28, 3) := by decide +kernel
theorem dX2_join_145 : decode cX2_join 145 = .ok (.aload_n 0, 1) := by decide +kernel
theorem dX2_join_146 : decode cX2_join 146 = .ok (.iload 8, 2) := by decide +kernel
theorem dX2_join_148 : decode cX2_join 148 = .ok (.aload_n 0, 1) := by decide +kernel
theorem dX2_join_149 : decode cX2_join 149 = .ok (.getfield 23, 3) := by decide +kernel
theorem dX2_join_152 : decode cX2_join 152 = .ok (.iload 7, 2) := by decide +kernel
theorem dX2_join_154 : decode cX2_join 154 = .ok (.aload_n 0, 1) := by decide +kernel
theorem dX2_join_155 : decode cX2_join 155 = .ok (.getfield 14, 3) := by decide +kernel
theorem dX2_join_158 : decode cX2_join 158 = .ok (.getfield 94, 3) := by decide +kernel
theorem dX2_join_161 : decode cX2_join 161 = .ok (.iload 6, 2) := by decide +kernel
theorem dX2_join_163 : decode cX2_join 163 = .ok (.iaload, 1) := by decide +kernel
theorem dX2_join_164 : decode cX2_join 164 = .ok (.invokevirtual 75, 3) := by decide +kernel
theorem dX2_join_167 : decode cX2_join 167 = .ok (.invokevirtual 78, 3) := by decide +kernel
theorem dX2_join_170 : decode cX2_join 170 = .ok (.ireturn, 1) := by decide +kernel
set_option maxRecDepth 20000 in
theorem ggX2_drop_X2_isLive : GoodIn wsX2_drop wsX2_isLive := goodIn_r _ [6, 1, 7, 8, 9, 10, 11, 12] (by decide +kernel) (by decide +kernel)
set_option maxRecDepth 20000 in
theorem gX2_drop_X2_isLive : GoodIn wsX2_drop (wsV RX2 39 RX2 yX2_isLive wsX2_isLive) := goodIn_app (goodIn_of _ (by decide +kernel)) ggX2_drop_X2_isLive
theorem dX2_drop_0 : decode cX2_drop 0 = .ok (.aload_n 0, 1) := by decide +kernel
theorem dX2_drop_1 : decode cX2_drop 1 = .ok (.iload_n 1, 1) := by decide +kernel
theorem dX2_drop_2 : decode cX2_drop 2 = .ok (.invokevirtual 39, 3) := by decide +kernel
theorem dX2_drop_5 : decode cX2_drop 5 = .ok (.ifCond .ne 5, 3) := by decide +kernel
theorem dX2_drop_8 : decode cX2_drop 8 = .ok (.iconst 0, 1) := by decide +kernel
theorem dX2_drop_9 : decode cX2_drop 9 = .ok (.ireturn, 1) := by decide +kernel
theorem dX2_drop_10 : decode cX2_drop 10 = .ok (.aload_n 0, 1) := by decide +kernel
theorem dX2_drop_11 : decode cX2_drop 11 = .ok (.getfield 27, 3) := by decide +kernel
theorem dX2_drop_14 : decode cX2_drop 14 = .ok (.iload_n 1, 1) := by decide +kernel
theorem dX2_drop_15 : decode cX2_drop 15 = .ok (.iconst 0, 1) := by decide +kernel
theorem dX2_drop_16 : decode cX2_drop 16 = .ok (.bastore, 1) := by decide +kernel
theorem dX2_drop_17 : decode cX2_drop 17 = .ok (.iconst 1, 1) := by decide +kernel
theorem dX2_drop_18 : decode cX2_drop 18 = .ok (.ireturn, 1) := by decide +kernel
theorem dX2_isLive_0 : decode cX2_isLive 0 = .ok (.iload_n 1, 1) := by decide +kernel
theorem dX2_isLive_1 : decode cX2_isLive 1 = .ok (.ifCond .lt 25, 3) := by decide +kernel
theorem dX2_isLive_4 : decode cX2_isLive 4 = .ok (.iload_n 1, 1) := by decide +kernel
theorem dX2_isLive_5 : decode cX2_isLive 5 = .ok (.aload_n 0, 1) := by decide +kernel
theorem dX2_isLive_6 : decode cX2_isLive 6 = .ok (.getfield 27, 3) := by decide +kernel
theorem dX2_isLive_9 : decode cX2_isLive 9 = .ok (.arraylength, 1) := by decide +kernel
theorem dX2_isLive_10 : decode cX2_isLive 10 = .ok (.if_icmp .ge 16, 3) := by decide +kernel
theorem dX2_isLive_13 : decode cX2_isLive 13 = .ok (.aload_n 0, 1) := by decide +kernel
theorem dX2_isLive_14 : decode cX2_isLive 14 = .ok (.getfield 27, 3) := by decide +kernel
theorem dX2_isLive_17 : decode cX2_isLive 17 = .ok (.iload_n 1, 1) := by decide +kernel
theorem dX2_isLive_18 : decode cX2_isLive 18 = .ok (.baload, 1) := by decide +kernel
theorem dX2_isLive_19 : decode cX2_isLive 19 = .ok (.ifCond .eq 7, 3) := by decide +kernel
theorem dX2_isLive_22 : decode cX2_isLive 22 = .ok (.iconst 1, 1) := by decide +kernel
theorem dX2_isLive_23 : decode cX2_isLive 23 = .ok (.goto 4, 3) := by decide +kernel
theorem dX2_isLive_26 : decode cX2_isLive 26 = .ok (.iconst 0, 1) := by decide +kernel
theorem dX2_isLive_27 : decode cX2_isLive 27 = .ok (.ireturn, 1) := by decide +kernel
set_option maxRecDepth 20000 in
theorem ggX2_get_X2_nodeWith : GoodIn wsX2_get wsX2_nodeWith := goodIn_r _ [9, 10, 11, 12, 13, 14, 8, 15, 16, 17, 18, 19, 20, 21, 22, 23, 24, 25, 26, 27, 28, 29, 30, 31, 32, 33, 45, 46, 47, 34, 35, 36, 37, 38, 39, 40, 41, 42, 43, 44] (by decide +kernel) (by decide +kernel)
set_option maxRecDepth 20000 in
theorem gX2_get_X2_nodeWith : GoodIn wsX2_get (wsV RX2 100 RX2 yX2_nodeWith wsX2_nodeWith) := goodIn_app (goodIn_of _ (by decide +kernel)) ggX2_get_X2_nodeWith
theorem dX2_get_0 : decode cX2_get 0 = .ok (.aload_n 0, 1) := by decide +kernel
theorem dX2_get_1 : decode cX2_get 1 = .ok (.iload_n 1, 1) := by decide +kernel
theorem dX2_get_2 : decode cX2_get 2 = .ok (.iload_n 2, 1) := by decide +kernel
theorem dX2_get_3 : decode cX2_get 3 = .ok (.invokevirtual 100, 3) := by decide +kernel
theorem dX2_get_6 : decode cX2_get 6 = .ok (.istore_n 3, 1) := by decide +kernel
theorem dX2_get_7 : decode cX2_get 7 = .ok (.iload_n 3, 1) := by decide +kernel
theorem dX2_get_8 : decode cX2_get 8 = .ok (.ifCond .ne 11, 3) := by decide +kernel
theorem dX2_get_11 : decode cX2_get 11 = .ok (.new 103, 3) := by decide +kernel
theorem dX2_get_14 : decode cX2_get 14 = .ok (.dup, 1) := by decide +kernel
theorem dX2_get_15 : decode cX2_get 15 = .ok (.invokespecial 105, 3) := by decide +kernel
theorem dX2_get_18 : decode cX2_get 18 = .ok (.athrow, 1) := by decide +kernel
theorem dX2_get_19 : decode cX2_get 19 = .ok (.aload_n 0, 1) := by decide +kernel
theorem dX2_get_20 : decode cX2_get 20 = .ok (.getfield 14, 3) := by decide +kernel
theorem dX2_get_23 : decode cX2_get 23 = .ok (.getfield 106, 3) := by decide +kernel
theorem dX2_get_26 : decode cX2_get 26 = .ok (.iload_n 3, 1) := by decide +kernel
theorem dX2_get_27 : decode cX2_get 27 = .ok (.iaload, 1) := by decide +kernel
theorem dX2_get_28 : decode cX2_get 28 = .ok (.ireturn, 1) := by decide +kernel
set_option maxRecDepth 20000 in
theorem ggX2_contains_X2_nodeWith : GoodIn wsX2_contains wsX2_nodeWith := goodIn_r _ [5, 6, 7, 8, 9, 10, 4, 11, 12, 13, 14, 15, 16, 17, 18, 19, 20, 21, 22, 23, 24, 25, 26, 27, 28, 29, 30, 31, 32, 33, 34, 35, 36, 37, 38, 39, 40, 41, 42, 43] (by decide +kernel) (by decide +kernel)
set_option maxRecDepth 20000 in
theorem gX2_contains_X2_nodeWith : GoodIn wsX2_contains (wsV RX2 100 RX2 yX2_nodeWith wsX2_nodeWith) := goodIn_app (goodIn_of _ (by decide +kernel)) ggX2_contains_X2_nodeWith
theorem dX2_contains_0 : decode cX2_contains 0 = .ok (.aload_n 0, 1) := by decide +kernel
theorem dX2_contains_1 : decode cX2_contains 1 = .ok (.iload_n 1, 1) := by decide +kernel
theorem dX2_contains_2 : decode cX2_contains 2 = .ok (.iload_n 2, 1) := by decide +kernel
theorem dX2_contains_3 : decode cX2_contains 3 = .ok (.invokevirtual 100, 3) := by decide +kernel
theorem dX2_contains_6 : decode cX2_contains 6 = .ok (.ifCond .eq 7, 3) := by decide +kernel
theorem dX2_contains_9 : decode cX2_contains 9 = .ok (.iconst 1, 1) := by decide +kernel
theorem dX2_contains_10 : decode cX2_contains 10 = .ok (.goto 4, 3) := by decide +kernel
theorem dX2_contains_13 : decode cX2_contains 13 = .ok (.iconst 0, 1) := by decide +kernel
theorem dX2_contains_14 : decode cX2_contains 14 = .ok (.ireturn, 1) := by decide +kernel
set_option maxRecDepth 20000 in
theorem ggX2_size_X2_isLive : GoodIn wsX2_size wsX2_isLive := goodIn_r _ [8, 9, 10, 11, 12, 13, 14, 15] (by decide +kernel) (by decide +kernel)
set_option maxRecDepth 20000 in
theorem gX2_size_X2_isLive : GoodIn wsX2_size (wsV RX2 39 RX2 yX2_isLive wsX2_isLive) := goodIn_app (goodIn_of _ (by decide +kernel)) ggX2_size_X2_isLive
theorem dX2_size_0 : decode cX2_size 0 = .ok (.aload_n 0, 1) := by decide +kernel
theorem dX2_size_1 : decode cX2_size 1 = .ok (.iload_n 1, 1) := by decide +kernel
theorem dX2_size_2 : decode cX2_size 2 = .ok (.invokevirtual 39, 3) := by decide +kernel
theorem dX2_size_5 : decode cX2_size 5 = .ok (.ifCond .eq 20, 3) := by decide +kernel
theorem dX2_size_8 : decode cX2_size 8 = .ok (.aload_n 0, 1) := by decide +kernel
theorem dX2_size_9 : decode cX2_size 9 = .ok (.getfield 14, 3) := by decide +kernel
theorem dX2_size_12 : decode cX2_size 12 = .ok (.getfield 88, 3) := by decide +kernel
theorem dX2_size_15 : decode cX2_size 15 = .ok (.aload_n 0, 1) := by decide +kernel
theorem dX2_size_16 : decode cX2_size 16 = .ok (.getfield 31, 3) := by decide +kernel
theorem dX2_size_19 : decode cX2_size 19 = .ok (.iload_n 1, 1) := by decide +kernel
theorem dX2_size_20 : decode cX2_size 20 = .ok (.iaload, 1) := by decide +kernel
theorem dX2_size_21 : decode cX2_size 21 = .ok (.iaload, 1) := by decide +kernel
theorem dX2_size_22 : decode cX2_size 22 = .ok (.goto 4, 3) := by decide +kernel
theorem dX2_size_25 : decode cX2_size 25 = .ok (.iconst (-1), 1) := by decide +kernel
theorem dX2_size_26 : decode cX2_size 26 = .ok (.ireturn, 1) := by decide +kernel
set_option maxRecDepth 20000 in
theorem ggX2_floor_X2_isLive : GoodIn wsX2_floor wsX2_isLive := goodIn_r _ [10, 11, 21, 22, 23, 24, 25, 26] (by decide +kernel) (by decide +kernel)
set_option maxRecDepth 20000 in
theorem gX2_floor_X2_isLive : GoodIn wsX2_floor (wsV RX2 39 RX2 yX2_isLive wsX2_isLive) := goodIn_app (goodIn_of _ (by decide +kernel)) ggX2_floor_X2_isLive
set_option maxRecDepth 20000 in
theorem ggX2_floor_X0_floorNode : GoodIn wsX2_floor wsX0_floorNode := goodIn_r _ [16, 17, 18, 19, 20, 27, 28, 29, 30, 31, 32, 33, 34, 35, 36, 37] (by decide +kernel) (by decide +kernel)
set_option maxRecDepth 20000 in
theorem gX2_floor_X0_floorNode : GoodIn wsX2_floor (wsV RX2 109 RX0 yX0_floorNode wsX0_floorNode) := goodIn_app (goodIn_of _ (by decide +kernel)) ggX2_floor_X0_floorNode
theorem dX2_floor_0 : decode cX2_floor 0 = .ok (.aload_n 0, 1) := by decide +kernel
theorem dX2_floor_1 : decode cX2_floor 1 = .ok (.iload_n 1, 1) := by decide +kernel
theorem dX2_floor_2 : decode cX2_floor 2 = .ok (.invokevirtual 39, 3) := by decide +kernel
theorem dX2_floor_5 : decode cX2_floor 5 = .ok (.ifCond .eq 20, 3) := by decide +kernel
theorem dX2_floor_8 : decode cX2_floor 8 = .ok (.aload_n 0, 1) := by decide +kernel
theorem dX2_floor_9 : decode cX2_floor 9 = .ok (.getfield 14, 3) := by decide +kernel
theorem dX2_floor_12 : decode cX2_floor 12 = .ok (.aload_n 0, 1) := by decide +kernel
theorem dX2_floor_13 : decode cX2_floor 13 = .ok (.getfield 31, 3) := by decide +kernel
theorem dX2_floor_16 : decode cX2_floor 16 = .ok (.iload_n 1, 1) := by decide +kernel
theorem dX2_floor_17 : decode cX2_floor 17 = .ok (.iaload, 1) := by decide +kernel
theorem dX2_floor_18 : decode cX2_floor 18 = .ok (.iload_n 2, 1) := by decide +kernel
theorem dX2_floor_19 : decode cX2_floor 19 = .ok (.invokevirtual 109, 3) := by decide +kernel
theorem dX2_floor_22 : decode cX2_floor 22 = .ok (.goto 4, 3) := by decide +kernel
theorem dX2_floor_25 : decode cX2_floor 25 = .ok (.iconst 0, 1) := by decide +kernel
theorem dX2_floor_26 : decode cX2_floor 26 = .ok (.istore_n 3, 1) := by decide +kernel
theorem dX2_floor_27 : decode cX2_floor 27 = .ok (.iload_n 3, 1) := by decide +kernel
theorem dX2_floor_28 : decode cX2_floor 28 = .ok (.ifCond .ne 11, 3) := by decide +kernel
theorem dX2_floor_31 : decode cX2_floor 31 = .ok (.new 103, 3) := by decide +kernel
theorem dX2_floor_34 : decode cX2_floor 34 = .ok (.dup, 1) := by decide +kernel
theorem dX2_floor_35 : decode cX2_floor 35 = .ok (.invokespecial 105, 3) := by decide +kernel
theorem dX2_floor_38 : decode cX2_floor 38 = .ok (.athrow, 1) := by decide +kernel
theorem dX2_floor_39 : decode cX2_floor 39 = .ok (.aload_n 0, 1) := by decide +kernel
theorem dX2_floor_40 : decode cX2_floor 40 = .ok (.getfield 14, 3) := by decide +kernel
theorem dX2_floor_43 : decode cX2_floor 43 = .ok (.getfield 94, 3) := by decide +kernel
theorem dX2_floor_46 : decode cX2_floor 46 = .ok (.iload_n 3, 1) := by decide +kernel
theorem dX2_floor_47 : decode cX2_floor 47 = .ok (.iaload, 1) := by decide +kernel
theorem dX2_floor_48 : decode cX2_floor 48 = .ok (.ireturn, 1) := by decide +kernel
set_option maxRecDepth 20000 in
theorem ggX2_keyAt_X2_isLive : GoodIn wsX2_keyAt wsX2_isLive := goodIn_r _ [12, 13, 23, 24, 25, 26, 27, 28] (by decide +kernel) (by decide +kernel)
set_option maxRecDepth 20000 in
theorem gX2_keyAt_X2_isLive : GoodIn wsX2_keyAt (wsV RX2 39 RX2 yX2_isLive wsX2_isLive) := goodIn_app (goodIn_of _ (by decide +kernel)) ggX2_keyAt_X2_isLive
set_option maxRecDepth 20000 in
theorem ggX2_keyAt_X0_nodeAt : GoodIn wsX2_keyAt wsX0_nodeAt := goodIn_r _ [18, 19, 20, 21, 22, 29, 30, 31, 32, 33, 34, 35, 36, 37, 38, 39] (by decide +kernel) (by decide +kernel)
set_option maxRecDepth 20000 in
theorem gX2_keyAt_X0_nodeAt : GoodIn wsX2_keyAt (wsV RX2 91 RX0 yX0_nodeAt wsX0_nodeAt) := goodIn_app (goodIn_of _ (by decide +kernel)) ggX2_keyAt_X0_nodeAt
theorem dX2_keyAt_0 : decode cX2_keyAt 0 = .ok (.aload_n 0, 1) := by decide +kernel
theorem dX2_keyAt_1 : decode cX2_keyAt 1 = .ok (.iload_n 1, 1) := by decide +kernel
theorem dX2_keyAt_2 : decode cX2_keyAt 2 = .ok (.invokevirtual 39, 3) := by decide +kernel
theorem dX2_keyAt_5 : decode cX2_keyAt 5 = .ok (.ifCond .ne 11, 3) := by decide +kernel
theorem dX2_keyAt_8 : decode cX2_keyAt 8 = .ok (.new 103, 3) := by decide +kernel
theorem dX2_keyAt_11 : decode cX2_keyAt 11 = .ok (.dup, 1) := by decide +kernel
theorem dX2_keyAt_12 : decode cX2_keyAt 12 = .ok (.invokespecial 105, 3) := by decide +kernel
theorem dX2_keyAt_15 : decode cX2_keyAt 15 = .ok (.athrow, 1) := by decide +kernel
theorem dX2_keyAt_16 : decode cX2_keyAt 16 = .ok (.aload_n 0, 1) := by decide +kernel
theorem dX2_keyAt_17 : decode cX2_keyAt 17 = .ok (.getfield 14, 3) := by decide +kernel
theorem dX2_keyAt_20 : decode cX2_keyAt 20 = .ok (.aload_n 0, 1) := by decide +kernel
theorem dX2_keyAt_21 : decode cX2_keyAt 21 = .ok (.getfield 31, 3) := by decide +kernel
theorem dX2_keyAt_24 : decode cX2_keyAt 24 = .ok (.iload_n 1, 1) := by decide +kernel
theorem dX2_keyAt_25 : decode cX2_keyAt 25 = .ok (.iaload, 1) := by decide +kernel
theorem dX2_keyAt_26 : decode cX2_keyAt 26 = .ok (.iload_n 2, 1) := by decide +kernel
theorem dX2_keyAt_27 : decode cX2_keyAt 27 = .ok (.invokevirtual 91, 3) := by decide +kernel
theorem dX2_keyAt_30 : decode cX2_keyAt 30 = .ok (.istore_n 3, 1) := by decide +kernel
theorem dX2_keyAt_31 : decode cX2_keyAt 31 = .ok (.iload_n 3, 1) := by decide +kernel
theorem dX2_keyAt_32 : decode cX2_keyAt 32 = .ok (.ifCond .ne 11, 3) := by decide +kernel
theorem dX2_keyAt_35 : decode cX2_keyAt 35 = .ok (.new 112, 3) := by decide +kernel
theorem dX2_keyAt_38 : decode cX2_keyAt 38 = .ok (.dup, 1) := by decide +kernel
theorem dX2_keyAt_39 : decode cX2_keyAt 39 = .ok (.invokespecial 114, 3) := by decide +kernel
theorem dX2_keyAt_42 : decode cX2_keyAt 42 = .ok (.athrow, 1) := by decide +kernel
theorem dX2_keyAt_43 : decode cX2_keyAt 43 = .ok (.aload_n 0, 1) := by decide +kernel
theorem dX2_keyAt_44 : decode cX2_keyAt 44 = .ok (.getfield 14, 3) := by decide +kernel
theorem dX2_keyAt_47 : decode cX2_keyAt 47 = .ok (.getfield 94, 3) := by decide +kernel
theorem dX2_keyAt_50 : decode cX2_keyAt 50 = .ok (.iload_n 3, 1) := by decide +kernel
theorem dX2_keyAt_51 : decode cX2_keyAt 51 = .ok (.iaload, 1) := by decide +kernel
theorem dX2_keyAt_52 : decode cX2_keyAt 52 = .ok (.ireturn, 1) := by decide +kernel
set_option maxRecDepth 20000 in
theorem ggX2_sum_X2_isLive : GoodIn wsX2_sum wsX2_isLive := goodIn_r _ [7, 8, 33, 34, 35, 36, 37, 38] (by decide +kernel) (by decide +kernel)
set_option maxRecDepth 20000 in
theorem gX2_sum_X2_isLive : GoodIn wsX2_sum (wsV RX2 39 RX2 yX2_isLive wsX2_isLive) := goodIn_app (goodIn_of _ (by decide +kernel)) ggX2_sum_X2_isLive
set_option maxRecDepth 20000 in
theorem ggX2_sum_X0_forgetReached : GoodIn wsX2_sum wsX0_forgetReached := goodIn_r _ [13, 14, 15, 39, 40, 41, 42, 43, 44, 45, 46, 47, 48, 49] (by decide +kernel) (by decide +kernel)
set_option maxRecDepth 20000 in
theorem gX2_sum_X0_forgetReached : GoodIn wsX2_sum (wsV RX2 115 RX0 yX0_forgetReached wsX0_forgetReached) := goodIn_app (goodIn_of _ (by decide +kernel)) ggX2_sum_X0_forgetReached
set_option maxRecDepth 20000 in
theorem ggX2_sum_X0_reach : GoodIn wsX2_sum wsX0_reach := goodIn_r _ [19, 14, 20, 21, 22, 23, 24, 25, 12, 26, 15, 39, 40, 41, 42, 43, 44, 45, 46, 47, 48, 49] (by decide +kernel) (by decide +kernel)
set_option maxRecDepth 20000 in
theorem gX2_sum_X0_reach : GoodIn wsX2_sum (wsV RX2 118 RX0 yX0_reach wsX0_reach) := goodIn_app (goodIn_of _ (by decide +kernel)) ggX2_sum_X0_reach
set_option maxRecDepth 20000 in
theorem ggX2_sum_X0_sumReached : GoodIn wsX2_sum wsX0_sumReached := goodIn_r _ [30, 14, 15, 31, 32, 39, 40, 41, 42, 43, 44, 45, 46, 47, 48, 49] (by decide +kernel) (by decide +kernel)
set_option maxRecDepth 20000 in
theorem gX2_sum_X0_sumReached : GoodIn wsX2_sum (wsV RX2 121 RX0 yX0_sumReached wsX0_sumReached) := goodIn_app (goodIn_of _ (by decide +kernel)) ggX2_sum_X0_sumReached
theorem dX2_sum_0 : decode cX2_sum 0 = .ok (.aload_n 0, 1) := by decide +kernel
theorem dX2_sum_1 : decode cX2_sum 1 = .ok (.iload_n 1, 1) := by decide +kernel
theorem dX2_sum_2 : decode cX2_sum 2 = .ok (.invokevirtual 39, 3) := by decide +kernel
theorem dX2_sum_5 : decode cX2_sum 5 = .ok (.ifCond .ne 5, 3) := by decide +kernel
theorem dX2_sum_8 : decode cX2_sum 8 = .ok (.lconst 0, 1) := by decide +kernel
theorem dX2_sum_9 : decode cX2_sum 9 = .ok (.lreturn, 1) := by decide +kernel
theorem dX2_sum_10 : decode cX2_sum 10 = .ok (.aload_n 0, 1) := by decide +kernel
theorem dX2_sum_11 : decode cX2_sum 11 = .ok (.getfield 14, 3) := by decide +kernel
theorem dX2_sum_14 : decode cX2_sum 14 = .ok (.invokevirtual 115, 3) := by decide +kernel
theorem dX2_sum_17 : decode cX2_sum 17 = .ok (.aload_n 0, 1) := by decide +kernel
theorem dX2_sum_18 : decode cX2_sum 18 = .ok (.getfield 14, 3) := by decide +kernel
theorem dX2_sum_21 : decode cX2_sum 21 = .ok (.aload_n 0, 1) := by decide +kernel
theorem dX2_sum_22 : decode cX2_sum 22 = .ok (.getfield 31, 3) := by decide +kernel
theorem dX2_sum_25 : decode cX2_sum 25 = .ok (.iload_n 1, 1) := by decide +kernel
theorem dX2_sum_26 : decode cX2_sum 26 = .ok (.iaload, 1) := by decide +kernel
theorem dX2_sum_27 : decode cX2_sum 27 = .ok (.invokevirtual 118, 3) := by decide +kernel
theorem dX2_sum_30 : decode cX2_sum 30 = .ok (.pop, 1) := by decide +kernel
theorem dX2_sum_31 : decode cX2_sum 31 = .ok (.aload_n 0, 1) := by decide +kernel
theorem dX2_sum_32 : decode cX2_sum 32 = .ok (.getfield 14, 3) := by decide +kernel
theorem dX2_sum_35 : decode cX2_sum 35 = .ok (.iload_n 2, 1) := by decide +kernel
theorem dX2_sum_36 : decode cX2_sum 36 = .ok (.iload_n 3, 1) := by decide +kernel
theorem dX2_sum_37 : decode cX2_sum 37 = .ok (.invokevirtual 121, 3) := by decide +kernel
theorem dX2_sum_40 : decode cX2_sum 40 = .ok (.lreturn, 1) := by decide +kernel
set_option maxRecDepth 20000 in
theorem ggX2_depth_X2_nodeWith : GoodIn wsX2_depth wsX2_nodeWith := goodIn_r _ [9, 3, 10, 11, 12, 13, 8, 14, 15, 16, 17, 18, 19, 20, 21, 22, 23, 24, 25, 26, 27, 28, 29, 30, 31, 32, 33, 34, 35, 36, 37, 38, 39, 40, 41, 42, 43, 44, 45, 46] (by decide +kernel) (by decide +kernel)
set_option maxRecDepth 20000 in
theorem gX2_depth_X2_nodeWith : GoodIn wsX2_depth (wsV RX2 100 RX2 yX2_nodeWith wsX2_nodeWith) := goodIn_app (goodIn_of _ (by decide +kernel)) ggX2_depth_X2_nodeWith
theorem dX2_depth_0 : decode cX2_depth 0 = .ok (.aload_n 0, 1) := by decide +kernel
theorem dX2_depth_1 : decode cX2_depth 1 = .ok (.iload_n 1, 1) := by decide +kernel
theorem dX2_depth_2 : decode cX2_depth 2 = .ok (.iload_n 2, 1) := by decide +kernel
theorem dX2_depth_3 : decode cX2_depth 3 = .ok (.invokevirtual 100, 3) := by decide +kernel
theorem dX2_depth_6 : decode cX2_depth 6 = .ok (.ifCond .ne 11, 3) := by decide +kernel
theorem dX2_depth_9 : decode cX2_depth 9 = .ok (.new 103, 3) := by decide +kernel
theorem dX2_depth_12 : decode cX2_depth 12 = .ok (.dup, 1) := by decide +kernel
theorem dX2_depth_13 : decode cX2_depth 13 = .ok (.invokespecial 105, 3) := by decide +kernel
theorem dX2_depth_16 : decode cX2_depth 16 = .ok (.athrow, 1) := by decide +kernel
theorem dX2_depth_17 : decode cX2_depth 17 = .ok (.aload_n 0, 1) := by decide +kernel
theorem dX2_depth_18 : decode cX2_depth 18 = .ok (.getfield 23, 3) := by decide +kernel
theorem dX2_depth_21 : decode cX2_depth 21 = .ok (.getfield 47, 3) := by decide +kernel
theorem dX2_depth_24 : decode cX2_depth 24 = .ok (.ireturn, 1) := by decide +kernel
set_option maxRecDepth 20000 in
theorem ggX2_shared_X2_isLive : GoodIn wsX2_shared wsX2_isLive := goodIn_r _ [8, 9, 28, 29, 30, 31, 32, 33] (by decide +kernel) (by decide +kernel)
set_option maxRecDepth 20000 in
theorem gX2_shared_X2_isLive : GoodIn wsX2_shared (wsV RX2 39 RX2 yX2_isLive wsX2_isLive) := goodIn_app (goodIn_of _ (by decide +kernel)) ggX2_shared_X2_isLive
set_option maxRecDepth 20000 in
theorem ggX2_shared_X0_forgetReached : GoodIn wsX2_shared wsX0_forgetReached := goodIn_r _ [14, 15, 16, 34, 35, 36, 37, 38, 39, 40, 41, 42, 43, 44] (by decide +kernel) (by decide +kernel)
set_option maxRecDepth 20000 in
theorem gX2_shared_X0_forgetReached : GoodIn wsX2_shared (wsV RX2 115 RX0 yX0_forgetReached wsX0_forgetReached) := goodIn_app (goodIn_of _ (by decide +kernel)) ggX2_shared_X0_forgetReached
set_option maxRecDepth 20000 in
theorem ggX2_shared_X0_reach : GoodIn wsX2_shared wsX0_reach := goodIn_r _ [20, 15, 21, 22, 23, 24, 25, 26, 13, 27, 16, 34, 35, 36, 37, 38, 39, 40, 41, 42, 43, 44] (by decide +kernel) (by decide +kernel)
set_option maxRecDepth 20000 in
theorem gX2_shared_X0_reach : GoodIn wsX2_shared (wsV RX2 118 RX0 yX0_reach wsX0_reach) := goodIn_app (goodIn_of _ (by decide +kernel)) ggX2_shared_X0_reach
theorem dX2_shared_0 : decode cX2_shared 0 = .ok (.aload_n 0, 1) := by decide +kernel
theorem dX2_shared_1 : decode cX2_shared 1 = .ok (.iload_n 1, 1) := by decide +kernel
theorem dX2_shared_2 : decode cX2_shared 2 = .ok (.invokevirtual 39, 3) := by decide +kernel
theorem dX2_shared_5 : decode cX2_shared 5 = .ok (.ifCond .eq 11, 3) := by decide +kernel
theorem dX2_shared_8 : decode cX2_shared 8 = .ok (.aload_n 0, 1) := by decide +kernel
theorem dX2_shared_9 : decode cX2_shared 9 = .ok (.iload_n 2, 1) := by decide +kernel
theorem dX2_shared_10 : decode cX2_shared 10 = .ok (.invokevirtual 39, 3) := by decide +kernel
theorem dX2_shared_13 : decode cX2_shared 13 = .ok (.ifCond .ne 5, 3) := by decide +kernel
theorem dX2_shared_16 : decode cX2_shared 16 = .ok (.iconst (-1), 1) := by decide +kernel
theorem dX2_shared_17 : decode cX2_shared 17 = .ok (.ireturn, 1) := by decide +kernel
theorem dX2_shared_18 : decode cX2_shared 18 = .ok (.aload_n 0, 1) := by decide +kernel
theorem dX2_shared_19 : decode cX2_shared 19 = .ok (.getfield 14, 3) := by decide +kernel
theorem dX2_shared_22 : decode cX2_shared 22 = .ok (.invokevirtual 115, 3) := by decide +kernel
theorem dX2_shared_25 : decode cX2_shared 25 = .ok (.aload_n 0, 1) := by decide +kernel
theorem dX2_shared_26 : decode cX2_shared 26 = .ok (.getfield 14, 3) := by decide +kernel
theorem dX2_shared_29 : decode cX2_shared 29 = .ok (.aload_n 0, 1) := by decide +kernel
theorem dX2_shared_30 : decode cX2_shared 30 = .ok (.getfield 31, 3) := by decide +kernel
theorem dX2_shared_33 : decode cX2_shared 33 = .ok (.iload_n 1, 1) := by decide +kernel
theorem dX2_shared_34 : decode cX2_shared 34 = .ok (.iaload, 1) := by decide +kernel
theorem dX2_shared_35 : decode cX2_shared 35 = .ok (.invokevirtual 118, 3) := by decide +kernel
theorem dX2_shared_38 : decode cX2_shared 38 = .ok (.pop, 1) := by decide +kernel
theorem dX2_shared_39 : decode cX2_shared 39 = .ok (.aload_n 0, 1) := by decide +kernel
theorem dX2_shared_40 : decode cX2_shared 40 = .ok (.getfield 14, 3) := by decide +kernel
theorem dX2_shared_43 : decode cX2_shared 43 = .ok (.getfield 88, 3) := by decide +kernel
theorem dX2_shared_46 : decode cX2_shared 46 = .ok (.aload_n 0, 1) := by decide +kernel
theorem dX2_shared_47 : decode cX2_shared 47 = .ok (.getfield 31, 3) := by decide +kernel
theorem dX2_shared_50 : decode cX2_shared 50 = .ok (.iload_n 2, 1) := by decide +kernel
theorem dX2_shared_51 : decode cX2_shared 51 = .ok (.iaload, 1) := by decide +kernel
theorem dX2_shared_52 : decode cX2_shared 52 = .ok (.iaload, 1) := by decide +kernel
theorem dX2_shared_53 : decode cX2_shared 53 = .ok (.aload_n 0, 1) := by decide +kernel
theorem dX2_shared_54 : decode cX2_shared 54 = .ok (.getfield 14, 3) := by decide +kernel
theorem dX2_shared_57 : decode cX2_shared 57 = .ok (.aload_n 0, 1) := by decide +kernel
theorem dX2_shared_58 : decode cX2_shared 58 = .ok (.getfield 31, 3) := by decide +kernel
theorem dX2_shared_61 : decode cX2_shared 61 = .ok (.iload_n 2, 1) := by decide +kernel
theorem dX2_shared_62 : decode cX2_shared 62 = .ok (.iaload, 1) := by decide +kernel
theorem dX2_shared_63 : decode cX2_shared 63 = .ok (.invokevirtual 118, 3) := by decide +kernel
theorem dX2_shared_66 : decode cX2_shared 66 = .ok (.isub, 1) := by decide +kernel
theorem dX2_shared_67 : decode cX2_shared 67 = .ok (.ireturn, 1) := by decide +kernel
set_option maxRecDepth 20000 in
theorem ggX2_nodes_X2_reachLive : GoodIn wsX2_nodes wsX2_reachLive := goodIn_r _ [5, 6, 7, 8, 9, 10, 11, 12, 13, 14, 15, 16, 17, 18, 19, 20, 21, 22, 23, 24, 25, 26, 27, 28, 29, 30, 31, 32, 33, 34, 35, 36, 37, 38, 39, 40, 41, 42, 43] (by decide +kernel) (by decide +kernel)
set_option maxRecDepth 20000 in
theorem gX2_nodes_X2_reachLive : GoodIn wsX2_nodes (wsV RX2 125 RX2 yX2_reachLive wsX2_reachLive) := goodIn_app (goodIn_of _ (by decide +kernel)) ggX2_nodes_X2_reachLive
theorem dX2_nodes_0 : decode cX2_nodes 0 = .ok (.aload_n 0, 1) := by decide +kernel
theorem dX2_nodes_1 : decode cX2_nodes 1 = .ok (.invokevirtual 125, 3) := by decide +kernel
theorem dX2_nodes_4 : decode cX2_nodes 4 = .ok (.ireturn, 1) := by decide +kernel
theorem dX2_used_0 : decode cX2_used 0 = .ok (.aload_n 0, 1) := by decide +kernel
theorem dX2_used_1 : decode cX2_used 1 = .ok (.getfield 14, 3) := by decide +kernel
theorem dX2_used_4 : decode cX2_used 4 = .ok (.getfield 128, 3) := by decide +kernel
theorem dX2_used_7 : decode cX2_used 7 = .ok (.ireturn, 1) := by decide +kernel
theorem dX2_sweeps_0 : decode cX2_sweeps 0 = .ok (.aload_n 0, 1) := by decide +kernel
theorem dX2_sweeps_1 : decode cX2_sweeps 1 = .ok (.getfield 131, 3) := by decide +kernel
theorem dX2_sweeps_4 : decode cX2_sweeps 4 = .ok (.ireturn, 1) := by decide +kernel
set_option maxRecDepth 20000 in
theorem ggX2_nodeWith_X2_isLive : GoodIn wsX2_nodeWith wsX2_isLive := goodIn_r _ [7, 8, 20, 21, 22, 23, 24, 25] (by decide +kernel) (by decide +kernel)
set_option maxRecDepth 20000 in
theorem gX2_nodeWith_X2_isLive : GoodIn wsX2_nodeWith (wsV RX2 39 RX2 yX2_isLive wsX2_isLive) := goodIn_app (goodIn_of _ (by decide +kernel)) ggX2_nodeWith_X2_isLive
set_option maxRecDepth 20000 in
theorem ggX2_nodeWith_X1_noteTo : GoodIn wsX2_nodeWith wsX1_noteTo := goodIn_r _ [13, 14, 15, 16, 17, 18, 19, 26, 27, 28, 29, 30, 31, 32, 33, 34, 35, 36, 37, 38, 39] (by decide +kernel) (by decide +kernel)
set_option maxRecDepth 20000 in
theorem gX2_nodeWith_X1_noteTo : GoodIn wsX2_nodeWith (wsV RX2 43 RX1 yX1_noteTo wsX1_noteTo) := goodIn_app (goodIn_of _ (by decide +kernel)) ggX2_nodeWith_X1_noteTo
theorem dX2_nodeWith_0 : decode cX2_nodeWith 0 = .ok (.aload_n 0, 1) := by decide +kernel
theorem dX2_nodeWith_1 : decode cX2_nodeWith 1 = .ok (.iload_n 1, 1) := by decide +kernel
theorem dX2_nodeWith_2 : decode cX2_nodeWith 2 = .ok (.invokevirtual 39, 3) := by decide +kernel
theorem dX2_nodeWith_5 : decode cX2_nodeWith 5 = .ok (.ifCond .eq 20, 3) := by decide +kernel
theorem dX2_nodeWith_8 : decode cX2_nodeWith 8 = .ok (.aload_n 0, 1) := by decide +kernel
theorem dX2_nodeWith_9 : decode cX2_nodeWith 9 = .ok (.getfield 23, 3) := by decide +kernel
theorem dX2_nodeWith_12 : decode cX2_nodeWith 12 = .ok (.aload_n 0, 1) := by decide +kernel
theorem dX2_nodeWith_13 : decode cX2_nodeWith 13 = .ok (.getfield 31, 3) := by decide +kernel
theorem dX2_nodeWith_16 : decode cX2_nodeWith 16 = .ok (.iload_n 1, 1) := by decide +kernel
theorem dX2_nodeWith_17 : decode cX2_nodeWith 17 = .ok (.iaload, 1) := by decide +kernel
theorem dX2_nodeWith_18 : decode cX2_nodeWith 18 = .ok (.iload_n 2, 1) := by decide +kernel
theorem dX2_nodeWith_19 : decode cX2_nodeWith 19 = .ok (.invokevirtual 43, 3) := by decide +kernel
theorem dX2_nodeWith_22 : decode cX2_nodeWith 22 = .ok (.goto 4, 3) := by decide +kernel
theorem dX2_nodeWith_25 : decode cX2_nodeWith 25 = .ok (.iconst 0, 1) := by decide +kernel
theorem dX2_nodeWith_26 : decode cX2_nodeWith 26 = .ok (.ireturn, 1) := by decide +kernel
set_option maxRecDepth 20000 in
theorem ggX2_handleFor_X2_makeRoom : GoodIn wsX2_handleFor wsX2_makeRoom := goodIn_r _ [6, 7, 8, 9, 10, 11, 12, 13, 14, 15, 16, 17, 18, 5, 19, 1, 20, 21, 22, 23, 24, 25, 26, 27, 28, 29, 30, 31, 32, 33, 34, 35, 36, 37, 38, 39, 40, 41, 42, 43, 44, 45, 46, 47, 48, 49, 50, 51, 52, 53, 54, 55, 56, 57, 58] (by decide +kernel) (by decide +kernel)
set_option maxRecDepth 20000 in
theorem gX2_handleFor_X2_makeRoom : GoodIn wsX2_handleFor (wsV RX2 134 RX2 yX2_makeRoom wsX2_makeRoom) := goodIn_app (goodIn_of _ (by decide +kernel)) ggX2_handleFor_X2_makeRoom
theorem dX2_handleFor_0 : decode cX2_handleFor 0 = .ok (.iconst 0, 1) := by decide +kernel
theorem dX2_handleFor_1 : decode cX2_handleFor 1 = .ok (.istore_n 2, 1) := by decide +kernel
theorem dX2_handleFor_2 : decode cX2_handleFor 2 = .ok (.iload_n 2, 1) := by decide +kernel
theorem dX2_handleFor_3 : decode cX2_handleFor 3 = .ok (.aload_n 0, 1) := by decide +kernel
theorem dX2_handleFor_4 : decode cX2_handleFor 4 = .ok (.getfield 27, 3) := by decide +kernel
theorem dX2_handleFor_7 : decode cX2_handleFor 7 = .ok (.arraylength, 1) := by decide +kernel
theorem dX2_handleFor_8 : decode cX2_handleFor 8 = .ok (.if_icmp .ge 33, 3) := by decide +kernel
theorem dX2_handleFor_11 : decode cX2_handleFor 11 = .ok (.aload_n 0, 1) := by decide +kernel
theorem dX2_handleFor_12 : decode cX2_handleFor 12 = .ok (.getfield 27, 3) := by decide +kernel
theorem dX2_handleFor_15 : decode cX2_handleFor 15 = .ok (.iload_n 2, 1) := by decide +kernel
theorem dX2_handleFor_16 : decode cX2_handleFor 16 = .ok (.baload, 1) := by decide +kernel
theorem dX2_handleFor_17 : decode cX2_handleFor 17 = .ok (.ifCond .ne 18, 3) := by decide +kernel
theorem dX2_handleFor_20 : decode cX2_handleFor 20 = .ok (.aload_n 0, 1) := by decide +kernel
theorem dX2_handleFor_21 : decode cX2_handleFor 21 = .ok (.iload_n 1, 1) := by decide +kernel
theorem dX2_handleFor_22 : decode cX2_handleFor 22 = .ok (.invokevirtual 134, 3) := by decide +kernel
theorem dX2_handleFor_25 : decode cX2_handleFor 25 = .ok (.ifCond .eq 7, 3) := by decide +kernel
theorem dX2_handleFor_28 : decode cX2_handleFor 28 = .ok (.iload_n 2, 1) := by decide +kernel
theorem dX2_handleFor_29 : decode cX2_handleFor 29 = .ok (.goto 5, 3) := by decide +kernel
theorem dX2_handleFor_32 : decode cX2_handleFor 32 = .ok (.bipush (-3), 2) := by decide +kernel
theorem dX2_handleFor_34 : decode cX2_handleFor 34 = .ok (.ireturn, 1) := by decide +kernel
theorem dX2_handleFor_35 : decode cX2_handleFor 35 = .ok (.iinc 2 1, 3) := by decide +kernel
theorem dX2_handleFor_38 : decode cX2_handleFor 38 = .ok (.goto (-36), 3) := by decide +kernel
theorem dX2_handleFor_41 : decode cX2_handleFor 41 = .ok (.bipush (-2), 2) := by decide +kernel
theorem dX2_handleFor_43 : decode cX2_handleFor 43 = .ok (.ireturn, 1) := by decide +kernel
set_option maxRecDepth 20000 in
theorem ggX2_makeRoom_X0_hasRoom : GoodIn wsX2_makeRoom wsX0_hasRoom := goodIn_r _ [7, 8, 9, 44, 45, 46, 47, 48, 49, 50, 51, 52, 53, 54] (by decide +kernel) (by decide +kernel)
set_option maxRecDepth 20000 in
theorem gX2_makeRoom_X0_hasRoom : GoodIn wsX2_makeRoom (wsV RX2 137 RX0 yX0_hasRoom wsX0_hasRoom) := goodIn_app (goodIn_of _ (by decide +kernel)) ggX2_makeRoom_X0_hasRoom
set_option maxRecDepth 20000 in
theorem ggX2_makeRoom_X2_reachLive : GoodIn wsX2_makeRoom wsX2_reachLive := goodIn_r _ [14, 1, 15, 16, 17, 18, 19, 6, 20, 9, 21, 22, 23, 24, 25, 26, 27, 28, 29, 30, 31, 32, 38, 39, 40, 41, 42, 43, 44, 45, 46, 47, 48, 49, 50, 51, 52, 53, 54] (by decide +kernel) (by decide +kernel)
set_option maxRecDepth 20000 in
theorem gX2_makeRoom_X2_reachLive : GoodIn wsX2_makeRoom (wsV RX2 125 RX2 yX2_reachLive wsX2_reachLive) := goodIn_app (goodIn_of _ (by decide +kernel)) ggX2_makeRoom_X2_reachLive
set_option maxRecDepth 20000 in
theorem ggX2_makeRoom_X0_keepReached : GoodIn wsX2_makeRoom wsX0_keepReached := goodIn_r _ [36, 8, 9, 37, 21, 44, 45, 46, 47, 48, 49, 50, 51, 52, 53, 54] (by decide +kernel) (by decide +kernel)
set_option maxRecDepth 20000 in
theorem gX2_makeRoom_X0_keepReached : GoodIn wsX2_makeRoom (wsV RX2 140 RX0 yX0_keepReached wsX0_keepReached) := goodIn_app (goodIn_of _ (by decide +kernel)) ggX2_makeRoom_X0_keepReached
theorem dX2_makeRoom_0 : decode cX2_makeRoom 0 = .ok (.aload_n 0, 1) := by decide +kernel
theorem dX2_makeRoom_1 : decode cX2_makeRoom 1 = .ok (.getfield 14, 3) := by decide +kernel
theorem dX2_makeRoom_4 : decode cX2_makeRoom 4 = .ok (.iload_n 1, 1) := by decide +kernel
theorem dX2_makeRoom_5 : decode cX2_makeRoom 5 = .ok (.invokevirtual 137, 3) := by decide +kernel
theorem dX2_makeRoom_8 : decode cX2_makeRoom 8 = .ok (.ifCond .eq 5, 3) := by decide +kernel
theorem dX2_makeRoom_11 : decode cX2_makeRoom 11 = .ok (.iconst 1, 1) := by decide +kernel
theorem dX2_makeRoom_12 : decode cX2_makeRoom 12 = .ok (.ireturn, 1) := by decide +kernel
theorem dX2_makeRoom_13 : decode cX2_makeRoom 13 = .ok (.aload_n 0, 1) := by decide +kernel
theorem dX2_makeRoom_14 : decode cX2_makeRoom 14 = .ok (.invokevirtual 125, 3) := by decide +kernel
theorem dX2_makeRoom_17 : decode cX2_makeRoom 17 = .ok (.pop, 1) := by decide +kernel
theorem dX2_makeRoom_18 : decode cX2_makeRoom 18 = .ok (.aload_n 0, 1) := by decide +kernel
theorem dX2_makeRoom_19 : decode cX2_makeRoom 19 = .ok (.getfield 14, 3) := by decide +kernel
theorem dX2_makeRoom_22 : decode cX2_makeRoom 22 = .ok (.invokevirtual 140, 3) := by decide +kernel
theorem dX2_makeRoom_25 : decode cX2_makeRoom 25 = .ok (.aload_n 0, 1) := by decide +kernel
theorem dX2_makeRoom_26 : decode cX2_makeRoom 26 = .ok (.dup, 1) := by decide +kernel
theorem dX2_makeRoom_27 : decode cX2_makeRoom 27 = .ok (.getfield 131, 3) := by decide +kernel
theorem dX2_makeRoom_30 : decode cX2_makeRoom 30 = .ok (.iconst 1, 1) := by decide +kernel
theorem dX2_makeRoom_31 : decode cX2_makeRoom 31 = .ok (.iadd, 1) := by decide +kernel
theorem dX2_makeRoom_32 : decode cX2_makeRoom 32 = .ok (.putfield 131, 3) := by decide +kernel
theorem dX2_makeRoom_35 : decode cX2_makeRoom 35 = .ok (.aload_n 0, 1) := by decide +kernel
theorem dX2_makeRoom_36 : decode cX2_makeRoom 36 = .ok (.getfield 14, 3) := by decide +kernel
theorem dX2_makeRoom_39 : decode cX2_makeRoom 39 = .ok (.iload_n 1, 1) := by decide +kernel
theorem dX2_makeRoom_40 : decode cX2_makeRoom 40 = .ok (.invokevirtual 137, 3) := by decide +kernel
theorem dX2_makeRoom_43 : decode cX2_makeRoom 43 = .ok (.ireturn, 1) := by decide +kernel
set_option maxRecDepth 20000 in
theorem ggX2_reachLive_X0_forgetReached : GoodIn wsX2_reachLive wsX0_forgetReached := goodIn_r _ [8, 9, 10, 28, 29, 30, 31, 32, 33, 34, 35, 36, 37, 38] (by decide +kernel) (by decide +kernel)
set_option maxRecDepth 20000 in
theorem gX2_reachLive_X0_forgetReached : GoodIn wsX2_reachLive (wsV RX2 115 RX0 yX0_forgetReached wsX0_forgetReached) := goodIn_app (goodIn_of _ (by decide +kernel)) ggX2_reachLive_X0_forgetReached
set_option maxRecDepth 20000 in
theorem ggX2_reachLive_X0_reach : GoodIn wsX2_reachLive wsX0_reach := goodIn_r _ [14, 9, 15, 16, 17, 18, 19, 20, 7, 21, 10, 28, 29, 30, 31, 32, 33, 34, 35, 36, 37, 38] (by decide +kernel) (by decide +kernel)
set_option maxRecDepth 20000 in
theorem gX2_reachLive_X0_reach : GoodIn wsX2_reachLive (wsV RX2 118 RX0 yX0_reach wsX0_reach) := goodIn_app (goodIn_of _ (by decide +kernel)) ggX2_reachLive_X0_reach
theorem dX2_reachLive_0 : decode cX2_reachLive 0 = .ok (.aload_n 0, 1) := by decide +kernel
theorem dX2_reachLive_1 : decode cX2_reachLive 1 = .ok (.getfield 14, 3) := by decide +kernel
theorem dX2_reachLive_4 : decode cX2_reachLive 4 = .ok (.invokevirtual 115, 3) := by decide +kernel
theorem dX2_reachLive_7 : decode cX2_reachLive 7 = .ok (.iconst 0, 1) := by decide +kernel
theorem dX2_reachLive_8 : decode cX2_reachLive 8 = .ok (.istore_n 1, 1) := by decide +kernel
theorem dX2_reachLive_9 : decode cX2_reachLive 9 = .ok (.iconst 0, 1) := by decide +kernel
theorem dX2_reachLive_10 : decode cX2_reachLive 10 = .ok (.istore_n 2, 1) := by decide +kernel
theorem dX2_reachLive_11 : decode cX2_reachLive 11 = .ok (.iload_n 2, 1) := by decide +kernel
theorem dX2_reachLive_12 : decode cX2_reachLive 12 = .ok (.aload_n 0, 1) := by decide +kernel
theorem dX2_reachLive_13 : decode cX2_reachLive 13 = .ok (.getfield 27, 3) := by decide +kernel
theorem dX2_reachLive_16 : decode cX2_reachLive 16 = .ok (.arraylength, 1) := by decide +kernel
theorem dX2_reachLive_17 : decode cX2_reachLive 17 = .ok (.if_icmp .ge 34, 3) := by decide +kernel
theorem dX2_reachLive_20 : decode cX2_reachLive 20 = .ok (.aload_n 0, 1) := by decide +kernel
theorem dX2_reachLive_21 : decode cX2_reachLive 21 = .ok (.getfield 27, 3) := by decide +kernel
theorem dX2_reachLive_24 : decode cX2_reachLive 24 = .ok (.iload_n 2, 1) := by decide +kernel
theorem dX2_reachLive_25 : decode cX2_reachLive 25 = .ok (.baload, 1) := by decide +kernel
theorem dX2_reachLive_26 : decode cX2_reachLive 26 = .ok (.ifCond .eq 19, 3) := by decide +kernel
theorem dX2_reachLive_29 : decode cX2_reachLive 29 = .ok (.iload_n 1, 1) := by decide +kernel
theorem dX2_reachLive_30 : decode cX2_reachLive 30 = .ok (.aload_n 0, 1) := by decide +kernel
theorem dX2_reachLive_31 : decode cX2_reachLive 31 = .ok (.getfield 14, 3) := by decide +kernel
theorem dX2_reachLive_34 : decode cX2_reachLive 34 = .ok (.aload_n 0, 1) := by decide +kernel
theorem dX2_reachLive_35 : decode cX2_reachLive 35 = .ok (.getfield 31, 3) := by decide +kernel
theorem dX2_reachLive_38 : decode cX2_reachLive 38 = .ok (.iload_n 2, 1) := by decide +kernel
theorem dX2_reachLive_39 : decode cX2_reachLive 39 = .ok (.iaload, 1) := by decide +kernel
theorem dX2_reachLive_40 : decode cX2_reachLive 40 = .ok (.invokevirtual 118, 3) := by decide +kernel
theorem dX2_reachLive_43 : decode cX2_reachLive 43 = .ok (.iadd, 1) := by decide +kernel
theorem dX2_reachLive_44 : decode cX2_reachLive 44 = .ok (.istore_n 1, 1) := by decide +kernel
theorem dX2_reachLive_45 : decode cX2_reachLive 45 = .ok (.iinc 2 1, 3) := by decide +kernel
theorem dX2_reachLive_48 : decode cX2_reachLive 48 = .ok (.goto (-37), 3) := by decide +kernel
theorem dX2_reachLive_51 : decode cX2_reachLive 51 = .ok (.iload_n 1, 1) := by decide +kernel
theorem dX2_reachLive_52 : decode cX2_reachLive 52 = .ok (.ireturn, 1) := by decide +kernel
theorem dX2_open_0 : decode cX2_open 0 = .ok (.aload_n 0, 1) := by decide +kernel
theorem dX2_open_1 : decode cX2_open 1 = .ok (.getfield 27, 3) := by decide +kernel
theorem dX2_open_4 : decode cX2_open 4 = .ok (.iload_n 1, 1) := by decide +kernel
theorem dX2_open_5 : decode cX2_open 5 = .ok (.iconst 1, 1) := by decide +kernel
theorem dX2_open_6 : decode cX2_open 6 = .ok (.bastore, 1) := by decide +kernel
theorem dX2_open_7 : decode cX2_open 7 = .ok (.aload_n 0, 1) := by decide +kernel
theorem dX2_open_8 : decode cX2_open 8 = .ok (.getfield 31, 3) := by decide +kernel
theorem dX2_open_11 : decode cX2_open 11 = .ok (.iload_n 1, 1) := by decide +kernel
theorem dX2_open_12 : decode cX2_open 12 = .ok (.iload_n 2, 1) := by decide +kernel
theorem dX2_open_13 : decode cX2_open 13 = .ok (.iastore, 1) := by decide +kernel
theorem dX2_open_14 : decode cX2_open 14 = .ok (.iload_n 1, 1) := by decide +kernel
theorem dX2_open_15 : decode cX2_open 15 = .ok (.ireturn, 1) := by decide +kernel
theorem dX2_drawWeight_0 : decode cX2_drawWeight 0 = .ok (.aload_n 0, 1) := by decide +kernel
theorem dX2_drawWeight_1 : decode cX2_drawWeight 1 = .ok (.aload_n 0, 1) := by decide +kernel
theorem dX2_drawWeight_2 : decode cX2_drawWeight 2 = .ok (.getfield 35, 3) := by decide +kernel
theorem dX2_drawWeight_5 : decode cX2_drawWeight 5 = .ok (.ldc 143, 2) := by decide +kernel
theorem dX2_drawWeight_7 : decode cX2_drawWeight 7 = .ok (.imul, 1) := by decide +kernel
theorem dX2_drawWeight_8 : decode cX2_drawWeight 8 = .ok (.sipush 12345, 3) := by decide +kernel
theorem dX2_drawWeight_11 : decode cX2_drawWeight 11 = .ok (.iadd, 1) := by decide +kernel
theorem dX2_drawWeight_12 : decode cX2_drawWeight 12 = .ok (.putfield 35, 3) := by decide +kernel
theorem dX2_drawWeight_15 : decode cX2_drawWeight 15 = .ok (.aload_n 0, 1) := by decide +kernel
theorem dX2_drawWeight_16 : decode cX2_drawWeight 16 = .ok (.getfield 35, 3) := by decide +kernel
theorem dX2_drawWeight_19 : decode cX2_drawWeight 19 = .ok (.bipush 16, 2) := by decide +kernel
