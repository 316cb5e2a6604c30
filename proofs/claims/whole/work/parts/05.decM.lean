theorem dX2_drawWeight_21 : decode cX2_drawWeight 21 = .ok (.iushr, 1) := by decide +kernel
theorem dX2_drawWeight_22 : decode cX2_drawWeight 22 = .ok (.bipush 15, 2) := by decide +kernel
theorem dX2_drawWeight_24 : decode cX2_drawWeight 24 = .ok (.iand, 1) := by decide +kernel
theorem dX2_drawWeight_25 : decode cX2_drawWeight 25 = .ok (.ireturn, 1) := by decide +kernel
theorem dX3_init_0 : decode cX3_init 0 = .ok (.aload_n 0, 1) := by decide +kernel
theorem dX3_init_1 : decode cX3_init 1 = .ok (.invokespecial 1, 3) := by decide +kernel
theorem dX3_init_4 : decode cX3_init 4 = .ok (.aload_n 0, 1) := by decide +kernel
theorem dX3_init_5 : decode cX3_init 5 = .ok (.sipush 160, 3) := by decide +kernel
theorem dX3_init_8 : decode cX3_init 8 = .ok (.newarray .int, 2) := by decide +kernel
theorem dX3_init_10 : decode cX3_init 10 = .ok (.putfield 7, 3) := by decide +kernel
theorem dX3_init_13 : decode cX3_init 13 = .ok (.aload_n 0, 1) := by decide +kernel
theorem dX3_init_14 : decode cX3_init 14 = .ok (.sipush 160, 3) := by decide +kernel
theorem dX3_init_17 : decode cX3_init 17 = .ok (.newarray .int, 2) := by decide +kernel
theorem dX3_init_19 : decode cX3_init 19 = .ok (.putfield 13, 3) := by decide +kernel
theorem dX3_init_22 : decode cX3_init 22 = .ok (.aload_n 0, 1) := by decide +kernel
theorem dX3_init_23 : decode cX3_init 23 = .ok (.sipush 160, 3) := by decide +kernel
theorem dX3_init_26 : decode cX3_init 26 = .ok (.newarray .int, 2) := by decide +kernel
theorem dX3_init_28 : decode cX3_init 28 = .ok (.putfield 16, 3) := by decide +kernel
theorem dX3_init_31 : decode cX3_init 31 = .ok (.aload_n 0, 1) := by decide +kernel
theorem dX3_init_32 : decode cX3_init 32 = .ok (.sipush 160, 3) := by decide +kernel
theorem dX3_init_35 : decode cX3_init 35 = .ok (.newarray .int, 2) := by decide +kernel
theorem dX3_init_37 : decode cX3_init 37 = .ok (.putfield 19, 3) := by decide +kernel
theorem dX3_init_40 : decode cX3_init 40 = .ok (.aload_n 0, 1) := by decide +kernel
theorem dX3_init_41 : decode cX3_init 41 = .ok (.sipush 160, 3) := by decide +kernel
theorem dX3_init_44 : decode cX3_init 44 = .ok (.newarray .int, 2) := by decide +kernel
theorem dX3_init_46 : decode cX3_init 46 = .ok (.putfield 22, 3) := by decide +kernel
theorem dX3_init_49 : decode cX3_init 49 = .ok (.aload_n 0, 1) := by decide +kernel
theorem dX3_init_50 : decode cX3_init 50 = .ok (.sipush 160, 3) := by decide +kernel
theorem dX3_init_53 : decode cX3_init 53 = .ok (.newarray .boolean, 2) := by decide +kernel
theorem dX3_init_55 : decode cX3_init 55 = .ok (.putfield 25, 3) := by decide +kernel
theorem dX3_init_58 : decode cX3_init 58 = .ok (.aload_n 0, 1) := by decide +kernel
theorem dX3_init_59 : decode cX3_init 59 = .ok (.sipush 160, 3) := by decide +kernel
theorem dX3_init_62 : decode cX3_init 62 = .ok (.newarray .boolean, 2) := by decide +kernel
theorem dX3_init_64 : decode cX3_init 64 = .ok (.putfield 29, 3) := by decide +kernel
theorem dX3_init_67 : decode cX3_init 67 = .ok (.aload_n 0, 1) := by decide +kernel
theorem dX3_init_68 : decode cX3_init 68 = .ok (.sipush 160, 3) := by decide +kernel
theorem dX3_init_71 : decode cX3_init 71 = .ok (.newarray .int, 2) := by decide +kernel
theorem dX3_init_73 : decode cX3_init 73 = .ok (.putfield 32, 3) := by decide +kernel
theorem dX3_init_76 : decode cX3_init 76 = .ok (.aload_n 0, 1) := by decide +kernel
theorem dX3_init_77 : decode cX3_init 77 = .ok (.bipush 8, 2) := by decide +kernel
theorem dX3_init_79 : decode cX3_init 79 = .ok (.newarray .boolean, 2) := by decide +kernel
theorem dX3_init_81 : decode cX3_init 81 = .ok (.putfield 35, 3) := by decide +kernel
theorem dX3_init_84 : decode cX3_init 84 = .ok (.aload_n 0, 1) := by decide +kernel
theorem dX3_init_85 : decode cX3_init 85 = .ok (.bipush 8, 2) := by decide +kernel
theorem dX3_init_87 : decode cX3_init 87 = .ok (.newarray .int, 2) := by decide +kernel
theorem dX3_init_89 : decode cX3_init 89 = .ok (.putfield 38, 3) := by decide +kernel
theorem dX3_init_92 : decode cX3_init 92 = .ok (.aload_n 0, 1) := by decide +kernel
theorem dX3_init_93 : decode cX3_init 93 = .ok (.bipush 64, 2) := by decide +kernel
theorem dX3_init_95 : decode cX3_init 95 = .ok (.newarray .int, 2) := by decide +kernel
theorem dX3_init_97 : decode cX3_init 97 = .ok (.putfield 41, 3) := by decide +kernel
theorem dX3_init_100 : decode cX3_init 100 = .ok (.aload_n 0, 1) := by decide +kernel
theorem dX3_init_101 : decode cX3_init 101 = .ok (.iload_n 1, 1) := by decide +kernel
theorem dX3_init_102 : decode cX3_init 102 = .ok (.iconst 1, 1) := by decide +kernel
theorem dX3_init_103 : decode cX3_init 103 = .ok (.if_icmp .lt 9, 3) := by decide +kernel
theorem dX3_init_106 : decode cX3_init 106 = .ok (.iload_n 1, 1) := by decide +kernel
theorem dX3_init_107 : decode cX3_init 107 = .ok (.bipush 40, 2) := by decide +kernel
theorem dX3_init_109 : decode cX3_init 109 = .ok (.if_icmp .le 8, 3) := by decide +kernel
theorem dX3_init_112 : decode cX3_init 112 = .ok (.bipush 20, 2) := by decide +kernel
theorem dX3_init_114 : decode cX3_init 114 = .ok (.goto 4, 3) := by decide +kernel
theorem dX3_init_117 : decode cX3_init 117 = .ok (.iload_n 1, 1) := by decide +kernel
theorem dX3_init_118 : decode cX3_init 118 = .ok (.putfield 44, 3) := by decide +kernel
theorem dX3_init_121 : decode cX3_init 121 = .ok (.aload_n 0, 1) := by decide +kernel
theorem dX3_init_122 : decode cX3_init 122 = .ok (.iload_n 2, 1) := by decide +kernel
theorem dX3_init_123 : decode cX3_init 123 = .ok (.iconst 1, 1) := by decide +kernel
theorem dX3_init_124 : decode cX3_init 124 = .ok (.if_icmp .lt 9, 3) := by decide +kernel
theorem dX3_init_127 : decode cX3_init 127 = .ok (.iload_n 2, 1) := by decide +kernel
theorem dX3_init_128 : decode cX3_init 128 = .ok (.bipush 8, 2) := by decide +kernel
theorem dX3_init_130 : decode cX3_init 130 = .ok (.if_icmp .le 7, 3) := by decide +kernel
theorem dX3_init_133 : decode cX3_init 133 = .ok (.iconst 4, 1) := by decide +kernel
theorem dX3_init_134 : decode cX3_init 134 = .ok (.goto 4, 3) := by decide +kernel
theorem dX3_init_137 : decode cX3_init 137 = .ok (.iload_n 2, 1) := by decide +kernel
theorem dX3_init_138 : decode cX3_init 138 = .ok (.putfield 48, 3) := by decide +kernel
theorem dX3_init_141 : decode cX3_init 141 = .ok (.aload_n 0, 1) := by decide +kernel
theorem dX3_init_142 : decode cX3_init 142 = .ok (.iload_n 3, 1) := by decide +kernel
theorem dX3_init_143 : decode cX3_init 143 = .ok (.putfield 51, 3) := by decide +kernel
theorem dX3_init_146 : decode cX3_init 146 = .ok (.aload_n 0, 1) := by decide +kernel
theorem dX3_init_147 : decode cX3_init 147 = .ok (.getfield 35, 3) := by decide +kernel
theorem dX3_init_150 : decode cX3_init 150 = .ok (.iconst 0, 1) := by decide +kernel
theorem dX3_init_151 : decode cX3_init 151 = .ok (.iconst 1, 1) := by decide +kernel
theorem dX3_init_152 : decode cX3_init 152 = .ok (.bastore, 1) := by decide +kernel
theorem dX3_init_153 : decode cX3_init 153 = .ok (.iconst 0, 1) := by decide +kernel
theorem dX3_init_154 : decode cX3_init 154 = .ok (.istore 4, 2) := by decide +kernel
theorem dX3_init_156 : decode cX3_init 156 = .ok (.iload 4, 2) := by decide +kernel
theorem dX3_init_158 : decode cX3_init 158 = .ok (.bipush 8, 2) := by decide +kernel
theorem dX3_init_160 : decode cX3_init 160 = .ok (.if_icmp .ge 17, 3) := by decide +kernel
theorem dX3_init_163 : decode cX3_init 163 = .ok (.aload_n 0, 1) := by decide +kernel
theorem dX3_init_164 : decode cX3_init 164 = .ok (.getfield 38, 3) := by decide +kernel
theorem dX3_init_167 : decode cX3_init 167 = .ok (.iload 4, 2) := by decide +kernel
theorem dX3_init_169 : decode cX3_init 169 = .ok (.iconst (-1), 1) := by decide +kernel
theorem dX3_init_170 : decode cX3_init 170 = .ok (.iastore, 1) := by decide +kernel
theorem dX3_init_171 : decode cX3_init 171 = .ok (.iinc 4 1, 3) := by decide +kernel
theorem dX3_init_174 : decode cX3_init 174 = .ok (.goto (-18), 3) := by decide +kernel
theorem dX3_init_177 : decode cX3_init 177 = .ok (.return_, 1) := by decide +kernel
theorem dX3_thrown_0 : decode cX3_thrown 0 = .ok (.aload_n 0, 1) := by decide +kernel
theorem dX3_thrown_1 : decode cX3_thrown 1 = .ok (.getfield 54, 3) := by decide +kernel
theorem dX3_thrown_4 : decode cX3_thrown 4 = .ok (.ireturn, 1) := by decide +kernel
theorem dX3_fail_0 : decode cX3_fail 0 = .ok (.aload_n 0, 1) := by decide +kernel
theorem dX3_fail_1 : decode cX3_fail 1 = .ok (.iload_n 1, 1) := by decide +kernel
theorem dX3_fail_2 : decode cX3_fail 2 = .ok (.putfield 54, 3) := by decide +kernel
theorem dX3_fail_5 : decode cX3_fail 5 = .ok (.iconst 0, 1) := by decide +kernel
theorem dX3_fail_6 : decode cX3_fail 6 = .ok (.ireturn, 1) := by decide +kernel
theorem dX3_has_0 : decode cX3_has 0 = .ok (.iload_n 1, 1) := by decide +kernel
theorem dX3_has_1 : decode cX3_has 1 = .ok (.ifCond .lt 24, 3) := by decide +kernel
theorem dX3_has_4 : decode cX3_has 4 = .ok (.iload_n 1, 1) := by decide +kernel
theorem dX3_has_5 : decode cX3_has 5 = .ok (.aload_n 0, 1) := by decide +kernel
theorem dX3_has_6 : decode cX3_has 6 = .ok (.getfield 48, 3) := by decide +kernel
theorem dX3_has_9 : decode cX3_has 9 = .ok (.if_icmp .ge 16, 3) := by decide +kernel
theorem dX3_has_12 : decode cX3_has 12 = .ok (.aload_n 0, 1) := by decide +kernel
theorem dX3_has_13 : decode cX3_has 13 = .ok (.getfield 35, 3) := by decide +kernel
theorem dX3_has_16 : decode cX3_has 16 = .ok (.iload_n 1, 1) := by decide +kernel
theorem dX3_has_17 : decode cX3_has 17 = .ok (.baload, 1) := by decide +kernel
theorem dX3_has_18 : decode cX3_has 18 = .ok (.ifCond .eq 7, 3) := by decide +kernel
theorem dX3_has_21 : decode cX3_has 21 = .ok (.iconst 1, 1) := by decide +kernel
theorem dX3_has_22 : decode cX3_has 22 = .ok (.goto 4, 3) := by decide +kernel
theorem dX3_has_25 : decode cX3_has 25 = .ok (.iconst 0, 1) := by decide +kernel
theorem dX3_has_26 : decode cX3_has 26 = .ok (.ireturn, 1) := by decide +kernel
theorem dX3_mark_0 : decode cX3_mark 0 = .ok (.iconst 0, 1) := by decide +kernel
theorem dX3_mark_1 : decode cX3_mark 1 = .ok (.istore_n 3, 1) := by decide +kernel
theorem dX3_mark_2 : decode cX3_mark 2 = .ok (.aload_n 0, 1) := by decide +kernel
theorem dX3_mark_3 : decode cX3_mark 3 = .ok (.iconst 0, 1) := by decide +kernel
theorem dX3_mark_4 : decode cX3_mark 4 = .ok (.putfield 57, 3) := by decide +kernel
theorem dX3_mark_7 : decode cX3_mark 7 = .ok (.iload_n 1, 1) := by decide +kernel
theorem dX3_mark_8 : decode cX3_mark 8 = .ok (.ifCond .lt 15, 3) := by decide +kernel
theorem dX3_mark_11 : decode cX3_mark 11 = .ok (.aload_n 0, 1) := by decide +kernel
theorem dX3_mark_12 : decode cX3_mark 12 = .ok (.getfield 32, 3) := by decide +kernel
theorem dX3_mark_15 : decode cX3_mark 15 = .ok (.iconst 0, 1) := by decide +kernel
theorem dX3_mark_16 : decode cX3_mark 16 = .ok (.iload_n 1, 1) := by decide +kernel
theorem dX3_mark_17 : decode cX3_mark 17 = .ok (.iastore, 1) := by decide +kernel
theorem dX3_mark_18 : decode cX3_mark 18 = .ok (.aload_n 0, 1) := by decide +kernel
theorem dX3_mark_19 : decode cX3_mark 19 = .ok (.iconst 1, 1) := by decide +kernel
theorem dX3_mark_20 : decode cX3_mark 20 = .ok (.putfield 57, 3) := by decide +kernel
theorem dX3_mark_23 : decode cX3_mark 23 = .ok (.aload_n 0, 1) := by decide +kernel
theorem dX3_mark_24 : decode cX3_mark 24 = .ok (.getfield 57, 3) := by decide +kernel
theorem dX3_mark_27 : decode cX3_mark 27 = .ok (.ifCond .le 114, 3) := by decide +kernel
theorem dX3_mark_30 : decode cX3_mark 30 = .ok (.aload_n 0, 1) := by decide +kernel
theorem dX3_mark_31 : decode cX3_mark 31 = .ok (.dup, 1) := by decide +kernel
theorem dX3_mark_32 : decode cX3_mark 32 = .ok (.getfield 57, 3) := by decide +kernel
theorem dX3_mark_35 : decode cX3_mark 35 = .ok (.iconst 1, 1) := by decide +kernel
theorem dX3_mark_36 : decode cX3_mark 36 = .ok (.isub, 1) := by decide +kernel
theorem dX3_mark_37 : decode cX3_mark 37 = .ok (.putfield 57, 3) := by decide +kernel
theorem dX3_mark_40 : decode cX3_mark 40 = .ok (.aload_n 0, 1) := by decide +kernel
theorem dX3_mark_41 : decode cX3_mark 41 = .ok (.getfield 32, 3) := by decide +kernel
theorem dX3_mark_44 : decode cX3_mark 44 = .ok (.aload_n 0, 1) := by decide +kernel
theorem dX3_mark_45 : decode cX3_mark 45 = .ok (.getfield 57, 3) := by decide +kernel
theorem dX3_mark_48 : decode cX3_mark 48 = .ok (.iaload, 1) := by decide +kernel
theorem dX3_mark_49 : decode cX3_mark 49 = .ok (.istore 4, 2) := by decide +kernel
theorem dX3_mark_51 : decode cX3_mark 51 = .ok (.aload_n 2, 1) := by decide +kernel
theorem dX3_mark_52 : decode cX3_mark 52 = .ok (.iload 4, 2) := by decide +kernel
theorem dX3_mark_54 : decode cX3_mark 54 = .ok (.baload, 1) := by decide +kernel
theorem dX3_mark_55 : decode cX3_mark 55 = .ok (.ifCond .ne 83, 3) := by decide +kernel
theorem dX3_mark_58 : decode cX3_mark 58 = .ok (.aload_n 2, 1) := by decide +kernel
theorem dX3_mark_59 : decode cX3_mark 59 = .ok (.iload 4, 2) := by decide +kernel
theorem dX3_mark_61 : decode cX3_mark 61 = .ok (.iconst 1, 1) := by decide +kernel
theorem dX3_mark_62 : decode cX3_mark 62 = .ok (.bastore, 1) := by decide +kernel
theorem dX3_mark_63 : decode cX3_mark 63 = .ok (.iinc 3 1, 3) := by decide +kernel
theorem dX3_mark_66 : decode cX3_mark 66 = .ok (.aload_n 0, 1) := by decide +kernel
theorem dX3_mark_67 : decode cX3_mark 67 = .ok (.getfield 19, 3) := by decide +kernel
theorem dX3_mark_70 : decode cX3_mark 70 = .ok (.iload 4, 2) := by decide +kernel
theorem dX3_mark_72 : decode cX3_mark 72 = .ok (.iaload, 1) := by decide +kernel
theorem dX3_mark_73 : decode cX3_mark 73 = .ok (.ifCond .lt 29, 3) := by decide +kernel
theorem dX3_mark_76 : decode cX3_mark 76 = .ok (.aload_n 0, 1) := by decide +kernel
theorem dX3_mark_77 : decode cX3_mark 77 = .ok (.getfield 32, 3) := by decide +kernel
theorem dX3_mark_80 : decode cX3_mark 80 = .ok (.aload_n 0, 1) := by decide +kernel
theorem dX3_mark_81 : decode cX3_mark 81 = .ok (.getfield 57, 3) := by decide +kernel
theorem dX3_mark_84 : decode cX3_mark 84 = .ok (.aload_n 0, 1) := by decide +kernel
theorem dX3_mark_85 : decode cX3_mark 85 = .ok (.getfield 19, 3) := by decide +kernel
theorem dX3_mark_88 : decode cX3_mark 88 = .ok (.iload 4, 2) := by decide +kernel
theorem dX3_mark_90 : decode cX3_mark 90 = .ok (.iaload, 1) := by decide +kernel
theorem dX3_mark_91 : decode cX3_mark 91 = .ok (.iastore, 1) := by decide +kernel
theorem dX3_mark_92 : decode cX3_mark 92 = .ok (.aload_n 0, 1) := by decide +kernel
theorem dX3_mark_93 : decode cX3_mark 93 = .ok (.dup, 1) := by decide +kernel
theorem dX3_mark_94 : decode cX3_mark 94 = .ok (.getfield 57, 3) := by decide +kernel
theorem dX3_mark_97 : decode cX3_mark 97 = .ok (.iconst 1, 1) := by decide +kernel
theorem dX3_mark_98 : decode cX3_mark 98 = .ok (.iadd, 1) := by decide +kernel
theorem dX3_mark_99 : decode cX3_mark 99 = .ok (.putfield 57, 3) := by decide +kernel
theorem dX3_mark_102 : decode cX3_mark 102 = .ok (.aload_n 0, 1) := by decide +kernel
theorem dX3_mark_103 : decode cX3_mark 103 = .ok (.getfield 22, 3) := by decide +kernel
theorem dX3_mark_106 : decode cX3_mark 106 = .ok (.iload 4, 2) := by decide +kernel
theorem dX3_mark_108 : decode cX3_mark 108 = .ok (.iaload, 1) := by decide +kernel
theorem dX3_mark_109 : decode cX3_mark 109 = .ok (.ifCond .lt 29, 3) := by decide +kernel
theorem dX3_mark_112 : decode cX3_mark 112 = .ok (.aload_n 0, 1) := by decide +kernel
theorem dX3_mark_113 : decode cX3_mark 113 = .ok (.getfield 32, 3) := by decide +kernel
theorem dX3_mark_116 : decode cX3_mark 116 = .ok (.aload_n 0, 1) := by decide +kernel
theorem dX3_mark_117 : decode cX3_mark 117 = .ok (.getfield 57, 3) := by decide +kernel
theorem dX3_mark_120 : decode cX3_mark 120 = .ok (.aload_n 0, 1) := by decide +kernel
theorem dX3_mark_121 : decode cX3_mark 121 = .ok (.getfield 22, 3) := by decide +kernel
theorem dX3_mark_124 : decode cX3_mark 124 = .ok (.iload 4, 2) := by decide +kernel
theorem dX3_mark_126 : decode cX3_mark 126 = .ok (.iaload, 1) := by decide +kernel
theorem dX3_mark_127 : decode cX3_mark 127 = .ok (.iastore, 1) := by decide +kernel
theorem dX3_mark_128 : decode cX3_mark 128 = .ok (.aload_n 0, 1) := by decide +kernel
theorem dX3_mark_129 : decode cX3_mark 129 = .ok (.dup, 1) := by decide +kernel
theorem dX3_mark_130 : decode cX3_mark 130 = .ok (.getfield 57, 3) := by decide +kernel
theorem dX3_mark_133 : decode cX3_mark 133 = .ok (.iconst 1, 1) := by decide +kernel
theorem dX3_mark_134 : decode cX3_mark 134 = .ok (.iadd, 1) := by decide +kernel
theorem dX3_mark_135 : decode cX3_mark 135 = .ok (.putfield 57, 3) := by decide +kernel
theorem dX3_mark_138 : decode cX3_mark 138 = .ok (.goto (-115), 3) := by decide +kernel
theorem dX3_mark_141 : decode cX3_mark 141 = .ok (.iload_n 3, 1) := by decide +kernel
theorem dX3_mark_142 : decode cX3_mark 142 = .ok (.ireturn, 1) := by decide +kernel
set_option maxRecDepth 20000 in
theorem ggX3_markAll_X3_mark : GoodIn wsX3_markAll wsX3_mark := goodIn_r _ [9, 10, 11, 12, 13, 14, 15, 16, 17, 18, 19, 20, 21, 22, 23, 24, 25, 26, 27, 28, 29, 30, 31, 32, 33, 34, 35, 36, 37] (by decide +kernel) (by decide +kernel)
set_option maxRecDepth 20000 in
theorem gX3_markAll_X3_mark : GoodIn wsX3_markAll (wsV RX3 60 RX3 yX3_mark wsX3_mark) := goodIn_app (goodIn_of _ (by decide +kernel)) ggX3_markAll_X3_mark
theorem dX3_markAll_0 : decode cX3_markAll 0 = .ok (.iconst 0, 1) := by decide +kernel
theorem dX3_markAll_1 : decode cX3_markAll 1 = .ok (.istore_n 1, 1) := by decide +kernel
theorem dX3_markAll_2 : decode cX3_markAll 2 = .ok (.iload_n 1, 1) := by decide +kernel
theorem dX3_markAll_3 : decode cX3_markAll 3 = .ok (.sipush 160, 3) := by decide +kernel
theorem dX3_markAll_6 : decode cX3_markAll 6 = .ok (.if_icmp .ge 16, 3) := by decide +kernel
theorem dX3_markAll_9 : decode cX3_markAll 9 = .ok (.aload_n 0, 1) := by decide +kernel
theorem dX3_markAll_10 : decode cX3_markAll 10 = .ok (.getfield 25, 3) := by decide +kernel
theorem dX3_markAll_13 : decode cX3_markAll 13 = .ok (.iload_n 1, 1) := by decide +kernel
theorem dX3_markAll_14 : decode cX3_markAll 14 = .ok (.iconst 0, 1) := by decide +kernel
theorem dX3_markAll_15 : decode cX3_markAll 15 = .ok (.bastore, 1) := by decide +kernel
theorem dX3_markAll_16 : decode cX3_markAll 16 = .ok (.iinc 1 1, 3) := by decide +kernel
theorem dX3_markAll_19 : decode cX3_markAll 19 = .ok (.goto (-17), 3) := by decide +kernel
theorem dX3_markAll_22 : decode cX3_markAll 22 = .ok (.iconst 0, 1) := by decide +kernel
theorem dX3_markAll_23 : decode cX3_markAll 23 = .ok (.istore_n 1, 1) := by decide +kernel
theorem dX3_markAll_24 : decode cX3_markAll 24 = .ok (.iconst 0, 1) := by decide +kernel
theorem dX3_markAll_25 : decode cX3_markAll 25 = .ok (.istore_n 2, 1) := by decide +kernel
theorem dX3_markAll_26 : decode cX3_markAll 26 = .ok (.iload_n 2, 1) := by decide +kernel
theorem dX3_markAll_27 : decode cX3_markAll 27 = .ok (.aload_n 0, 1) := by decide +kernel
theorem dX3_markAll_28 : decode cX3_markAll 28 = .ok (.getfield 48, 3) := by decide +kernel
theorem dX3_markAll_31 : decode cX3_markAll 31 = .ok (.if_icmp .ge 39, 3) := by decide +kernel
theorem dX3_markAll_34 : decode cX3_markAll 34 = .ok (.aload_n 0, 1) := by decide +kernel
theorem dX3_markAll_35 : decode cX3_markAll 35 = .ok (.getfield 35, 3) := by decide +kernel
theorem dX3_markAll_38 : decode cX3_markAll 38 = .ok (.iload_n 2, 1) := by decide +kernel
theorem dX3_markAll_39 : decode cX3_markAll 39 = .ok (.baload, 1) := by decide +kernel
theorem dX3_markAll_40 : decode cX3_markAll 40 = .ok (.ifCond .eq 22, 3) := by decide +kernel
theorem dX3_markAll_43 : decode cX3_markAll 43 = .ok (.iload_n 1, 1) := by decide +kernel
theorem dX3_markAll_44 : decode cX3_markAll 44 = .ok (.aload_n 0, 1) := by decide +kernel
theorem dX3_markAll_45 : decode cX3_markAll 45 = .ok (.aload_n 0, 1) := by decide +kernel
theorem dX3_markAll_46 : decode cX3_markAll 46 = .ok (.getfield 38, 3) := by decide +kernel
theorem dX3_markAll_49 : decode cX3_markAll 49 = .ok (.iload_n 2, 1) := by decide +kernel
theorem dX3_markAll_50 : decode cX3_markAll 50 = .ok (.iaload, 1) := by decide +kernel
theorem dX3_markAll_51 : decode cX3_markAll 51 = .ok (.aload_n 0, 1) := by decide +kernel
theorem dX3_markAll_52 : decode cX3_markAll 52 = .ok (.getfield 25, 3) := by decide +kernel
theorem dX3_markAll_55 : decode cX3_markAll 55 = .ok (.invokevirtual 60, 3) := by decide +kernel
theorem dX3_markAll_58 : decode cX3_markAll 58 = .ok (.iadd, 1) := by decide +kernel
theorem dX3_markAll_59 : decode cX3_markAll 59 = .ok (.goto 4, 3) := by decide +kernel
theorem dX3_markAll_62 : decode cX3_markAll 62 = .ok (.iload_n 1, 1) := by decide +kernel
theorem dX3_markAll_63 : decode cX3_markAll 63 = .ok (.istore_n 1, 1) := by decide +kernel
theorem dX3_markAll_64 : decode cX3_markAll 64 = .ok (.iinc 2 1, 3) := by decide +kernel
theorem dX3_markAll_67 : decode cX3_markAll 67 = .ok (.goto (-41), 3) := by decide +kernel
theorem dX3_markAll_70 : decode cX3_markAll 70 = .ok (.iload_n 1, 1) := by decide +kernel
theorem dX3_markAll_71 : decode cX3_markAll 71 = .ok (.ireturn, 1) := by decide +kernel
theorem dX3_above_0 : decode cX3_above 0 = .ok (.aload_n 0, 1) := by decide +kernel
theorem dX3_above_1 : decode cX3_above 1 = .ok (.getfield 16, 3) := by decide +kernel
theorem dX3_above_4 : decode cX3_above 4 = .ok (.iload_n 1, 1) := by decide +kernel
theorem dX3_above_5 : decode cX3_above 5 = .ok (.iaload, 1) := by decide +kernel
theorem dX3_above_6 : decode cX3_above 6 = .ok (.aload_n 0, 1) := by decide +kernel
theorem dX3_above_7 : decode cX3_above 7 = .ok (.getfield 16, 3) := by decide +kernel
theorem dX3_above_10 : decode cX3_above 10 = .ok (.iload_n 2, 1) := by decide +kernel
theorem dX3_above_11 : decode cX3_above 11 = .ok (.iaload, 1) := by decide +kernel
theorem dX3_above_12 : decode cX3_above 12 = .ok (.if_icmp .gt 33, 3) := by decide +kernel
theorem dX3_above_15 : decode cX3_above 15 = .ok (.aload_n 0, 1) := by decide +kernel
theorem dX3_above_16 : decode cX3_above 16 = .ok (.getfield 16, 3) := by decide +kernel
theorem dX3_above_19 : decode cX3_above 19 = .ok (.iload_n 1, 1) := by decide +kernel
theorem dX3_above_20 : decode cX3_above 20 = .ok (.iaload, 1) := by decide +kernel
theorem dX3_above_21 : decode cX3_above 21 = .ok (.aload_n 0, 1) := by decide +kernel
theorem dX3_above_22 : decode cX3_above 22 = .ok (.getfield 16, 3) := by decide +kernel
theorem dX3_above_25 : decode cX3_above 25 = .ok (.iload_n 2, 1) := by decide +kernel
theorem dX3_above_26 : decode cX3_above 26 = .ok (.iaload, 1) := by decide +kernel
theorem dX3_above_27 : decode cX3_above 27 = .ok (.if_icmp .ne 22, 3) := by decide +kernel
theorem dX3_above_30 : decode cX3_above 30 = .ok (.aload_n 0, 1) := by decide +kernel
theorem dX3_above_31 : decode cX3_above 31 = .ok (.getfield 7, 3) := by decide +kernel
theorem dX3_above_34 : decode cX3_above 34 = .ok (.iload_n 1, 1) := by decide +kernel
theorem dX3_above_35 : decode cX3_above 35 = .ok (.iaload, 1) := by decide +kernel
theorem dX3_above_36 : decode cX3_above 36 = .ok (.aload_n 0, 1) := by decide +kernel
theorem dX3_above_37 : decode cX3_above 37 = .ok (.getfield 7, 3) := by decide +kernel
theorem dX3_above_40 : decode cX3_above 40 = .ok (.iload_n 2, 1) := by decide +kernel
theorem dX3_above_41 : decode cX3_above 41 = .ok (.iaload, 1) := by decide +kernel
theorem dX3_above_42 : decode cX3_above 42 = .ok (.if_icmp .ge 7, 3) := by decide +kernel
theorem dX3_above_45 : decode cX3_above 45 = .ok (.iconst 1, 1) := by decide +kernel
theorem dX3_above_46 : decode cX3_above 46 = .ok (.goto 4, 3) := by decide +kernel
theorem dX3_above_49 : decode cX3_above 49 = .ok (.iconst 0, 1) := by decide +kernel
theorem dX3_above_50 : decode cX3_above 50 = .ok (.ireturn, 1) := by decide +kernel
set_option maxRecDepth 20000 in
theorem ggX3_begin_X3_markAll : GoodIn wsX3_begin wsX3_markAll := goodIn_r _ [9, 10, 11, 12, 13, 14, 15, 16, 8, 17, 18, 19, 20, 21, 22, 23, 24, 25, 26, 27, 28, 29, 30, 31, 32, 33, 34, 35, 36, 37, 38, 39, 40, 41, 42, 43, 44, 45] (by decide +kernel) (by decide +kernel)
set_option maxRecDepth 20000 in
theorem gX3_begin_X3_markAll : GoodIn wsX3_begin (wsV RX3 64 RX3 yX3_markAll wsX3_markAll) := goodIn_app (goodIn_of _ (by decide +kernel)) ggX3_begin_X3_markAll
theorem dX3_begin_0 : decode cX3_begin 0 = .ok (.aload_n 0, 1) := by decide +kernel
theorem dX3_begin_1 : decode cX3_begin 1 = .ok (.invokevirtual 64, 3) := by decide +kernel
theorem dX3_begin_4 : decode cX3_begin 4 = .ok (.pop, 1) := by decide +kernel
theorem dX3_begin_5 : decode cX3_begin 5 = .ok (.aload_n 0, 1) := by decide +kernel
theorem dX3_begin_6 : decode cX3_begin 6 = .ok (.iconst 0, 1) := by decide +kernel
theorem dX3_begin_7 : decode cX3_begin 7 = .ok (.putfield 68, 3) := by decide +kernel
theorem dX3_begin_10 : decode cX3_begin 10 = .ok (.aload_n 0, 1) := by decide +kernel
theorem dX3_begin_11 : decode cX3_begin 11 = .ok (.iconst 0, 1) := by decide +kernel
theorem dX3_begin_12 : decode cX3_begin 12 = .ok (.putfield 71, 3) := by decide +kernel
theorem dX3_begin_15 : decode cX3_begin 15 = .ok (.aload_n 0, 1) := by decide +kernel
theorem dX3_begin_16 : decode cX3_begin 16 = .ok (.iconst (-1), 1) := by decide +kernel
theorem dX3_begin_17 : decode cX3_begin 17 = .ok (.putfield 74, 3) := by decide +kernel
theorem dX3_begin_20 : decode cX3_begin 20 = .ok (.aload_n 0, 1) := by decide +kernel
theorem dX3_begin_21 : decode cX3_begin 21 = .ok (.iconst (-1), 1) := by decide +kernel
theorem dX3_begin_22 : decode cX3_begin 22 = .ok (.putfield 77, 3) := by decide +kernel
theorem dX3_begin_25 : decode cX3_begin 25 = .ok (.return_, 1) := by decide +kernel
theorem dX3_make_0 : decode cX3_make 0 = .ok (.aload_n 0, 1) := by decide +kernel
theorem dX3_make_1 : decode cX3_make 1 = .ok (.getfield 25, 3) := by decide +kernel
theorem dX3_make_4 : decode cX3_make 4 = .ok (.aload_n 0, 1) := by decide +kernel
theorem dX3_make_5 : decode cX3_make 5 = .ok (.getfield 71, 3) := by decide +kernel
theorem dX3_make_8 : decode cX3_make 8 = .ok (.baload, 1) := by decide +kernel
theorem dX3_make_9 : decode cX3_make 9 = .ok (.ifCond .eq 16, 3) := by decide +kernel
theorem dX3_make_12 : decode cX3_make 12 = .ok (.aload_n 0, 1) := by decide +kernel
theorem dX3_make_13 : decode cX3_make 13 = .ok (.dup, 1) := by decide +kernel
theorem dX3_make_14 : decode cX3_make 14 = .ok (.getfield 71, 3) := by decide +kernel
theorem dX3_make_17 : decode cX3_make 17 = .ok (.iconst 1, 1) := by decide +kernel
theorem dX3_make_18 : decode cX3_make 18 = .ok (.iadd, 1) := by decide +kernel
theorem dX3_make_19 : decode cX3_make 19 = .ok (.putfield 71, 3) := by decide +kernel
theorem dX3_make_22 : decode cX3_make 22 = .ok (.goto (-22), 3) := by decide +kernel
theorem dX3_make_25 : decode cX3_make 25 = .ok (.aload_n 0, 1) := by decide +kernel
theorem dX3_make_26 : decode cX3_make 26 = .ok (.getfield 71, 3) := by decide +kernel
theorem dX3_make_29 : decode cX3_make 29 = .ok (.istore 6, 2) := by decide +kernel
theorem dX3_make_31 : decode cX3_make 31 = .ok (.aload_n 0, 1) := by decide +kernel
theorem dX3_make_32 : decode cX3_make 32 = .ok (.dup, 1) := by decide +kernel
theorem dX3_make_33 : decode cX3_make 33 = .ok (.getfield 71, 3) := by decide +kernel
theorem dX3_make_36 : decode cX3_make 36 = .ok (.iconst 1, 1) := by decide +kernel
theorem dX3_make_37 : decode cX3_make 37 = .ok (.iadd, 1) := by decide +kernel
theorem dX3_make_38 : decode cX3_make 38 = .ok (.putfield 71, 3) := by decide +kernel
theorem dX3_make_41 : decode cX3_make 41 = .ok (.aload_n 0, 1) := by decide +kernel
theorem dX3_make_42 : decode cX3_make 42 = .ok (.dup, 1) := by decide +kernel
theorem dX3_make_43 : decode cX3_make 43 = .ok (.getfield 68, 3) := by decide +kernel
theorem dX3_make_46 : decode cX3_make 46 = .ok (.iconst 1, 1) := by decide +kernel
theorem dX3_make_47 : decode cX3_make 47 = .ok (.iadd, 1) := by decide +kernel
theorem dX3_make_48 : decode cX3_make 48 = .ok (.putfield 68, 3) := by decide +kernel
theorem dX3_make_51 : decode cX3_make 51 = .ok (.aload_n 0, 1) := by decide +kernel
theorem dX3_make_52 : decode cX3_make 52 = .ok (.getfield 7, 3) := by decide +kernel
theorem dX3_make_55 : decode cX3_make 55 = .ok (.iload 6, 2) := by decide +kernel
theorem dX3_make_57 : decode cX3_make 57 = .ok (.iload_n 1, 1) := by decide +kernel
theorem dX3_make_58 : decode cX3_make 58 = .ok (.iastore, 1) := by decide +kernel
theorem dX3_make_59 : decode cX3_make 59 = .ok (.aload_n 0, 1) := by decide +kernel
theorem dX3_make_60 : decode cX3_make 60 = .ok (.getfield 13, 3) := by decide +kernel
theorem dX3_make_63 : decode cX3_make 63 = .ok (.iload 6, 2) := by decide +kernel
theorem dX3_make_65 : decode cX3_make 65 = .ok (.iload_n 2, 1) := by decide +kernel
theorem dX3_make_66 : decode cX3_make 66 = .ok (.iastore, 1) := by decide +kernel
theorem dX3_make_67 : decode cX3_make 67 = .ok (.aload_n 0, 1) := by decide +kernel
theorem dX3_make_68 : decode cX3_make 68 = .ok (.getfield 16, 3) := by decide +kernel
theorem dX3_make_71 : decode cX3_make 71 = .ok (.iload 6, 2) := by decide +kernel
theorem dX3_make_73 : decode cX3_make 73 = .ok (.iload_n 3, 1) := by decide +kernel
theorem dX3_make_74 : decode cX3_make 74 = .ok (.iastore, 1) := by decide +kernel
theorem dX3_make_75 : decode cX3_make 75 = .ok (.aload_n 0, 1) := by decide +kernel
theorem dX3_make_76 : decode cX3_make 76 = .ok (.getfield 19, 3) := by decide +kernel
theorem dX3_make_79 : decode cX3_make 79 = .ok (.iload 6, 2) := by decide +kernel
theorem dX3_make_81 : decode cX3_make 81 = .ok (.iload 4, 2) := by decide +kernel
theorem dX3_make_83 : decode cX3_make 83 = .ok (.iastore, 1) := by decide +kernel
theorem dX3_make_84 : decode cX3_make 84 = .ok (.aload_n 0, 1) := by decide +kernel
theorem dX3_make_85 : decode cX3_make 85 = .ok (.getfield 22, 3) := by decide +kernel
theorem dX3_make_88 : decode cX3_make 88 = .ok (.iload 6, 2) := by decide +kernel
theorem dX3_make_90 : decode cX3_make 90 = .ok (.iload 5, 2) := by decide +kernel
theorem dX3_make_92 : decode cX3_make 92 = .ok (.iastore, 1) := by decide +kernel
theorem dX3_make_93 : decode cX3_make 93 = .ok (.iload 6, 2) := by decide +kernel
theorem dX3_make_95 : decode cX3_make 95 = .ok (.ireturn, 1) := by decide +kernel
set_option maxRecDepth 20000 in
theorem ggX3_copy_X3_make : GoodIn wsX3_copy wsX3_make := goodIn_r _ [10, 11, 12, 13, 1, 2, 3, 4, 5, 14, 15, 16, 17, 18, 19, 20, 21, 22, 23, 24, 25, 26, 27, 28, 29, 30, 31, 32, 33, 34, 35, 36, 37] (by decide +kernel) (by decide +kernel)
set_option maxRecDepth 20000 in
theorem gX3_copy_X3_make : GoodIn wsX3_copy (wsV RX3 80 RX3 yX3_make wsX3_make) := goodIn_app (goodIn_of _ (by decide +kernel)) ggX3_copy_X3_make
theorem dX3_copy_0 : decode cX3_copy 0 = .ok (.aload_n 0, 1) := by decide +kernel
theorem dX3_copy_1 : decode cX3_copy 1 = .ok (.aload_n 0, 1) := by decide +kernel
theorem dX3_copy_2 : decode cX3_copy 2 = .ok (.getfield 7, 3) := by decide +kernel
theorem dX3_copy_5 : decode cX3_copy 5 = .ok (.iload_n 1, 1) := by decide +kernel
theorem dX3_copy_6 : decode cX3_copy 6 = .ok (.iaload, 1) := by decide +kernel
theorem dX3_copy_7 : decode cX3_copy 7 = .ok (.aload_n 0, 1) := by decide +kernel
theorem dX3_copy_8 : decode cX3_copy 8 = .ok (.getfield 13, 3) := by decide +kernel
theorem dX3_copy_11 : decode cX3_copy 11 = .ok (.iload_n 1, 1) := by decide +kernel
theorem dX3_copy_12 : decode cX3_copy 12 = .ok (.iaload, 1) := by decide +kernel
theorem dX3_copy_13 : decode cX3_copy 13 = .ok (.aload_n 0, 1) := by decide +kernel
theorem dX3_copy_14 : decode cX3_copy 14 = .ok (.getfield 16, 3) := by decide +kernel
theorem dX3_copy_17 : decode cX3_copy 17 = .ok (.iload_n 1, 1) := by decide +kernel
theorem dX3_copy_18 : decode cX3_copy 18 = .ok (.iaload, 1) := by decide +kernel
theorem dX3_copy_19 : decode cX3_copy 19 = .ok (.aload_n 0, 1) := by decide +kernel
theorem dX3_copy_20 : decode cX3_copy 20 = .ok (.getfield 19, 3) := by decide +kernel
theorem dX3_copy_23 : decode cX3_copy 23 = .ok (.iload_n 1, 1) := by decide +kernel
theorem dX3_copy_24 : decode cX3_copy 24 = .ok (.iaload, 1) := by decide +kernel
theorem dX3_copy_25 : decode cX3_copy 25 = .ok (.aload_n 0, 1) := by decide +kernel
theorem dX3_copy_26 : decode cX3_copy 26 = .ok (.getfield 22, 3) := by decide +kernel
theorem dX3_copy_29 : decode cX3_copy 29 = .ok (.iload_n 1, 1) := by decide +kernel
theorem dX3_copy_30 : decode cX3_copy 30 = .ok (.iaload, 1) := by decide +kernel
theorem dX3_copy_31 : decode cX3_copy 31 = .ok (.invokevirtual 80, 3) := by decide +kernel
theorem dX3_copy_34 : decode cX3_copy 34 = .ok (.ireturn, 1) := by decide +kernel
theorem dX3_hang_0 : decode cX3_hang 0 = .ok (.aload_n 0, 1) := by decide +kernel
theorem dX3_hang_1 : decode cX3_hang 1 = .ok (.getfield 77, 3) := by decide +kernel
theorem dX3_hang_4 : decode cX3_hang 4 = .ok (.ifCond .ge 11, 3) := by decide +kernel
theorem dX3_hang_7 : decode cX3_hang 7 = .ok (.aload_n 0, 1) := by decide +kernel
theorem dX3_hang_8 : decode cX3_hang 8 = .ok (.iload_n 1, 1) := by decide +kernel
theorem dX3_hang_9 : decode cX3_hang 9 = .ok (.putfield 74, 3) := by decide +kernel
theorem dX3_hang_12 : decode cX3_hang 12 = .ok (.goto 33, 3) := by decide +kernel
theorem dX3_hang_15 : decode cX3_hang 15 = .ok (.aload_n 0, 1) := by decide +kernel
theorem dX3_hang_16 : decode cX3_hang 16 = .ok (.getfield 84, 3) := by decide +kernel
theorem dX3_hang_19 : decode cX3_hang 19 = .ok (.ifCond .eq 16, 3) := by decide +kernel
theorem dX3_hang_22 : decode cX3_hang 22 = .ok (.aload_n 0, 1) := by decide +kernel
theorem dX3_hang_23 : decode cX3_hang 23 = .ok (.getfield 22, 3) := by decide +kernel
theorem dX3_hang_26 : decode cX3_hang 26 = .ok (.aload_n 0, 1) := by decide +kernel
theorem dX3_hang_27 : decode cX3_hang 27 = .ok (.getfield 77, 3) := by decide +kernel
theorem dX3_hang_30 : decode cX3_hang 30 = .ok (.iload_n 1, 1) := by decide +kernel
theorem dX3_hang_31 : decode cX3_hang 31 = .ok (.iastore, 1) := by decide +kernel
theorem dX3_hang_32 : decode cX3_hang 32 = .ok (.goto 13, 3) := by decide +kernel
theorem dX3_hang_35 : decode cX3_hang 35 = .ok (.aload_n 0, 1) := by decide +kernel
theorem dX3_hang_36 : decode cX3_hang 36 = .ok (.getfield 19, 3) := by decide +kernel
theorem dX3_hang_39 : decode cX3_hang 39 = .ok (.aload_n 0, 1) := by decide +kernel
theorem dX3_hang_40 : decode cX3_hang 40 = .ok (.getfield 77, 3) := by decide +kernel
theorem dX3_hang_43 : decode cX3_hang 43 = .ok (.iload_n 1, 1) := by decide +kernel
theorem dX3_hang_44 : decode cX3_hang 44 = .ok (.iastore, 1) := by decide +kernel
theorem dX3_hang_45 : decode cX3_hang 45 = .ok (.return_, 1) := by decide +kernel
theorem dX3_holeAt_0 : decode cX3_holeAt 0 = .ok (.aload_n 0, 1) := by decide +kernel
theorem dX3_holeAt_1 : decode cX3_holeAt 1 = .ok (.iload_n 1, 1) := by decide +kernel
theorem dX3_holeAt_2 : decode cX3_holeAt 2 = .ok (.putfield 77, 3) := by decide +kernel
theorem dX3_holeAt_5 : decode cX3_holeAt 5 = .ok (.aload_n 0, 1) := by decide +kernel
theorem dX3_holeAt_6 : decode cX3_holeAt 6 = .ok (.iload_n 2, 1) := by decide +kernel
theorem dX3_holeAt_7 : decode cX3_holeAt 7 = .ok (.putfield 84, 3) := by decide +kernel
theorem dX3_holeAt_10 : decode cX3_holeAt 10 = .ok (.return_, 1) := by decide +kernel
theorem dX3_go_0 : decode cX3_go 0 = .ok (.aload_n 0, 1) := by decide +kernel
theorem dX3_go_1 : decode cX3_go 1 = .ok (.iconst 0, 1) := by decide +kernel
theorem dX3_go_2 : decode cX3_go 2 = .ok (.putfield 88, 3) := by decide +kernel
theorem dX3_go_5 : decode cX3_go 5 = .ok (.iload_n 1, 1) := by decide +kernel
theorem dX3_go_6 : decode cX3_go 6 = .ok (.istore 4, 2) := by decide +kernel
theorem dX3_go_8 : decode cX3_go 8 = .ok (.iload 4, 2) := by decide +kernel
theorem dX3_go_10 : decode cX3_go 10 = .ok (.ifCond .lt 88, 3) := by decide +kernel
theorem dX3_go_13 : decode cX3_go 13 = .ok (.aload_n 0, 1) := by decide +kernel
theorem dX3_go_14 : decode cX3_go 14 = .ok (.getfield 41, 3) := by decide +kernel
theorem dX3_go_17 : decode cX3_go 17 = .ok (.aload_n 0, 1) := by decide +kernel
theorem dX3_go_18 : decode cX3_go 18 = .ok (.getfield 88, 3) := by decide +kernel
theorem dX3_go_21 : decode cX3_go 21 = .ok (.iload 4, 2) := by decide +kernel
theorem dX3_go_23 : decode cX3_go 23 = .ok (.iastore, 1) := by decide +kernel
theorem dX3_go_24 : decode cX3_go 24 = .ok (.aload_n 0, 1) := by decide +kernel
theorem dX3_go_25 : decode cX3_go 25 = .ok (.dup, 1) := by decide +kernel
theorem dX3_go_26 : decode cX3_go 26 = .ok (.getfield 88, 3) := by decide +kernel
theorem dX3_go_29 : decode cX3_go 29 = .ok (.iconst 1, 1) := by decide +kernel
theorem dX3_go_30 : decode cX3_go 30 = .ok (.iadd, 1) := by decide +kernel
theorem dX3_go_31 : decode cX3_go 31 = .ok (.putfield 88, 3) := by decide +kernel
theorem dX3_go_34 : decode cX3_go 34 = .ok (.iload_n 3, 1) := by decide +kernel
theorem dX3_go_35 : decode cX3_go 35 = .ok (.ifCond .eq 18, 3) := by decide +kernel
theorem dX3_go_38 : decode cX3_go 38 = .ok (.aload_n 0, 1) := by decide +kernel
theorem dX3_go_39 : decode cX3_go 39 = .ok (.getfield 7, 3) := by decide +kernel
theorem dX3_go_42 : decode cX3_go 42 = .ok (.iload 4, 2) := by decide +kernel
theorem dX3_go_44 : decode cX3_go 44 = .ok (.iaload, 1) := by decide +kernel
theorem dX3_go_45 : decode cX3_go 45 = .ok (.iload_n 2, 1) := by decide +kernel
theorem dX3_go_46 : decode cX3_go 46 = .ok (.if_icmp .ne 7, 3) := by decide +kernel
theorem dX3_go_49 : decode cX3_go 49 = .ok (.iconst 1, 1) := by decide +kernel
theorem dX3_go_50 : decode cX3_go 50 = .ok (.goto 4, 3) := by decide +kernel
theorem dX3_go_53 : decode cX3_go 53 = .ok (.iconst 0, 1) := by decide +kernel
theorem dX3_go_54 : decode cX3_go 54 = .ok (.istore 5, 2) := by decide +kernel
theorem dX3_go_56 : decode cX3_go 56 = .ok (.iload 5, 2) := by decide +kernel
theorem dX3_go_58 : decode cX3_go 58 = .ok (.ifCond .eq 7, 3) := by decide +kernel
theorem dX3_go_61 : decode cX3_go 61 = .ok (.iconst (-1), 1) := by decide +kernel
theorem dX3_go_62 : decode cX3_go 62 = .ok (.goto 31, 3) := by decide +kernel
theorem dX3_go_65 : decode cX3_go 65 = .ok (.aload_n 0, 1) := by decide +kernel
theorem dX3_go_66 : decode cX3_go 66 = .ok (.getfield 7, 3) := by decide +kernel
theorem dX3_go_69 : decode cX3_go 69 = .ok (.iload 4, 2) := by decide +kernel
theorem dX3_go_71 : decode cX3_go 71 = .ok (.iaload, 1) := by decide +kernel
theorem dX3_go_72 : decode cX3_go 72 = .ok (.iload_n 2, 1) := by decide +kernel
theorem dX3_go_73 : decode cX3_go 73 = .ok (.if_icmp .ge 13, 3) := by decide +kernel
theorem dX3_go_76 : decode cX3_go 76 = .ok (.aload_n 0, 1) := by decide +kernel
theorem dX3_go_77 : decode cX3_go 77 = .ok (.getfield 22, 3) := by decide +kernel
theorem dX3_go_80 : decode cX3_go 80 = .ok (.iload 4, 2) := by decide +kernel
theorem dX3_go_82 : decode cX3_go 82 = .ok (.iaload, 1) := by decide +kernel
theorem dX3_go_83 : decode cX3_go 83 = .ok (.goto 10, 3) := by decide +kernel
theorem dX3_go_86 : decode cX3_go 86 = .ok (.aload_n 0, 1) := by decide +kernel
theorem dX3_go_87 : decode cX3_go 87 = .ok (.getfield 19, 3) := by decide +kernel
theorem dX3_go_90 : decode cX3_go 90 = .ok (.iload 4, 2) := by decide +kernel
theorem dX3_go_92 : decode cX3_go 92 = .ok (.iaload, 1) := by decide +kernel
theorem dX3_go_93 : decode cX3_go 93 = .ok (.istore 4, 2) := by decide +kernel
theorem dX3_go_95 : decode cX3_go 95 = .ok (.goto (-87), 3) := by decide +kernel
theorem dX3_go_98 : decode cX3_go 98 = .ok (.return_, 1) := by decide +kernel
theorem dX3_find_0 : decode cX3_find 0 = .ok (.iload_n 1, 1) := by decide +kernel
theorem dX3_find_1 : decode cX3_find 1 = .ok (.istore_n 3, 1) := by decide +kernel
theorem dX3_find_2 : decode cX3_find 2 = .ok (.iload_n 3, 1) := by decide +kernel
theorem dX3_find_3 : decode cX3_find 3 = .ok (.ifCond .lt 42, 3) := by decide +kernel
theorem dX3_find_6 : decode cX3_find 6 = .ok (.aload_n 0, 1) := by decide +kernel
theorem dX3_find_7 : decode cX3_find 7 = .ok (.getfield 7, 3) := by decide +kernel
theorem dX3_find_10 : decode cX3_find 10 = .ok (.iload_n 3, 1) := by decide +kernel
theorem dX3_find_11 : decode cX3_find 11 = .ok (.iaload, 1) := by decide +kernel
theorem dX3_find_12 : decode cX3_find 12 = .ok (.iload_n 2, 1) := by decide +kernel
theorem dX3_find_13 : decode cX3_find 13 = .ok (.if_icmp .eq 32, 3) := by decide +kernel
theorem dX3_find_16 : decode cX3_find 16 = .ok (.aload_n 0, 1) := by decide +kernel
theorem dX3_find_17 : decode cX3_find 17 = .ok (.getfield 7, 3) := by decide +kernel
theorem dX3_find_20 : decode cX3_find 20 = .ok (.iload_n 3, 1) := by decide +kernel
theorem dX3_find_21 : decode cX3_find 21 = .ok (.iaload, 1) := by decide +kernel
theorem dX3_find_22 : decode cX3_find 22 = .ok (.iload_n 2, 1) := by decide +kernel
theorem dX3_find_23 : decode cX3_find 23 = .ok (.if_icmp .ge 12, 3) := by decide +kernel
theorem dX3_find_26 : decode cX3_find 26 = .ok (.aload_n 0, 1) := by decide +kernel
theorem dX3_find_27 : decode cX3_find 27 = .ok (.getfield 22, 3) := by decide +kernel
theorem dX3_find_30 : decode cX3_find 30 = .ok (.iload_n 3, 1) := by decide +kernel
theorem dX3_find_31 : decode cX3_find 31 = .ok (.iaload, 1) := by decide +kernel
theorem dX3_find_32 : decode cX3_find 32 = .ok (.goto 9, 3) := by decide +kernel
theorem dX3_find_35 : decode cX3_find 35 = .ok (.aload_n 0, 1) := by decide +kernel
theorem dX3_find_36 : decode cX3_find 36 = .ok (.getfield 19, 3) := by decide +kernel
theorem dX3_find_39 : decode cX3_find 39 = .ok (.iload_n 3, 1) := by decide +kernel
theorem dX3_find_40 : decode cX3_find 40 = .ok (.iaload, 1) := by decide +kernel
theorem dX3_find_41 : decode cX3_find 41 = .ok (.istore_n 3, 1) := by decide +kernel
theorem dX3_find_42 : decode cX3_find 42 = .ok (.goto (-40), 3) := by decide +kernel
theorem dX3_find_45 : decode cX3_find 45 = .ok (.iload_n 3, 1) := by decide +kernel
theorem dX3_find_46 : decode cX3_find 46 = .ok (.ireturn, 1) := by decide +kernel
theorem dX3_freeHandle_0 : decode cX3_freeHandle 0 = .ok (.iconst 0, 1) := by decide +kernel
theorem dX3_freeHandle_1 : decode cX3_freeHandle 1 = .ok (.istore_n 1, 1) := by decide +kernel
theorem dX3_freeHandle_2 : decode cX3_freeHandle 2 = .ok (.iload_n 1, 1) := by decide +kernel
theorem dX3_freeHandle_3 : decode cX3_freeHandle 3 = .ok (.aload_n 0, 1) := by decide +kernel
theorem dX3_freeHandle_4 : decode cX3_freeHandle 4 = .ok (.getfield 48, 3) := by decide +kernel
theorem dX3_freeHandle_7 : decode cX3_freeHandle 7 = .ok (.if_icmp .ge 18, 3) := by decide +kernel
theorem dX3_freeHandle_10 : decode cX3_freeHandle 10 = .ok (.aload_n 0, 1) := by decide +kernel
theorem dX3_freeHandle_11 : decode cX3_freeHandle 11 = .ok (.getfield 35, 3) := by decide +kernel
theorem dX3_freeHandle_14 : decode cX3_freeHandle 14 = .ok (.iload_n 1, 1) := by decide +kernel
theorem dX3_freeHandle_15 : decode cX3_freeHandle 15 = .ok (.baload, 1) := by decide +kernel
theorem dX3_freeHandle_16 : decode cX3_freeHandle 16 = .ok (.ifCond .eq 9, 3) := by decide +kernel
theorem dX3_freeHandle_19 : decode cX3_freeHandle 19 = .ok (.iinc 1 1, 3) := by decide +kernel
theorem dX3_freeHandle_22 : decode cX3_freeHandle 22 = .ok (.goto (-20), 3) := by decide +kernel
theorem dX3_freeHandle_25 : decode cX3_freeHandle 25 = .ok (.iload_n 1, 1) := by decide +kernel
theorem dX3_freeHandle_26 : decode cX3_freeHandle 26 = .ok (.aload_n 0, 1) := by decide +kernel
theorem dX3_freeHandle_27 : decode cX3_freeHandle 27 = .ok (.getfield 48, 3) := by decide +kernel
theorem dX3_freeHandle_30 : decode cX3_freeHandle 30 = .ok (.if_icmp .ge 7, 3) := by decide +kernel
theorem dX3_freeHandle_33 : decode cX3_freeHandle 33 = .ok (.iload_n 1, 1) := by decide +kernel
theorem dX3_freeHandle_34 : decode cX3_freeHandle 34 = .ok (.goto 4, 3) := by decide +kernel
theorem dX3_freeHandle_37 : decode cX3_freeHandle 37 = .ok (.iconst (-1), 1) := by decide +kernel
theorem dX3_freeHandle_38 : decode cX3_freeHandle 38 = .ok (.ireturn, 1) := by decide +kernel
set_option maxRecDepth 20000 in
theorem ggX3_takes_X3_markAll : GoodIn wsX3_takes wsX3_markAll := goodIn_r _ [8, 9, 10, 11, 12, 13, 14, 15, 7, 16, 17, 18, 19, 20, 21, 22, 23, 24, 25, 26, 27, 28, 29, 30, 31, 32, 33, 34, 35, 36, 37, 38, 39, 40, 41, 42, 43, 44] (by decide +kernel) (by decide +kernel)
set_option maxRecDepth 20000 in
theorem gX3_takes_X3_markAll : GoodIn wsX3_takes (wsV RX3 64 RX3 yX3_markAll wsX3_markAll) := goodIn_app (goodIn_of _ (by decide +kernel)) ggX3_takes_X3_markAll
theorem dX3_takes_0 : decode cX3_takes 0 = .ok (.aload_n 0, 1) := by decide +kernel
theorem dX3_takes_1 : decode cX3_takes 1 = .ok (.getfield 91, 3) := by decide +kernel
theorem dX3_takes_4 : decode cX3_takes 4 = .ok (.iload_n 1, 1) := by decide +kernel
theorem dX3_takes_5 : decode cX3_takes 5 = .ok (.iadd, 1) := by decide +kernel
theorem dX3_takes_6 : decode cX3_takes 6 = .ok (.aload_n 0, 1) := by decide +kernel
theorem dX3_takes_7 : decode cX3_takes 7 = .ok (.getfield 44, 3) := by decide +kernel
theorem dX3_takes_10 : decode cX3_takes 10 = .ok (.if_icmp .le 21, 3) := by decide +kernel
theorem dX3_takes_13 : decode cX3_takes 13 = .ok (.aload_n 0, 1) := by decide +kernel
theorem dX3_takes_14 : decode cX3_takes 14 = .ok (.aload_n 0, 1) := by decide +kernel
theorem dX3_takes_15 : decode cX3_takes 15 = .ok (.invokevirtual 64, 3) := by decide +kernel
theorem dX3_takes_18 : decode cX3_takes 18 = .ok (.putfield 91, 3) := by decide +kernel
theorem dX3_takes_21 : decode cX3_takes 21 = .ok (.aload_n 0, 1) := by decide +kernel
theorem dX3_takes_22 : decode cX3_takes 22 = .ok (.dup, 1) := by decide +kernel
theorem dX3_takes_23 : decode cX3_takes 23 = .ok (.getfield 94, 3) := by decide +kernel
theorem dX3_takes_26 : decode cX3_takes 26 = .ok (.iconst 1, 1) := by decide +kernel
theorem dX3_takes_27 : decode cX3_takes 27 = .ok (.iadd, 1) := by decide +kernel
theorem dX3_takes_28 : decode cX3_takes 28 = .ok (.putfield 94, 3) := by decide +kernel
theorem dX3_takes_31 : decode cX3_takes 31 = .ok (.aload_n 0, 1) := by decide +kernel
theorem dX3_takes_32 : decode cX3_takes 32 = .ok (.getfield 91, 3) := by decide +kernel
theorem dX3_takes_35 : decode cX3_takes 35 = .ok (.iload_n 1, 1) := by decide +kernel
theorem dX3_takes_36 : decode cX3_takes 36 = .ok (.iadd, 1) := by decide +kernel
theorem dX3_takes_37 : decode cX3_takes 37 = .ok (.aload_n 0, 1) := by decide +kernel
theorem dX3_takes_38 : decode cX3_takes 38 = .ok (.getfield 44, 3) := by decide +kernel
theorem dX3_takes_41 : decode cX3_takes 41 = .ok (.if_icmp .le 5, 3) := by decide +kernel
theorem dX3_takes_44 : decode cX3_takes 44 = .ok (.iconst 0, 1) := by decide +kernel
theorem dX3_takes_45 : decode cX3_takes 45 = .ok (.ireturn, 1) := by decide +kernel
theorem dX3_takes_46 : decode cX3_takes 46 = .ok (.aload_n 0, 1) := by decide +kernel
theorem dX3_takes_47 : decode cX3_takes 47 = .ok (.aload_n 0, 1) := by decide +kernel
theorem dX3_takes_48 : decode cX3_takes 48 = .ok (.getfield 91, 3) := by decide +kernel
theorem dX3_takes_51 : decode cX3_takes 51 = .ok (.iload_n 1, 1) := by decide +kernel
theorem dX3_takes_52 : decode cX3_takes 52 = .ok (.iadd, 1) := by decide +kernel
theorem dX3_takes_53 : decode cX3_takes 53 = .ok (.putfield 91, 3) := by decide +kernel
theorem dX3_takes_56 : decode cX3_takes 56 = .ok (.iconst 1, 1) := by decide +kernel
theorem dX3_takes_57 : decode cX3_takes 57 = .ok (.ireturn, 1) := by decide +kernel
set_option maxRecDepth 20000 in
theorem ggX3_settle_X3_takes : GoodIn wsX3_settle wsX3_takes := goodIn_r _ [9, 10, 11, 12, 13, 14, 15, 8, 16, 17, 18, 2, 3, 19, 20, 21, 22, 23, 24, 25, 26, 27, 28, 29, 30, 31, 32, 33, 34, 35, 36, 37, 38, 39, 40, 41, 42, 43, 44, 45, 46, 47, 48, 49, 50] (by decide +kernel) (by decide +kernel)
set_option maxRecDepth 20000 in
theorem gX3_settle_X3_takes : GoodIn wsX3_settle (wsV RX3 97 RX3 yX3_takes wsX3_takes) := goodIn_app (goodIn_of _ (by decide +kernel)) ggX3_settle_X3_takes
theorem dX3_settle_0 : decode cX3_settle 0 = .ok (.aload_n 0, 1) := by decide +kernel
theorem dX3_settle_1 : decode cX3_settle 1 = .ok (.aload_n 0, 1) := by decide +kernel
theorem dX3_settle_2 : decode cX3_settle 2 = .ok (.getfield 68, 3) := by decide +kernel
theorem dX3_settle_5 : decode cX3_settle 5 = .ok (.invokevirtual 97, 3) := by decide +kernel
theorem dX3_settle_8 : decode cX3_settle 8 = .ok (.ifCond .ne 6, 3) := by decide +kernel
theorem dX3_settle_11 : decode cX3_settle 11 = .ok (.bipush (-3), 2) := by decide +kernel
theorem dX3_settle_13 : decode cX3_settle 13 = .ok (.ireturn, 1) := by decide +kernel
theorem dX3_settle_14 : decode cX3_settle 14 = .ok (.aload_n 0, 1) := by decide +kernel
theorem dX3_settle_15 : decode cX3_settle 15 = .ok (.getfield 35, 3) := by decide +kernel
theorem dX3_settle_18 : decode cX3_settle 18 = .ok (.iload_n 1, 1) := by decide +kernel
theorem dX3_settle_19 : decode cX3_settle 19 = .ok (.iconst 1, 1) := by decide +kernel
theorem dX3_settle_20 : decode cX3_settle 20 = .ok (.bastore, 1) := by decide +kernel
theorem dX3_settle_21 : decode cX3_settle 21 = .ok (.aload_n 0, 1) := by decide +kernel
theorem dX3_settle_22 : decode cX3_settle 22 = .ok (.getfield 38, 3) := by decide +kernel
theorem dX3_settle_25 : decode cX3_settle 25 = .ok (.iload_n 1, 1) := by decide +kernel
theorem dX3_settle_26 : decode cX3_settle 26 = .ok (.aload_n 0, 1) := by decide +kernel
theorem dX3_settle_27 : decode cX3_settle 27 = .ok (.getfield 74, 3) := by decide +kernel
theorem dX3_settle_30 : decode cX3_settle 30 = .ok (.iastore, 1) := by decide +kernel
theorem dX3_settle_31 : decode cX3_settle 31 = .ok (.iload_n 1, 1) := by decide +kernel
theorem dX3_settle_32 : decode cX3_settle 32 = .ok (.ireturn, 1) := by decide +kernel
set_option maxRecDepth 20000 in
theorem ggX3_putValue_X3_copy : GoodIn wsX3_putValue wsX3_copy := goodIn_r _ [9, 4, 3, 10, 11, 12, 13, 14, 15, 8, 16, 17, 18, 19, 31, 32, 33, 34, 35, 36, 37, 38, 39, 40, 41, 42, 43, 44, 45, 46, 47, 48, 49, 50, 51, 52, 53, 54] (by decide +kernel) (by decide +kernel)
set_option maxRecDepth 20000 in
theorem gX3_putValue_X3_copy : GoodIn wsX3_putValue (wsV RX3 101 RX3 yX3_copy wsX3_copy) := goodIn_app (goodIn_of _ (by decide +kernel)) ggX3_putValue_X3_copy
set_option maxRecDepth 20000 in
theorem ggX3_putValue_X3_hang : GoodIn wsX3_putValue wsX3_hang := goodIn_r _ [23, 24, 25, 26, 12, 11, 31, 32, 33, 34, 35, 36, 37, 38, 39, 40, 41, 42, 43, 44, 45, 46, 47, 48, 49, 50, 51, 52, 53, 54] (by decide +kernel) (by decide +kernel)
set_option maxRecDepth 20000 in
theorem gX3_putValue_X3_hang : GoodIn wsX3_putValue (wsV RX3 105 RX3 yX3_hang wsX3_hang) := goodIn_app (goodIn_of _ (by decide +kernel)) ggX3_putValue_X3_hang
set_option maxRecDepth 20000 in
theorem ggX3_putValue_X3_holeAt : GoodIn wsX3_putValue wsX3_holeAt := goodIn_r _ [30, 24, 26, 31, 32, 33, 34, 35, 36, 37, 38, 39, 40, 41, 42, 43, 44, 45, 46, 47, 48, 49, 50, 51, 52, 53, 54] (by decide +kernel) (by decide +kernel)
set_option maxRecDepth 20000 in
theorem gX3_putValue_X3_holeAt : GoodIn wsX3_putValue (wsV RX3 109 RX3 yX3_holeAt wsX3_holeAt) := goodIn_app (goodIn_of _ (by decide +kernel)) ggX3_putValue_X3_holeAt
theorem dX3_putValue_0 : decode cX3_putValue 0 = .ok (.iconst 0, 1) := by decide +kernel
theorem dX3_putValue_1 : decode cX3_putValue 1 = .ok (.istore_n 3, 1) := by decide +kernel
theorem dX3_putValue_2 : decode cX3_putValue 2 = .ok (.iload_n 3, 1) := by decide +kernel
theorem dX3_putValue_3 : decode cX3_putValue 3 = .ok (.aload_n 0, 1) := by decide +kernel
theorem dX3_putValue_4 : decode cX3_putValue 4 = .ok (.getfield 88, 3) := by decide +kernel
theorem dX3_putValue_7 : decode cX3_putValue 7 = .ok (.if_icmp .ge 77, 3) := by decide +kernel
theorem dX3_putValue_10 : decode cX3_putValue 10 = .ok (.aload_n 0, 1) := by decide +kernel
theorem dX3_putValue_11 : decode cX3_putValue 11 = .ok (.aload_n 0, 1) := by decide +kernel
theorem dX3_putValue_12 : decode cX3_putValue 12 = .ok (.getfield 41, 3) := by decide +kernel
theorem dX3_putValue_15 : decode cX3_putValue 15 = .ok (.iload_n 3, 1) := by decide +kernel
theorem dX3_putValue_16 : decode cX3_putValue 16 = .ok (.iaload, 1) := by decide +kernel
theorem dX3_putValue_17 : decode cX3_putValue 17 = .ok (.invokevirtual 101, 3) := by decide +kernel
theorem dX3_putValue_20 : decode cX3_putValue 20 = .ok (.istore 4, 2) := by decide +kernel
theorem dX3_putValue_22 : decode cX3_putValue 22 = .ok (.aload_n 0, 1) := by decide +kernel
theorem dX3_putValue_23 : decode cX3_putValue 23 = .ok (.iload 4, 2) := by decide +kernel
theorem dX3_putValue_25 : decode cX3_putValue 25 = .ok (.invokevirtual 105, 3) := by decide +kernel
theorem dX3_putValue_28 : decode cX3_putValue 28 = .ok (.aload_n 0, 1) := by decide +kernel
theorem dX3_putValue_29 : decode cX3_putValue 29 = .ok (.getfield 13, 3) := by decide +kernel
theorem dX3_putValue_32 : decode cX3_putValue 32 = .ok (.iload 4, 2) := by decide +kernel
theorem dX3_putValue_34 : decode cX3_putValue 34 = .ok (.iload_n 3, 1) := by decide +kernel
theorem dX3_putValue_35 : decode cX3_putValue 35 = .ok (.aload_n 0, 1) := by decide +kernel
theorem dX3_putValue_36 : decode cX3_putValue 36 = .ok (.getfield 88, 3) := by decide +kernel
theorem dX3_putValue_39 : decode cX3_putValue 39 = .ok (.iconst 1, 1) := by decide +kernel
theorem dX3_putValue_40 : decode cX3_putValue 40 = .ok (.isub, 1) := by decide +kernel
theorem dX3_putValue_41 : decode cX3_putValue 41 = .ok (.if_icmp .ne 7, 3) := by decide +kernel
theorem dX3_putValue_44 : decode cX3_putValue 44 = .ok (.iload_n 2, 1) := by decide +kernel
theorem dX3_putValue_45 : decode cX3_putValue 45 = .ok (.goto 10, 3) := by decide +kernel
theorem dX3_putValue_48 : decode cX3_putValue 48 = .ok (.aload_n 0, 1) := by decide +kernel
theorem dX3_putValue_49 : decode cX3_putValue 49 = .ok (.getfield 13, 3) := by decide +kernel
theorem dX3_putValue_52 : decode cX3_putValue 52 = .ok (.iload 4, 2) := by decide +kernel
theorem dX3_putValue_54 : decode cX3_putValue 54 = .ok (.iaload, 1) := by decide +kernel
theorem dX3_putValue_55 : decode cX3_putValue 55 = .ok (.iastore, 1) := by decide +kernel
theorem dX3_putValue_56 : decode cX3_putValue 56 = .ok (.aload_n 0, 1) := by decide +kernel
theorem dX3_putValue_57 : decode cX3_putValue 57 = .ok (.iload 4, 2) := by decide +kernel
theorem dX3_putValue_59 : decode cX3_putValue 59 = .ok (.aload_n 0, 1) := by decide +kernel
theorem dX3_putValue_60 : decode cX3_putValue 60 = .ok (.getfield 7, 3) := by decide +kernel
theorem dX3_putValue_63 : decode cX3_putValue 63 = .ok (.iload 4, 2) := by decide +kernel
theorem dX3_putValue_65 : decode cX3_putValue 65 = .ok (.iaload, 1) := by decide +kernel
theorem dX3_putValue_66 : decode cX3_putValue 66 = .ok (.iload_n 1, 1) := by decide +kernel
theorem dX3_putValue_67 : decode cX3_putValue 67 = .ok (.if_icmp .ge 7, 3) := by decide +kernel
theorem dX3_putValue_70 : decode cX3_putValue 70 = .ok (.iconst 1, 1) := by decide +kernel
theorem dX3_putValue_71 : decode cX3_putValue 71 = .ok (.goto 4, 3) := by decide +kernel
theorem dX3_putValue_74 : decode cX3_putValue 74 = .ok (.iconst 0, 1) := by decide +kernel
theorem dX3_putValue_75 : decode cX3_putValue 75 = .ok (.invokevirtual 109, 3) := by decide +kernel
theorem dX3_putValue_78 : decode cX3_putValue 78 = .ok (.iinc 3 1, 3) := by decide +kernel
theorem dX3_putValue_81 : decode cX3_putValue 81 = .ok (.goto (-79), 3) := by decide +kernel
theorem dX3_putValue_84 : decode cX3_putValue 84 = .ok (.return_, 1) := by decide +kernel
set_option maxRecDepth 20000 in
theorem ggX3_putNew_X3_make : GoodIn wsX3_putNew wsX3_make := goodIn_r _ [12, 13, 14, 15, 5, 16, 17, 6, 7, 37, 38, 39, 40, 41, 42, 43, 44, 45, 46, 47, 48, 49, 50, 51, 52, 53, 54, 55, 56, 57, 58, 59, 60] (by decide +kernel) (by decide +kernel)
set_option maxRecDepth 20000 in
theorem gX3_putNew_X3_make : GoodIn wsX3_putNew (wsV RX3 80 RX3 yX3_make wsX3_make) := goodIn_app (goodIn_of _ (by decide +kernel)) ggX3_putNew_X3_make
set_option maxRecDepth 20000 in
theorem ggX3_putNew_X3_above : GoodIn wsX3_putNew wsX3_above := goodIn_r _ [21, 17, 5, 37, 38, 39, 40, 41, 42, 43, 44, 45, 46, 47, 48, 49, 50, 51, 52, 53, 54, 55, 56, 57, 58, 59, 60] (by decide +kernel) (by decide +kernel)
set_option maxRecDepth 20000 in
theorem gX3_putNew_X3_above : GoodIn wsX3_putNew (wsV RX3 114 RX3 yX3_above wsX3_above) := goodIn_app (goodIn_of _ (by decide +kernel)) ggX3_putNew_X3_above
set_option maxRecDepth 20000 in
theorem ggX3_putNew_X3_copy : GoodIn wsX3_putNew wsX3_copy := goodIn_r _ [25, 5, 16, 17, 6, 7, 8, 9, 10, 11, 12, 13, 14, 15, 37, 38, 39, 40, 41, 42, 43, 44, 45, 46, 47, 48, 49, 50, 51, 52, 53, 54, 55, 56, 57, 58, 59, 60] (by decide +kernel) (by decide +kernel)
set_option maxRecDepth 20000 in
theorem gX3_putNew_X3_copy : GoodIn wsX3_putNew (wsV RX3 101 RX3 yX3_copy wsX3_copy) := goodIn_app (goodIn_of _ (by decide +kernel)) ggX3_putNew_X3_copy
set_option maxRecDepth 20000 in
theorem ggX3_putNew_X3_hang : GoodIn wsX3_putNew wsX3_hang := goodIn_r _ [29, 30, 31, 32, 7, 6, 37, 38, 39, 40, 41, 42, 43, 44, 45, 46, 47, 48, 49, 50, 51, 52, 53, 54, 55, 56, 57, 58, 59, 60] (by decide +kernel) (by decide +kernel)
set_option maxRecDepth 20000 in
theorem gX3_putNew_X3_hang : GoodIn wsX3_putNew (wsV RX3 105 RX3 yX3_hang wsX3_hang) := goodIn_app (goodIn_of _ (by decide +kernel)) ggX3_putNew_X3_hang
set_option maxRecDepth 20000 in
theorem ggX3_putNew_X3_holeAt : GoodIn wsX3_putNew wsX3_holeAt := goodIn_r _ [36, 30, 32, 37, 38, 39, 40, 41, 42, 43, 44, 45, 46, 47, 48, 49, 50, 51, 52, 53, 54, 55, 56, 57, 58, 59, 60] (by decide +kernel) (by decide +kernel)
set_option maxRecDepth 20000 in
theorem gX3_putNew_X3_holeAt : GoodIn wsX3_putNew (wsV RX3 109 RX3 yX3_holeAt wsX3_holeAt) := goodIn_app (goodIn_of _ (by decide +kernel)) ggX3_putNew_X3_holeAt
theorem dX3_putNew_0 : decode cX3_putNew 0 = .ok (.aload_n 0, 1) := by decide +kernel
theorem dX3_putNew_1 : decode cX3_putNew 1 = .ok (.aload_n 0, 1) := by decide +kernel
theorem dX3_putNew_2 : decode cX3_putNew 2 = .ok (.getfield 51, 3) := by decide +kernel
theorem dX3_putNew_5 : decode cX3_putNew 5 = .ok (.ldc 113, 2) := by decide +kernel
theorem dX3_putNew_7 : decode cX3_putNew 7 = .ok (.imul, 1) := by decide +kernel
theorem dX3_putNew_8 : decode cX3_putNew 8 = .ok (.sipush 12345, 3) := by decide +kernel
theorem dX3_putNew_11 : decode cX3_putNew 11 = .ok (.iadd, 1) := by decide +kernel
theorem dX3_putNew_12 : decode cX3_putNew 12 = .ok (.putfield 51, 3) := by decide +kernel
theorem dX3_putNew_15 : decode cX3_putNew 15 = .ok (.aload_n 0, 1) := by decide +kernel
theorem dX3_putNew_16 : decode cX3_putNew 16 = .ok (.iload_n 1, 1) := by decide +kernel
theorem dX3_putNew_17 : decode cX3_putNew 17 = .ok (.iload_n 2, 1) := by decide +kernel
theorem dX3_putNew_18 : decode cX3_putNew 18 = .ok (.aload_n 0, 1) := by decide +kernel
theorem dX3_putNew_19 : decode cX3_putNew 19 = .ok (.getfield 51, 3) := by decide +kernel
theorem dX3_putNew_22 : decode cX3_putNew 22 = .ok (.bipush 16, 2) := by decide +kernel
theorem dX3_putNew_24 : decode cX3_putNew 24 = .ok (.ishr, 1) := by decide +kernel
theorem dX3_putNew_25 : decode cX3_putNew 25 = .ok (.bipush 15, 2) := by decide +kernel
theorem dX3_putNew_27 : decode cX3_putNew 27 = .ok (.iand, 1) := by decide +kernel
theorem dX3_putNew_28 : decode cX3_putNew 28 = .ok (.iconst (-1), 1) := by decide +kernel
theorem dX3_putNew_29 : decode cX3_putNew 29 = .ok (.iconst (-1), 1) := by decide +kernel
theorem dX3_putNew_30 : decode cX3_putNew 30 = .ok (.invokevirtual 80, 3) := by decide +kernel
theorem dX3_putNew_33 : decode cX3_putNew 33 = .ok (.istore_n 3, 1) := by decide +kernel
theorem dX3_putNew_34 : decode cX3_putNew 34 = .ok (.iconst 0, 1) := by decide +kernel
theorem dX3_putNew_35 : decode cX3_putNew 35 = .ok (.istore 4, 2) := by decide +kernel
theorem dX3_putNew_37 : decode cX3_putNew 37 = .ok (.iload 4, 2) := by decide +kernel
theorem dX3_putNew_39 : decode cX3_putNew 39 = .ok (.aload_n 0, 1) := by decide +kernel
theorem dX3_putNew_40 : decode cX3_putNew 40 = .ok (.getfield 88, 3) := by decide +kernel
theorem dX3_putNew_43 : decode cX3_putNew 43 = .ok (.if_icmp .ge 65, 3) := by decide +kernel
theorem dX3_putNew_46 : decode cX3_putNew 46 = .ok (.aload_n 0, 1) := by decide +kernel
theorem dX3_putNew_47 : decode cX3_putNew 47 = .ok (.aload_n 0, 1) := by decide +kernel
theorem dX3_putNew_48 : decode cX3_putNew 48 = .ok (.getfield 41, 3) := by decide +kernel
theorem dX3_putNew_51 : decode cX3_putNew 51 = .ok (.iload 4, 2) := by decide +kernel
theorem dX3_putNew_53 : decode cX3_putNew 53 = .ok (.iaload, 1) := by decide +kernel
theorem dX3_putNew_54 : decode cX3_putNew 54 = .ok (.iload_n 3, 1) := by decide +kernel
theorem dX3_putNew_55 : decode cX3_putNew 55 = .ok (.invokevirtual 114, 3) := by decide +kernel
theorem dX3_putNew_58 : decode cX3_putNew 58 = .ok (.ifCond .eq 50, 3) := by decide +kernel
theorem dX3_putNew_61 : decode cX3_putNew 61 = .ok (.aload_n 0, 1) := by decide +kernel
theorem dX3_putNew_62 : decode cX3_putNew 62 = .ok (.aload_n 0, 1) := by decide +kernel
theorem dX3_putNew_63 : decode cX3_putNew 63 = .ok (.getfield 41, 3) := by decide +kernel
theorem dX3_putNew_66 : decode cX3_putNew 66 = .ok (.iload 4, 2) := by decide +kernel
theorem dX3_putNew_68 : decode cX3_putNew 68 = .ok (.iaload, 1) := by decide +kernel
theorem dX3_putNew_69 : decode cX3_putNew 69 = .ok (.invokevirtual 101, 3) := by decide +kernel
theorem dX3_putNew_72 : decode cX3_putNew 72 = .ok (.istore 5, 2) := by decide +kernel
theorem dX3_putNew_74 : decode cX3_putNew 74 = .ok (.aload_n 0, 1) := by decide +kernel
theorem dX3_putNew_75 : decode cX3_putNew 75 = .ok (.iload 5, 2) := by decide +kernel
theorem dX3_putNew_77 : decode cX3_putNew 77 = .ok (.invokevirtual 105, 3) := by decide +kernel
theorem dX3_putNew_80 : decode cX3_putNew 80 = .ok (.aload_n 0, 1) := by decide +kernel
theorem dX3_putNew_81 : decode cX3_putNew 81 = .ok (.iload 5, 2) := by decide +kernel
theorem dX3_putNew_83 : decode cX3_putNew 83 = .ok (.aload_n 0, 1) := by decide +kernel
theorem dX3_putNew_84 : decode cX3_putNew 84 = .ok (.getfield 7, 3) := by decide +kernel
theorem dX3_putNew_87 : decode cX3_putNew 87 = .ok (.iload 5, 2) := by decide +kernel
theorem dX3_putNew_89 : decode cX3_putNew 89 = .ok (.iaload, 1) := by decide +kernel
theorem dX3_putNew_90 : decode cX3_putNew 90 = .ok (.iload_n 1, 1) := by decide +kernel
theorem dX3_putNew_91 : decode cX3_putNew 91 = .ok (.if_icmp .ge 7, 3) := by decide +kernel
theorem dX3_putNew_94 : decode cX3_putNew 94 = .ok (.iconst 1, 1) := by decide +kernel
theorem dX3_putNew_95 : decode cX3_putNew 95 = .ok (.goto 4, 3) := by decide +kernel
theorem dX3_putNew_98 : decode cX3_putNew 98 = .ok (.iconst 0, 1) := by decide +kernel
theorem dX3_putNew_99 : decode cX3_putNew 99 = .ok (.invokevirtual 109, 3) := by decide +kernel
theorem dX3_putNew_102 : decode cX3_putNew 102 = .ok (.iinc 4 1, 3) := by decide +kernel
theorem dX3_putNew_105 : decode cX3_putNew 105 = .ok (.goto (-68), 3) := by decide +kernel
theorem dX3_putNew_108 : decode cX3_putNew 108 = .ok (.aload_n 0, 1) := by decide +kernel
theorem dX3_putNew_109 : decode cX3_putNew 109 = .ok (.iload_n 3, 1) := by decide +kernel
theorem dX3_putNew_110 : decode cX3_putNew 110 = .ok (.invokevirtual 105, 3) := by decide +kernel
theorem dX3_putNew_113 : decode cX3_putNew 113 = .ok (.iconst (-1), 1) := by decide +kernel
theorem dX3_putNew_114 : decode cX3_putNew 114 = .ok (.istore 5, 2) := by decide +kernel
theorem dX3_putNew_116 : decode cX3_putNew 116 = .ok (.iconst (-1), 1) := by decide +kernel
theorem dX3_putNew_117 : decode cX3_putNew 117 = .ok (.istore 6, 2) := by decide +kernel
theorem dX3_putNew_119 : decode cX3_putNew 119 = .ok (.iload 4, 2) := by decide +kernel
theorem dX3_putNew_121 : decode cX3_putNew 121 = .ok (.aload_n 0, 1) := by decide +kernel
theorem dX3_putNew_122 : decode cX3_putNew 122 = .ok (.getfield 88, 3) := by decide +kernel
theorem dX3_putNew_125 : decode cX3_putNew 125 = .ok (.if_icmp .ge 110, 3) := by decide +kernel
theorem dX3_putNew_128 : decode cX3_putNew 128 = .ok (.aload_n 0, 1) := by decide +kernel
theorem dX3_putNew_129 : decode cX3_putNew 129 = .ok (.aload_n 0, 1) := by decide +kernel
theorem dX3_putNew_130 : decode cX3_putNew 130 = .ok (.getfield 41, 3) := by decide +kernel
theorem dX3_putNew_133 : decode cX3_putNew 133 = .ok (.iload 4, 2) := by decide +kernel
theorem dX3_putNew_135 : decode cX3_putNew 135 = .ok (.iaload, 1) := by decide +kernel
theorem dX3_putNew_136 : decode cX3_putNew 136 = .ok (.invokevirtual 101, 3) := by decide +kernel
theorem dX3_putNew_139 : decode cX3_putNew 139 = .ok (.istore 7, 2) := by decide +kernel
theorem dX3_putNew_141 : decode cX3_putNew 141 = .ok (.aload_n 0, 1) := by decide +kernel
theorem dX3_putNew_142 : decode cX3_putNew 142 = .ok (.getfield 7, 3) := by decide +kernel
theorem dX3_putNew_145 : decode cX3_putNew 145 = .ok (.iload 7, 2) := by decide +kernel
theorem dX3_putNew_147 : decode cX3_putNew 147 = .ok (.iaload, 1) := by decide +kernel
theorem dX3_putNew_148 : decode cX3_putNew 148 = .ok (.iload_n 1, 1) := by decide +kernel
theorem dX3_putNew_149 : decode cX3_putNew 149 = .ok (.if_icmp .ge 43, 3) := by decide +kernel
theorem dX3_putNew_152 : decode cX3_putNew 152 = .ok (.iload 5, 2) := by decide +kernel
theorem dX3_putNew_154 : decode cX3_putNew 154 = .ok (.ifCond .ge 14, 3) := by decide +kernel
theorem dX3_putNew_157 : decode cX3_putNew 157 = .ok (.aload_n 0, 1) := by decide +kernel
theorem dX3_putNew_158 : decode cX3_putNew 158 = .ok (.getfield 19, 3) := by decide +kernel
theorem dX3_putNew_161 : decode cX3_putNew 161 = .ok (.iload_n 3, 1) := by decide +kernel
theorem dX3_putNew_162 : decode cX3_putNew 162 = .ok (.iload 7, 2) := by decide +kernel
theorem dX3_putNew_164 : decode cX3_putNew 164 = .ok (.iastore, 1) := by decide +kernel
theorem dX3_putNew_165 : decode cX3_putNew 165 = .ok (.goto 12, 3) := by decide +kernel
theorem dX3_putNew_168 : decode cX3_putNew 168 = .ok (.aload_n 0, 1) := by decide +kernel
theorem dX3_putNew_169 : decode cX3_putNew 169 = .ok (.getfield 22, 3) := by decide +kernel
theorem dX3_putNew_172 : decode cX3_putNew 172 = .ok (.iload 5, 2) := by decide +kernel
theorem dX3_putNew_174 : decode cX3_putNew 174 = .ok (.iload 7, 2) := by decide +kernel
theorem dX3_putNew_176 : decode cX3_putNew 176 = .ok (.iastore, 1) := by decide +kernel
theorem dX3_putNew_177 : decode cX3_putNew 177 = .ok (.aload_n 0, 1) := by decide +kernel
theorem dX3_putNew_178 : decode cX3_putNew 178 = .ok (.getfield 22, 3) := by decide +kernel
theorem dX3_putNew_181 : decode cX3_putNew 181 = .ok (.iload 7, 2) := by decide +kernel
theorem dX3_putNew_183 : decode cX3_putNew 183 = .ok (.iconst (-1), 1) := by decide +kernel
theorem dX3_putNew_184 : decode cX3_putNew 184 = .ok (.iastore, 1) := by decide +kernel
theorem dX3_putNew_185 : decode cX3_putNew 185 = .ok (.iload 7, 2) := by decide +kernel
theorem dX3_putNew_187 : decode cX3_putNew 187 = .ok (.istore 5, 2) := by decide +kernel
theorem dX3_putNew_189 : decode cX3_putNew 189 = .ok (.goto 40, 3) := by decide +kernel
theorem dX3_putNew_192 : decode cX3_putNew 192 = .ok (.iload 6, 2) := by decide +kernel
theorem dX3_putNew_194 : decode cX3_putNew 194 = .ok (.ifCond .ge 14, 3) := by decide +kernel
theorem dX3_putNew_197 : decode cX3_putNew 197 = .ok (.aload_n 0, 1) := by decide +kernel
theorem dX3_putNew_198 : decode cX3_putNew 198 = .ok (.getfield 22, 3) := by decide +kernel
theorem dX3_putNew_201 : decode cX3_putNew 201 = .ok (.iload_n 3, 1) := by decide +kernel
theorem dX3_putNew_202 : decode cX3_putNew 202 = .ok (.iload 7, 2) := by decide +kernel
theorem dX3_putNew_204 : decode cX3_putNew 204 = .ok (.iastore, 1) := by decide +kernel
theorem dX3_putNew_205 : decode cX3_putNew 205 = .ok (.goto 12, 3) := by decide +kernel
theorem dX3_putNew_208 : decode cX3_putNew 208 = .ok (.aload_n 0, 1) := by decide +kernel
theorem dX3_putNew_209 : decode cX3_putNew 209 = .ok (.getfield 19, 3) := by decide +kernel
theorem dX3_putNew_212 : decode cX3_putNew 212 = .ok (.iload 6, 2) := by decide +kernel
theorem dX3_putNew_214 : decode cX3_putNew 214 = .ok (.iload 7, 2) := by decide +kernel
theorem dX3_putNew_216 : decode cX3_putNew 216 = .ok (.iastore, 1) := by decide +kernel
theorem dX3_putNew_217 : decode cX3_putNew 217 = .ok (.aload_n 0, 1) := by decide +kernel
theorem dX3_putNew_218 : decode cX3_putNew 218 = .ok (.getfield 19, 3) := by decide +kernel
theorem dX3_putNew_221 : decode cX3_putNew 221 = .ok (.iload 7, 2) := by decide +kernel
theorem dX3_putNew_223 : decode cX3_putNew 223 = .ok (.iconst (-1), 1) := by decide +kernel
theorem dX3_putNew_224 : decode cX3_putNew 224 = .ok (.iastore, 1) := by decide +kernel
theorem dX3_putNew_225 : decode cX3_putNew 225 = .ok (.iload 7, 2) := by decide +kernel
theorem dX3_putNew_227 : decode cX3_putNew 227 = .ok (.istore 6, 2) := by decide +kernel
theorem dX3_putNew_229 : decode cX3_putNew 229 = .ok (.iinc 4 1, 3) := by decide +kernel
theorem dX3_putNew_232 : decode cX3_putNew 232 = .ok (.goto (-113), 3) := by decide +kernel
theorem dX3_putNew_235 : decode cX3_putNew 235 = .ok (.return_, 1) := by decide +kernel
set_option maxRecDepth 20000 in
theorem ggX3_put_X3_has : GoodIn wsX3_put wsX3_has := goodIn_r _ [10, 11, 4, 86, 87, 88, 89, 90, 91, 92, 93, 94, 95, 96, 97, 98, 99, 100, 101, 102, 103, 104, 105, 106, 107, 108, 109] (by decide +kernel) (by decide +kernel)
set_option maxRecDepth 20000 in
theorem gX3_put_X3_has : GoodIn wsX3_put (wsV RX3 118 RX3 yX3_has wsX3_has) := goodIn_app (goodIn_of _ (by decide +kernel)) ggX3_put_X3_has
set_option maxRecDepth 20000 in
theorem ggX3_put_X3_freeHandle : GoodIn wsX3_put wsX3_freeHandle := goodIn_r _ [15, 11, 4, 86, 87, 88, 89, 90, 91, 92, 93, 94, 95, 96, 97, 98, 99, 100, 101, 102, 103, 104, 105, 106, 107, 108, 109] (by decide +kernel) (by decide +kernel)
set_option maxRecDepth 20000 in
theorem gX3_put_X3_freeHandle : GoodIn wsX3_put (wsV RX3 121 RX3 yX3_freeHandle wsX3_freeHandle) := goodIn_app (goodIn_of _ (by decide +kernel)) ggX3_put_X3_freeHandle
set_option maxRecDepth 20000 in
theorem ggX3_put_X3_begin : GoodIn wsX3_put wsX3_begin := goodIn_r _ [19, 20, 21, 5, 22, 23, 24, 25, 9, 26, 27, 11, 4, 2, 28, 29, 30, 31, 32, 33, 34, 35, 86, 87, 88, 89, 90, 91, 92, 93, 94, 95, 96, 97, 98, 99, 100, 101, 102, 103, 104, 105, 106, 107, 108, 109] (by decide +kernel) (by decide +kernel)
set_option maxRecDepth 20000 in
theorem gX3_put_X3_begin : GoodIn wsX3_put (wsV RX3 124 RX3 yX3_begin wsX3_begin) := goodIn_app (goodIn_of _ (by decide +kernel)) ggX3_put_X3_begin
set_option maxRecDepth 20000 in
theorem ggX3_put_X3_find : GoodIn wsX3_put wsX3_find := goodIn_r _ [39, 40, 35, 34, 86, 87, 88, 89, 90, 91, 92, 93, 94, 95, 96, 97, 98, 99, 100, 101, 102, 103, 104, 105, 106, 107, 108, 109] (by decide +kernel) (by decide +kernel)
set_option maxRecDepth 20000 in
theorem gX3_put_X3_find : GoodIn wsX3_put (wsV RX3 127 RX3 yX3_find wsX3_find) := goodIn_app (goodIn_of _ (by decide +kernel)) ggX3_put_X3_find
set_option maxRecDepth 20000 in
theorem ggX3_put_X3_go : GoodIn wsX3_put wsX3_go := goodIn_r _ [44, 3, 45, 40, 35, 34, 86, 87, 88, 89, 90, 91, 92, 93, 94, 95, 96, 97, 98, 99, 100, 101, 102, 103, 104, 105, 106, 107, 108, 109] (by decide +kernel) (by decide +kernel)
set_option maxRecDepth 20000 in
theorem gX3_put_X3_go : GoodIn wsX3_put (wsV RX3 131 RX3 yX3_go wsX3_go) := goodIn_app (goodIn_of _ (by decide +kernel)) ggX3_put_X3_go
set_option maxRecDepth 20000 in
theorem ggX3_put_X3_takes : GoodIn wsX3_put wsX3_takes := goodIn_r _ [49, 50, 51, 52, 23, 24, 25, 9, 26, 27, 11, 4, 2, 28, 29, 30, 31, 32, 33, 34, 35, 86, 87, 88, 89, 90, 91, 92, 93, 94, 95, 96, 97, 98, 99, 100, 101, 102, 103, 104, 105, 106, 107, 108, 109] (by decide +kernel) (by decide +kernel)
set_option maxRecDepth 20000 in
theorem gX3_put_X3_takes : GoodIn wsX3_put (wsV RX3 97 RX3 yX3_takes wsX3_takes) := goodIn_app (goodIn_of _ (by decide +kernel)) ggX3_put_X3_takes
set_option maxRecDepth 20000 in
theorem ggX3_put_X3_putValue : GoodIn wsX3_put wsX3_putValue := goodIn_r _ [56, 3, 45, 57, 40, 58, 59, 60, 9, 61, 62, 34, 35, 63, 64, 65, 66, 27, 21, 20, 67, 68, 69, 70, 22, 5, 71, 72, 73, 74, 75, 86, 87, 88, 89, 90, 91, 92, 93, 94, 95, 96, 97, 98, 99, 100, 101, 102, 103, 104, 105, 106, 107, 108, 109] (by decide +kernel) (by decide +kernel)
set_option maxRecDepth 20000 in
theorem gX3_put_X3_putValue : GoodIn wsX3_put (wsV RX3 135 RX3 yX3_putValue wsX3_putValue) := goodIn_app (goodIn_of _ (by decide +kernel)) ggX3_put_X3_putValue
set_option maxRecDepth 20000 in
theorem ggX3_put_X3_putNew : GoodIn wsX3_put wsX3_putNew := goodIn_r _ [79, 80, 81, 3, 45, 40, 34, 35, 63, 64, 65, 9, 66, 27, 21, 20, 57, 62, 82, 83, 84, 85, 58, 59, 60, 61, 67, 68, 69, 70, 22, 5, 71, 72, 73, 74, 75, 86, 87, 88, 89, 90, 91, 92, 93, 94, 95, 96, 97, 98, 99, 100, 101, 102, 103, 104, 105, 106, 107, 108, 109] (by decide +kernel) (by decide +kernel)
set_option maxRecDepth 20000 in
theorem gX3_put_X3_putNew : GoodIn wsX3_put (wsV RX3 139 RX3 yX3_putNew wsX3_putNew) := goodIn_app (goodIn_of _ (by decide +kernel)) ggX3_put_X3_putNew
theorem dX3_put_0 : decode cX3_put 0 = .ok (.aload_n 0, 1) := by decide +kernel
theorem dX3_put_1 : decode cX3_put 1 = .ok (.iconst 0, 1) := by decide +kernel
theorem dX3_put_2 : decode cX3_put 2 = .ok (.putfield 54, 3) := by decide +kernel
theorem dX3_put_5 : decode cX3_put 5 = .ok (.aload_n 0, 1) := by decide +kernel
theorem dX3_put_6 : decode cX3_put 6 = .ok (.iload_n 1, 1) := by decide +kernel
theorem dX3_put_7 : decode cX3_put 7 = .ok (.invokevirtual 118, 3) := by decide +kernel
theorem dX3_put_10 : decode cX3_put 10 = .ok (.ifCond .ne 5, 3) := by decide +kernel
theorem dX3_put_13 : decode cX3_put 13 = .ok (.iconst (-1), 1) := by decide +kernel
theorem dX3_put_14 : decode cX3_put 14 = .ok (.ireturn, 1) := by decide +kernel
theorem dX3_put_15 : decode cX3_put 15 = .ok (.aload_n 0, 1) := by decide +kernel
theorem dX3_put_16 : decode cX3_put 16 = .ok (.invokevirtual 121, 3) := by decide +kernel
theorem dX3_put_19 : decode cX3_put 19 = .ok (.istore 4, 2) := by decide +kernel
theorem dX3_put_21 : decode cX3_put 21 = .ok (.iload 4, 2) := by decide +kernel
theorem dX3_put_23 : decode cX3_put 23 = .ok (.ifCond .ge 6, 3) := by decide +kernel
theorem dX3_put_26 : decode cX3_put 26 = .ok (.bipush (-2), 2) := by decide +kernel
theorem dX3_put_28 : decode cX3_put 28 = .ok (.ireturn, 1) := by decide +kernel
theorem dX3_put_29 : decode cX3_put 29 = .ok (.aload_n 0, 1) := by decide +kernel
theorem dX3_put_30 : decode cX3_put 30 = .ok (.invokevirtual 124, 3) := by decide +kernel
theorem dX3_put_33 : decode cX3_put 33 = .ok (.aload_n 0, 1) := by decide +kernel
theorem dX3_put_34 : decode cX3_put 34 = .ok (.aload_n 0, 1) := by decide +kernel
theorem dX3_put_35 : decode cX3_put 35 = .ok (.getfield 38, 3) := by decide +kernel
theorem dX3_put_38 : decode cX3_put 38 = .ok (.iload_n 1, 1) := by decide +kernel
theorem dX3_put_39 : decode cX3_put 39 = .ok (.iaload, 1) := by decide +kernel
theorem dX3_put_40 : decode cX3_put 40 = .ok (.iload_n 2, 1) := by decide +kernel
theorem dX3_put_41 : decode cX3_put 41 = .ok (.invokevirtual 127, 3) := by decide +kernel
theorem dX3_put_44 : decode cX3_put 44 = .ok (.ifCond .lt 7, 3) := by decide +kernel
theorem dX3_put_47 : decode cX3_put 47 = .ok (.iconst 1, 1) := by decide +kernel
theorem dX3_put_48 : decode cX3_put 48 = .ok (.goto 4, 3) := by decide +kernel
theorem dX3_put_51 : decode cX3_put 51 = .ok (.iconst 0, 1) := by decide +kernel
theorem dX3_put_52 : decode cX3_put 52 = .ok (.istore 5, 2) := by decide +kernel
theorem dX3_put_54 : decode cX3_put 54 = .ok (.aload_n 0, 1) := by decide +kernel
theorem dX3_put_55 : decode cX3_put 55 = .ok (.aload_n 0, 1) := by decide +kernel
theorem dX3_put_56 : decode cX3_put 56 = .ok (.getfield 38, 3) := by decide +kernel
theorem dX3_put_59 : decode cX3_put 59 = .ok (.iload_n 1, 1) := by decide +kernel
theorem dX3_put_60 : decode cX3_put 60 = .ok (.iaload, 1) := by decide +kernel
theorem dX3_put_61 : decode cX3_put 61 = .ok (.iload_n 2, 1) := by decide +kernel
theorem dX3_put_62 : decode cX3_put 62 = .ok (.iload 5, 2) := by decide +kernel
theorem dX3_put_64 : decode cX3_put 64 = .ok (.invokevirtual 131, 3) := by decide +kernel
theorem dX3_put_67 : decode cX3_put 67 = .ok (.aload_n 0, 1) := by decide +kernel
theorem dX3_put_68 : decode cX3_put 68 = .ok (.iload 5, 2) := by decide +kernel
theorem dX3_put_70 : decode cX3_put 70 = .ok (.ifCond .eq 10, 3) := by decide +kernel
theorem dX3_put_73 : decode cX3_put 73 = .ok (.aload_n 0, 1) := by decide +kernel
theorem dX3_put_74 : decode cX3_put 74 = .ok (.getfield 88, 3) := by decide +kernel
theorem dX3_put_77 : decode cX3_put 77 = .ok (.goto 9, 3) := by decide +kernel
theorem dX3_put_80 : decode cX3_put 80 = .ok (.aload_n 0, 1) := by decide +kernel
theorem dX3_put_81 : decode cX3_put 81 = .ok (.getfield 88, 3) := by decide +kernel
theorem dX3_put_84 : decode cX3_put 84 = .ok (.iconst 1, 1) := by decide +kernel
theorem dX3_put_85 : decode cX3_put 85 = .ok (.iadd, 1) := by decide +kernel
theorem dX3_put_86 : decode cX3_put 86 = .ok (.invokevirtual 97, 3) := by decide +kernel
theorem dX3_put_89 : decode cX3_put 89 = .ok (.ifCond .ne 6, 3) := by decide +kernel
theorem dX3_put_92 : decode cX3_put 92 = .ok (.bipush (-3), 2) := by decide +kernel
theorem dX3_put_94 : decode cX3_put 94 = .ok (.ireturn, 1) := by decide +kernel
theorem dX3_put_95 : decode cX3_put 95 = .ok (.iload 5, 2) := by decide +kernel
theorem dX3_put_97 : decode cX3_put 97 = .ok (.ifCond .eq 12, 3) := by decide +kernel
theorem dX3_put_100 : decode cX3_put 100 = .ok (.aload_n 0, 1) := by decide +kernel
theorem dX3_put_101 : decode cX3_put 101 = .ok (.iload_n 2, 1) := by decide +kernel
theorem dX3_put_102 : decode cX3_put 102 = .ok (.iload_n 3, 1) := by decide +kernel
theorem dX3_put_103 : decode cX3_put 103 = .ok (.invokevirtual 135, 3) := by decide +kernel
theorem dX3_put_106 : decode cX3_put 106 = .ok (.goto 9, 3) := by decide +kernel
theorem dX3_put_109 : decode cX3_put 109 = .ok (.aload_n 0, 1) := by decide +kernel
theorem dX3_put_110 : decode cX3_put 110 = .ok (.iload_n 2, 1) := by decide +kernel
theorem dX3_put_111 : decode cX3_put 111 = .ok (.iload_n 3, 1) := by decide +kernel
theorem dX3_put_112 : decode cX3_put 112 = .ok (.invokevirtual 139, 3) := by decide +kernel
theorem dX3_put_115 : decode cX3_put 115 = .ok (.aload_n 0, 1) := by decide +kernel
theorem dX3_put_116 : decode cX3_put 116 = .ok (.getfield 35, 3) := by decide +kernel
theorem dX3_put_119 : decode cX3_put 119 = .ok (.iload 4, 2) := by decide +kernel
theorem dX3_put_121 : decode cX3_put 121 = .ok (.iconst 1, 1) := by decide +kernel
theorem dX3_put_122 : decode cX3_put 122 = .ok (.bastore, 1) := by decide +kernel
theorem dX3_put_123 : decode cX3_put 123 = .ok (.aload_n 0, 1) := by decide +kernel
theorem dX3_put_124 : decode cX3_put 124 = .ok (.getfield 38, 3) := by decide +kernel
theorem dX3_put_127 : decode cX3_put 127 = .ok (.iload 4, 2) := by decide +kernel
theorem dX3_put_129 : decode cX3_put 129 = .ok (.aload_n 0, 1) := by decide +kernel
theorem dX3_put_130 : decode cX3_put 130 = .ok (.getfield 74, 3) := by decide +kernel
theorem dX3_put_133 : decode cX3_put 133 = .ok (.iastore, 1) := by decide +kernel
theorem dX3_put_134 : decode cX3_put 134 = .ok (.iload 4, 2) := by decide +kernel
theorem dX3_put_136 : decode cX3_put 136 = .ok (.ireturn, 1) := by decide +kernel
set_option maxRecDepth 20000 in
theorem ggX3_joint_X3_above : GoodIn wsX3_joint wsX3_above := goodIn_r _ [7, 8, 9, 33, 34, 35, 36, 37, 38, 39, 40, 41, 42, 43, 44, 45, 46, 47, 48, 49, 50, 51, 52, 53, 54, 55, 56] (by decide +kernel) (by decide +kernel)
set_option maxRecDepth 20000 in
theorem gX3_joint_X3_above : GoodIn wsX3_joint (wsV RX3 114 RX3 yX3_above wsX3_above) := goodIn_app (goodIn_of _ (by decide +kernel)) ggX3_joint_X3_above
set_option maxRecDepth 20000 in
theorem ggX3_joint_X3_copy : GoodIn wsX3_joint wsX3_copy := goodIn_r _ [13, 9, 14, 8, 2, 1, 15, 16, 17, 6, 18, 19, 20, 21, 33, 34, 35, 36, 37, 38, 39, 40, 41, 42, 43, 44, 45, 46, 47, 48, 49, 50, 51, 52, 53, 54, 55, 56] (by decide +kernel) (by decide +kernel)
set_option maxRecDepth 20000 in
theorem gX3_joint_X3_copy : GoodIn wsX3_joint (wsV RX3 101 RX3 yX3_copy wsX3_copy) := goodIn_app (goodIn_of _ (by decide +kernel)) ggX3_joint_X3_copy
set_option maxRecDepth 20000 in
theorem ggX3_joint_X3_hang : GoodIn wsX3_joint wsX3_hang := goodIn_r _ [25, 26, 27, 28, 1, 2, 33, 34, 35, 36, 37, 38, 39, 40, 41, 42, 43, 44, 45, 46, 47, 48, 49, 50, 51, 52, 53, 54, 55, 56] (by decide +kernel) (by decide +kernel)
set_option maxRecDepth 20000 in
theorem gX3_joint_X3_hang : GoodIn wsX3_joint (wsV RX3 105 RX3 yX3_hang wsX3_hang) := goodIn_app (goodIn_of _ (by decide +kernel)) ggX3_joint_X3_hang
set_option maxRecDepth 20000 in
theorem ggX3_joint_X3_holeAt : GoodIn wsX3_joint wsX3_holeAt := goodIn_r _ [32, 26, 28, 33, 34, 35, 36, 37, 38, 39, 40, 41, 42, 43, 44, 45, 46, 47, 48, 49, 50, 51, 52, 53, 54, 55, 56] (by decide +kernel) (by decide +kernel)
set_option maxRecDepth 20000 in
theorem gX3_joint_X3_holeAt : GoodIn wsX3_joint (wsV RX3 109 RX3 yX3_holeAt wsX3_holeAt) := goodIn_app (goodIn_of _ (by decide +kernel)) ggX3_joint_X3_holeAt
theorem dX3_joint_0 : decode cX3_joint 0 = .ok (.iload_n 1, 1) := by decide +kernel
theorem dX3_joint_1 : decode cX3_joint 1 = .ok (.istore_n 3, 1) := by decide +kernel
theorem dX3_joint_2 : decode cX3_joint 2 = .ok (.iload_n 2, 1) := by decide +kernel
theorem dX3_joint_3 : decode cX3_joint 3 = .ok (.istore 4, 2) := by decide +kernel
theorem dX3_joint_5 : decode cX3_joint 5 = .ok (.iload_n 3, 1) := by decide +kernel
theorem dX3_joint_6 : decode cX3_joint 6 = .ok (.ifCond .lt 86, 3) := by decide +kernel
theorem dX3_joint_9 : decode cX3_joint 9 = .ok (.iload 4, 2) := by decide +kernel
theorem dX3_joint_11 : decode cX3_joint 11 = .ok (.ifCond .lt 81, 3) := by decide +kernel
theorem dX3_joint_14 : decode cX3_joint 14 = .ok (.aload_n 0, 1) := by decide +kernel
theorem dX3_joint_15 : decode cX3_joint 15 = .ok (.iload_n 3, 1) := by decide +kernel
theorem dX3_joint_16 : decode cX3_joint 16 = .ok (.iload 4, 2) := by decide +kernel
theorem dX3_joint_18 : decode cX3_joint 18 = .ok (.invokevirtual 114, 3) := by decide +kernel
theorem dX3_joint_21 : decode cX3_joint 21 = .ok (.istore 5, 2) := by decide +kernel
theorem dX3_joint_23 : decode cX3_joint 23 = .ok (.aload_n 0, 1) := by decide +kernel
theorem dX3_joint_24 : decode cX3_joint 24 = .ok (.iload 5, 2) := by decide +kernel
theorem dX3_joint_26 : decode cX3_joint 26 = .ok (.ifCond .eq 7, 3) := by decide +kernel
theorem dX3_joint_29 : decode cX3_joint 29 = .ok (.iload_n 3, 1) := by decide +kernel
theorem dX3_joint_30 : decode cX3_joint 30 = .ok (.goto 5, 3) := by decide +kernel
theorem dX3_joint_33 : decode cX3_joint 33 = .ok (.iload 4, 2) := by decide +kernel
theorem dX3_joint_35 : decode cX3_joint 35 = .ok (.invokevirtual 101, 3) := by decide +kernel
theorem dX3_joint_38 : decode cX3_joint 38 = .ok (.istore 6, 2) := by decide +kernel
theorem dX3_joint_40 : decode cX3_joint 40 = .ok (.aload_n 0, 1) := by decide +kernel
theorem dX3_joint_41 : decode cX3_joint 41 = .ok (.iload 6, 2) := by decide +kernel
theorem dX3_joint_43 : decode cX3_joint 43 = .ok (.invokevirtual 105, 3) := by decide +kernel
theorem dX3_joint_46 : decode cX3_joint 46 = .ok (.aload_n 0, 1) := by decide +kernel
theorem dX3_joint_47 : decode cX3_joint 47 = .ok (.iload 6, 2) := by decide +kernel
theorem dX3_joint_49 : decode cX3_joint 49 = .ok (.iload 5, 2) := by decide +kernel
theorem dX3_joint_51 : decode cX3_joint 51 = .ok (.invokevirtual 109, 3) := by decide +kernel
theorem dX3_joint_54 : decode cX3_joint 54 = .ok (.iload 5, 2) := by decide +kernel
theorem dX3_joint_56 : decode cX3_joint 56 = .ok (.ifCond .eq 12, 3) := by decide +kernel
theorem dX3_joint_59 : decode cX3_joint 59 = .ok (.aload_n 0, 1) := by decide +kernel
theorem dX3_joint_60 : decode cX3_joint 60 = .ok (.getfield 22, 3) := by decide +kernel
theorem dX3_joint_63 : decode cX3_joint 63 = .ok (.iload_n 3, 1) := by decide +kernel
theorem dX3_joint_64 : decode cX3_joint 64 = .ok (.iaload, 1) := by decide +kernel
theorem dX3_joint_65 : decode cX3_joint 65 = .ok (.goto 4, 3) := by decide +kernel
theorem dX3_joint_68 : decode cX3_joint 68 = .ok (.iload_n 3, 1) := by decide +kernel
theorem dX3_joint_69 : decode cX3_joint 69 = .ok (.istore_n 3, 1) := by decide +kernel
theorem dX3_joint_70 : decode cX3_joint 70 = .ok (.iload 5, 2) := by decide +kernel
theorem dX3_joint_72 : decode cX3_joint 72 = .ok (.ifCond .eq 8, 3) := by decide +kernel
theorem dX3_joint_75 : decode cX3_joint 75 = .ok (.iload 4, 2) := by decide +kernel
theorem dX3_joint_77 : decode cX3_joint 77 = .ok (.goto 10, 3) := by decide +kernel
theorem dX3_joint_80 : decode cX3_joint 80 = .ok (.aload_n 0, 1) := by decide +kernel
theorem dX3_joint_81 : decode cX3_joint 81 = .ok (.getfield 19, 3) := by decide +kernel
theorem dX3_joint_84 : decode cX3_joint 84 = .ok (.iload 4, 2) := by decide +kernel
theorem dX3_joint_86 : decode cX3_joint 86 = .ok (.iaload, 1) := by decide +kernel
theorem dX3_joint_87 : decode cX3_joint 87 = .ok (.istore 4, 2) := by decide +kernel
theorem dX3_joint_89 : decode cX3_joint 89 = .ok (.goto (-84), 3) := by decide +kernel
theorem dX3_joint_92 : decode cX3_joint 92 = .ok (.aload_n 0, 1) := by decide +kernel
theorem dX3_joint_93 : decode cX3_joint 93 = .ok (.iload_n 3, 1) := by decide +kernel
theorem dX3_joint_94 : decode cX3_joint 94 = .ok (.ifCond .lt 7, 3) := by decide +kernel
theorem dX3_joint_97 : decode cX3_joint 97 = .ok (.iload_n 3, 1) := by decide +kernel
theorem dX3_joint_98 : decode cX3_joint 98 = .ok (.goto 5, 3) := by decide +kernel
theorem dX3_joint_101 : decode cX3_joint 101 = .ok (.iload 4, 2) := by decide +kernel
theorem dX3_joint_103 : decode cX3_joint 103 = .ok (.invokevirtual 105, 3) := by decide +kernel
theorem dX3_joint_106 : decode cX3_joint 106 = .ok (.return_, 1) := by decide +kernel
set_option maxRecDepth 20000 in
theorem ggX3_remove_X3_has : GoodIn wsX3_remove wsX3_has := goodIn_r _ [13, 14, 15, 84, 85, 86, 87, 88, 89, 90, 91, 92, 93, 94, 95, 96, 97, 98, 99, 100, 101, 102, 103, 104, 105, 106, 107] (by decide +kernel) (by decide +kernel)
set_option maxRecDepth 20000 in
theorem gX3_remove_X3_has : GoodIn wsX3_remove (wsV RX3 118 RX3 yX3_has wsX3_has) := goodIn_app (goodIn_of _ (by decide +kernel)) ggX3_remove_X3_has
set_option maxRecDepth 20000 in
theorem ggX3_remove_X3_freeHandle : GoodIn wsX3_remove wsX3_freeHandle := goodIn_r _ [19, 14, 15, 84, 85, 86, 87, 88, 89, 90, 91, 92, 93, 94, 95, 96, 97, 98, 99, 100, 101, 102, 103, 104, 105, 106, 107] (by decide +kernel) (by decide +kernel)
set_option maxRecDepth 20000 in
theorem gX3_remove_X3_freeHandle : GoodIn wsX3_remove (wsV RX3 121 RX3 yX3_freeHandle wsX3_freeHandle) := goodIn_app (goodIn_of _ (by decide +kernel)) ggX3_remove_X3_freeHandle
set_option maxRecDepth 20000 in
theorem ggX3_remove_X3_begin : GoodIn wsX3_remove wsX3_begin := goodIn_r _ [23, 24, 25, 3, 26, 27, 28, 29, 12, 30, 31, 14, 15, 2, 32, 33, 34, 35, 36, 37, 7, 8, 84, 85, 86, 87, 88, 89, 90, 91, 92, 93, 94, 95, 96, 97, 98, 99, 100, 101, 102, 103, 104, 105, 106, 107] (by decide +kernel) (by decide +kernel)
set_option maxRecDepth 20000 in
theorem gX3_remove_X3_begin : GoodIn wsX3_remove (wsV RX3 124 RX3 yX3_begin wsX3_begin) := goodIn_app (goodIn_of _ (by decide +kernel)) ggX3_remove_X3_begin
set_option maxRecDepth 20000 in
theorem ggX3_remove_X3_find : GoodIn wsX3_remove wsX3_find := goodIn_r _ [41, 6, 8, 7, 84, 85, 86, 87, 88, 89, 90, 91, 92, 93, 94, 95, 96, 97, 98, 99, 100, 101, 102, 103, 104, 105, 106, 107] (by decide +kernel) (by decide +kernel)
set_option maxRecDepth 20000 in
theorem gX3_remove_X3_find : GoodIn wsX3_remove (wsV RX3 127 RX3 yX3_find wsX3_find) := goodIn_app (goodIn_of _ (by decide +kernel)) ggX3_remove_X3_find
set_option maxRecDepth 20000 in
theorem ggX3_remove_X3_settle : GoodIn wsX3_remove wsX3_settle := goodIn_r _ [45, 24, 15, 2, 3, 46, 47, 48, 12, 49, 50, 51, 52, 27, 28, 29, 30, 31, 14, 32, 33, 34, 35, 36, 37, 7, 8, 84, 85, 86, 87, 88, 89, 90, 91, 92, 93, 94, 95, 96, 97, 98, 99, 100, 101, 102, 103, 104, 105, 106, 107] (by decide +kernel) (by decide +kernel)
set_option maxRecDepth 20000 in
theorem gX3_remove_X3_settle : GoodIn wsX3_remove (wsV RX3 142 RX3 yX3_settle wsX3_settle) := goodIn_app (goodIn_of _ (by decide +kernel)) ggX3_remove_X3_settle
set_option maxRecDepth 20000 in
theorem ggX3_remove_X3_go : GoodIn wsX3_remove wsX3_go := goodIn_r _ [56, 4, 5, 6, 8, 7, 84, 85, 86, 87, 88, 89, 90, 91, 92, 93, 94, 95, 96, 97, 98, 99, 100, 101, 102, 103, 104, 105, 106, 107] (by decide +kernel) (by decide +kernel)
set_option maxRecDepth 20000 in
theorem gX3_remove_X3_go : GoodIn wsX3_remove (wsV RX3 131 RX3 yX3_go wsX3_go) := goodIn_app (goodIn_of _ (by decide +kernel)) ggX3_remove_X3_go
set_option maxRecDepth 20000 in
theorem ggX3_remove_X3_copy : GoodIn wsX3_remove wsX3_copy := goodIn_r _ [60, 6, 61, 62, 7, 8, 63, 64, 65, 12, 66, 31, 25, 24, 84, 85, 86, 87, 88, 89, 90, 91, 92, 93, 94, 95, 96, 97, 98, 99, 100, 101, 102, 103, 104, 105, 106, 107] (by decide +kernel) (by decide +kernel)
set_option maxRecDepth 20000 in
theorem gX3_remove_X3_copy : GoodIn wsX3_remove (wsV RX3 101 RX3 yX3_copy wsX3_copy) := goodIn_app (goodIn_of _ (by decide +kernel)) ggX3_remove_X3_copy
set_option maxRecDepth 20000 in
theorem ggX3_remove_X3_hang : GoodIn wsX3_remove wsX3_hang := goodIn_r _ [70, 26, 3, 71, 8, 7, 84, 85, 86, 87, 88, 89, 90, 91, 92, 93, 94, 95, 96, 97, 98, 99, 100, 101, 102, 103, 104, 105, 106, 107] (by decide +kernel) (by decide +kernel)
set_option maxRecDepth 20000 in
theorem gX3_remove_X3_hang : GoodIn wsX3_remove (wsV RX3 105 RX3 yX3_hang wsX3_hang) := goodIn_app (goodIn_of _ (by decide +kernel)) ggX3_remove_X3_hang
set_option maxRecDepth 20000 in
theorem ggX3_remove_X3_holeAt : GoodIn wsX3_remove wsX3_holeAt := goodIn_r _ [75, 26, 71, 84, 85, 86, 87, 88, 89, 90, 91, 92, 93, 94, 95, 96, 97, 98, 99, 100, 101, 102, 103, 104, 105, 106, 107] (by decide +kernel) (by decide +kernel)
set_option maxRecDepth 20000 in
theorem gX3_remove_X3_holeAt : GoodIn wsX3_remove (wsV RX3 109 RX3 yX3_holeAt wsX3_holeAt) := goodIn_app (goodIn_of _ (by decide +kernel)) ggX3_remove_X3_holeAt
set_option maxRecDepth 20000 in
theorem ggX3_remove_X3_joint : GoodIn wsX3_remove wsX3_joint := goodIn_r _ [79, 8, 7, 80, 81, 82, 12, 83, 62, 6, 57, 58, 59, 60, 61, 63, 64, 65, 66, 31, 25, 24, 67, 68, 69, 70, 26, 3, 71, 72, 73, 74, 75, 84, 85, 86, 87, 88, 89, 90, 91, 92, 93, 94, 95, 96, 97, 98, 99, 100, 101, 102, 103, 104, 105, 106, 107] (by decide +kernel) (by decide +kernel)
set_option maxRecDepth 20000 in
theorem gX3_remove_X3_joint : GoodIn wsX3_remove (wsV RX3 145 RX3 yX3_joint wsX3_joint) := goodIn_app (goodIn_of _ (by decide +kernel)) ggX3_remove_X3_joint
theorem dX3_remove_0 : decode cX3_remove 0 = .ok (.aload_n 0, 1) := by decide +kernel
theorem dX3_remove_1 : decode cX3_remove 1 = .ok (.iconst 0, 1) := by decide +kernel
theorem dX3_remove_2 : decode cX3_remove 2 = .ok (.putfield 54, 3) := by decide +kernel
theorem dX3_remove_5 : decode cX3_remove 5 = .ok (.aload_n 0, 1) := by decide +kernel
theorem dX3_remove_6 : decode cX3_remove 6 = .ok (.iload_n 1, 1) := by decide +kernel
theorem dX3_remove_7 : decode cX3_remove 7 = .ok (.invokevirtual 118, 3) := by decide +kernel
theorem dX3_remove_10 : decode cX3_remove 10 = .ok (.ifCond .ne 5, 3) := by decide +kernel
theorem dX3_remove_13 : decode cX3_remove 13 = .ok (.iconst (-1), 1) := by decide +kernel
theorem dX3_remove_14 : decode cX3_remove 14 = .ok (.ireturn, 1) := by decide +kernel
theorem dX3_remove_15 : decode cX3_remove 15 = .ok (.aload_n 0, 1) := by decide +kernel
theorem dX3_remove_16 : decode cX3_remove 16 = .ok (.invokevirtual 121, 3) := by decide +kernel
theorem dX3_remove_19 : decode cX3_remove 19 = .ok (.istore_n 3, 1) := by decide +kernel
theorem dX3_remove_20 : decode cX3_remove 20 = .ok (.iload_n 3, 1) := by decide +kernel
theorem dX3_remove_21 : decode cX3_remove 21 = .ok (.ifCond .ge 6, 3) := by decide +kernel
theorem dX3_remove_24 : decode cX3_remove 24 = .ok (.bipush (-2), 2) := by decide +kernel
theorem dX3_remove_26 : decode cX3_remove 26 = .ok (.ireturn, 1) := by decide +kernel
theorem dX3_remove_27 : decode cX3_remove 27 = .ok (.aload_n 0, 1) := by decide +kernel
theorem dX3_remove_28 : decode cX3_remove 28 = .ok (.invokevirtual 124, 3) := by decide +kernel
theorem dX3_remove_31 : decode cX3_remove 31 = .ok (.aload_n 0, 1) := by decide +kernel
theorem dX3_remove_32 : decode cX3_remove 32 = .ok (.aload_n 0, 1) := by decide +kernel
theorem dX3_remove_33 : decode cX3_remove 33 = .ok (.getfield 38, 3) := by decide +kernel
theorem dX3_remove_36 : decode cX3_remove 36 = .ok (.iload_n 1, 1) := by decide +kernel
theorem dX3_remove_37 : decode cX3_remove 37 = .ok (.iaload, 1) := by decide +kernel
theorem dX3_remove_38 : decode cX3_remove 38 = .ok (.iload_n 2, 1) := by decide +kernel
theorem dX3_remove_39 : decode cX3_remove 39 = .ok (.invokevirtual 127, 3) := by decide +kernel
theorem dX3_remove_42 : decode cX3_remove 42 = .ok (.istore 4, 2) := by decide +kernel
theorem dX3_remove_44 : decode cX3_remove 44 = .ok (.iload 4, 2) := by decide +kernel
theorem dX3_remove_46 : decode cX3_remove 46 = .ok (.ifCond .ge 19, 3) := by decide +kernel
theorem dX3_remove_49 : decode cX3_remove 49 = .ok (.aload_n 0, 1) := by decide +kernel
theorem dX3_remove_50 : decode cX3_remove 50 = .ok (.aload_n 0, 1) := by decide +kernel
theorem dX3_remove_51 : decode cX3_remove 51 = .ok (.getfield 38, 3) := by decide +kernel
theorem dX3_remove_54 : decode cX3_remove 54 = .ok (.iload_n 1, 1) := by decide +kernel
theorem dX3_remove_55 : decode cX3_remove 55 = .ok (.iaload, 1) := by decide +kernel
theorem dX3_remove_56 : decode cX3_remove 56 = .ok (.putfield 74, 3) := by decide +kernel
theorem dX3_remove_59 : decode cX3_remove 59 = .ok (.aload_n 0, 1) := by decide +kernel
theorem dX3_remove_60 : decode cX3_remove 60 = .ok (.iload_n 3, 1) := by decide +kernel
theorem dX3_remove_61 : decode cX3_remove 61 = .ok (.invokevirtual 142, 3) := by decide +kernel
theorem dX3_remove_64 : decode cX3_remove 64 = .ok (.ireturn, 1) := by decide +kernel
theorem dX3_remove_65 : decode cX3_remove 65 = .ok (.aload_n 0, 1) := by decide +kernel
theorem dX3_remove_66 : decode cX3_remove 66 = .ok (.aload_n 0, 1) := by decide +kernel
theorem dX3_remove_67 : decode cX3_remove 67 = .ok (.getfield 38, 3) := by decide +kernel
theorem dX3_remove_70 : decode cX3_remove 70 = .ok (.iload_n 1, 1) := by decide +kernel
theorem dX3_remove_71 : decode cX3_remove 71 = .ok (.iaload, 1) := by decide +kernel
theorem dX3_remove_72 : decode cX3_remove 72 = .ok (.iload_n 2, 1) := by decide +kernel
theorem dX3_remove_73 : decode cX3_remove 73 = .ok (.iconst 1, 1) := by decide +kernel
theorem dX3_remove_74 : decode cX3_remove 74 = .ok (.invokevirtual 131, 3) := by decide +kernel
theorem dX3_remove_77 : decode cX3_remove 77 = .ok (.iconst 0, 1) := by decide +kernel
theorem dX3_remove_78 : decode cX3_remove 78 = .ok (.istore 5, 2) := by decide +kernel
theorem dX3_remove_80 : decode cX3_remove 80 = .ok (.iload 5, 2) := by decide +kernel
theorem dX3_remove_82 : decode cX3_remove 82 = .ok (.aload_n 0, 1) := by decide +kernel
theorem dX3_remove_83 : decode cX3_remove 83 = .ok (.getfield 88, 3) := by decide +kernel
theorem dX3_remove_86 : decode cX3_remove 86 = .ok (.iconst 1, 1) := by decide +kernel
theorem dX3_remove_87 : decode cX3_remove 87 = .ok (.isub, 1) := by decide +kernel
theorem dX3_remove_88 : decode cX3_remove 88 = .ok (.if_icmp .ge 50, 3) := by decide +kernel
theorem dX3_remove_91 : decode cX3_remove 91 = .ok (.aload_n 0, 1) := by decide +kernel
theorem dX3_remove_92 : decode cX3_remove 92 = .ok (.aload_n 0, 1) := by decide +kernel
theorem dX3_remove_93 : decode cX3_remove 93 = .ok (.getfield 41, 3) := by decide +kernel
theorem dX3_remove_96 : decode cX3_remove 96 = .ok (.iload 5, 2) := by decide +kernel
theorem dX3_remove_98 : decode cX3_remove 98 = .ok (.iaload, 1) := by decide +kernel
theorem dX3_remove_99 : decode cX3_remove 99 = .ok (.invokevirtual 101, 3) := by decide +kernel
theorem dX3_remove_102 : decode cX3_remove 102 = .ok (.istore 6, 2) := by decide +kernel
theorem dX3_remove_104 : decode cX3_remove 104 = .ok (.aload_n 0, 1) := by decide +kernel
theorem dX3_remove_105 : decode cX3_remove 105 = .ok (.iload 6, 2) := by decide +kernel
theorem dX3_remove_107 : decode cX3_remove 107 = .ok (.invokevirtual 105, 3) := by decide +kernel
theorem dX3_remove_110 : decode cX3_remove 110 = .ok (.aload_n 0, 1) := by decide +kernel
theorem dX3_remove_111 : decode cX3_remove 111 = .ok (.iload 6, 2) := by decide +kernel
theorem dX3_remove_113 : decode cX3_remove 113 = .ok (.aload_n 0, 1) := by decide +kernel
theorem dX3_remove_114 : decode cX3_remove 114 = .ok (.getfield 7, 3) := by decide +kernel
theorem dX3_remove_117 : decode cX3_remove 117 = .ok (.iload 6, 2) := by decide +kernel
theorem dX3_remove_119 : decode cX3_remove 119 = .ok (.iaload, 1) := by decide +kernel
theorem dX3_remove_120 : decode cX3_remove 120 = .ok (.iload_n 2, 1) := by decide +kernel
theorem dX3_remove_121 : decode cX3_remove 121 = .ok (.if_icmp .ge 7, 3) := by decide +kernel
theorem dX3_remove_124 : decode cX3_remove 124 = .ok (.iconst 1, 1) := by decide +kernel
theorem dX3_remove_125 : decode cX3_remove 125 = .ok (.goto 4, 3) := by decide +kernel
theorem dX3_remove_128 : decode cX3_remove 128 = .ok (.iconst 0, 1) := by decide +kernel
theorem dX3_remove_129 : decode cX3_remove 129 = .ok (.invokevirtual 109, 3) := by decide +kernel
theorem dX3_remove_132 : decode cX3_remove 132 = .ok (.iinc 5 1, 3) := by decide +kernel
theorem dX3_remove_135 : decode cX3_remove 135 = .ok (.goto (-55), 3) := by decide +kernel
theorem dX3_remove_138 : decode cX3_remove 138 = .ok (.aload_n 0, 1) := by decide +kernel
theorem dX3_remove_139 : decode cX3_remove 139 = .ok (.aload_n 0, 1) := by decide +kernel
theorem dX3_remove_140 : decode cX3_remove 140 = .ok (.getfield 19, 3) := by decide +kernel
theorem dX3_remove_143 : decode cX3_remove 143 = .ok (.iload 4, 2) := by decide +kernel
theorem dX3_remove_145 : decode cX3_remove 145 = .ok (.iaload, 1) := by decide +kernel
theorem dX3_remove_146 : decode cX3_remove 146 = .ok (.aload_n 0, 1) := by decide +kernel
theorem dX3_remove_147 : decode cX3_remove 147 = .ok (.getfield 22, 3) := by decide +kernel
theorem dX3_remove_150 : decode cX3_remove 150 = .ok (.iload 4, 2) := by decide +kernel
theorem dX3_remove_152 : decode cX3_remove 152 = .ok (.iaload, 1) := by decide +kernel
theorem dX3_remove_153 : decode cX3_remove 153 = .ok (.invokevirtual 145, 3) := by decide +kernel
theorem dX3_remove_156 : decode cX3_remove 156 = .ok (.aload_n 0, 1) := by decide +kernel
theorem dX3_remove_157 : decode cX3_remove 157 = .ok (.iload_n 3, 1) := by decide +kernel
theorem dX3_remove_158 : decode cX3_remove 158 = .ok (.invokevirtual 142, 3) := by decide +kernel
theorem dX3_remove_161 : decode cX3_remove 161 = .ok (.ireturn, 1) := by decide +kernel
set_option maxRecDepth 20000 in
theorem ggX3_below_X3_has : GoodIn wsX3_below wsX3_has := goodIn_r _ [11, 12, 13, 72, 73, 74, 75, 76, 77, 78, 79, 80, 81, 82, 83, 84, 85, 86, 87, 88, 89, 90, 91, 92, 93, 94, 95] (by decide +kernel) (by decide +kernel)
set_option maxRecDepth 20000 in
theorem gX3_below_X3_has : GoodIn wsX3_below (wsV RX3 118 RX3 yX3_has wsX3_has) := goodIn_app (goodIn_of _ (by decide +kernel)) ggX3_below_X3_has
set_option maxRecDepth 20000 in
theorem ggX3_below_X3_freeHandle : GoodIn wsX3_below wsX3_freeHandle := goodIn_r _ [17, 12, 13, 72, 73, 74, 75, 76, 77, 78, 79, 80, 81, 82, 83, 84, 85, 86, 87, 88, 89, 90, 91, 92, 93, 94, 95] (by decide +kernel) (by decide +kernel)
set_option maxRecDepth 20000 in
theorem gX3_below_X3_freeHandle : GoodIn wsX3_below (wsV RX3 121 RX3 yX3_freeHandle wsX3_freeHandle) := goodIn_app (goodIn_of _ (by decide +kernel)) ggX3_below_X3_freeHandle
set_option maxRecDepth 20000 in
theorem ggX3_below_X3_begin : GoodIn wsX3_below wsX3_begin := goodIn_r _ [21, 22, 23, 24, 25, 26, 27, 28, 10, 29, 30, 12, 13, 2, 31, 32, 33, 34, 35, 36, 37, 6, 72, 73, 74, 75, 76, 77, 78, 79, 80, 81, 82, 83, 84, 85, 86, 87, 88, 89, 90, 91, 92, 93, 94, 95] (by decide +kernel) (by decide +kernel)
set_option maxRecDepth 20000 in
theorem gX3_below_X3_begin : GoodIn wsX3_below (wsV RX3 124 RX3 yX3_begin wsX3_begin) := goodIn_app (goodIn_of _ (by decide +kernel)) ggX3_below_X3_begin
set_option maxRecDepth 20000 in
theorem ggX3_below_X3_go : GoodIn wsX3_below wsX3_go := goodIn_r _ [41, 3, 5, 4, 6, 37, 72, 73, 74, 75, 76, 77, 78, 79, 80, 81, 82, 83, 84, 85, 86, 87, 88, 89, 90, 91, 92, 93, 94, 95] (by decide +kernel) (by decide +kernel)
set_option maxRecDepth 20000 in
theorem gX3_below_X3_go : GoodIn wsX3_below (wsV RX3 131 RX3 yX3_go wsX3_go) := goodIn_app (goodIn_of _ (by decide +kernel)) ggX3_below_X3_go
set_option maxRecDepth 20000 in
theorem ggX3_below_X3_copy : GoodIn wsX3_below wsX3_copy := goodIn_r _ [45, 4, 46, 47, 37, 6, 48, 49, 50, 10, 51, 30, 23, 22, 72, 73, 74, 75, 76, 77, 78, 79, 80, 81, 82, 83, 84, 85, 86, 87, 88, 89, 90, 91, 92, 93, 94, 95] (by decide +kernel) (by decide +kernel)
set_option maxRecDepth 20000 in
theorem gX3_below_X3_copy : GoodIn wsX3_below (wsV RX3 101 RX3 yX3_copy wsX3_copy) := goodIn_app (goodIn_of _ (by decide +kernel)) ggX3_below_X3_copy
set_option maxRecDepth 20000 in
theorem ggX3_below_X3_hang : GoodIn wsX3_below wsX3_hang := goodIn_r _ [55, 25, 24, 56, 6, 37, 72, 73, 74, 75, 76, 77, 78, 79, 80, 81, 82, 83, 84, 85, 86, 87, 88, 89, 90, 91, 92, 93, 94, 95] (by decide +kernel) (by decide +kernel)
set_option maxRecDepth 20000 in
theorem gX3_below_X3_hang : GoodIn wsX3_below (wsV RX3 105 RX3 yX3_hang wsX3_hang) := goodIn_app (goodIn_of _ (by decide +kernel)) ggX3_below_X3_hang
set_option maxRecDepth 20000 in
theorem ggX3_below_X3_holeAt : GoodIn wsX3_below wsX3_holeAt := goodIn_r _ [60, 25, 56, 72, 73, 74, 75, 76, 77, 78, 79, 80, 81, 82, 83, 84, 85, 86, 87, 88, 89, 90, 91, 92, 93, 94, 95] (by decide +kernel) (by decide +kernel)
set_option maxRecDepth 20000 in
theorem gX3_below_X3_holeAt : GoodIn wsX3_below (wsV RX3 109 RX3 yX3_holeAt wsX3_holeAt) := goodIn_app (goodIn_of _ (by decide +kernel)) ggX3_below_X3_holeAt
set_option maxRecDepth 20000 in
theorem ggX3_below_X3_settle : GoodIn wsX3_below wsX3_settle := goodIn_r _ [64, 22, 13, 2, 24, 65, 66, 67, 10, 68, 69, 70, 71, 26, 27, 28, 29, 30, 12, 31, 32, 33, 34, 35, 36, 37, 6, 72, 73, 74, 75, 76, 77, 78, 79, 80, 81, 82, 83, 84, 85, 86, 87, 88, 89, 90, 91, 92, 93, 94, 95] (by decide +kernel) (by decide +kernel)
set_option maxRecDepth 20000 in
theorem gX3_below_X3_settle : GoodIn wsX3_below (wsV RX3 142 RX3 yX3_settle wsX3_settle) := goodIn_app (goodIn_of _ (by decide +kernel)) ggX3_below_X3_settle
theorem dX3_below_0 : decode cX3_below 0 = .ok (.aload_n 0, 1) := by decide +kernel
theorem dX3_below_1 : decode cX3_below 1 = .ok (.iconst 0, 1) := by decide +kernel
theorem dX3_below_2 : decode cX3_below 2 = .ok (.putfield 54, 3) := by decide +kernel
theorem dX3_below_5 : decode cX3_below 5 = .ok (.aload_n 0, 1) := by decide +kernel
theorem dX3_below_6 : decode cX3_below 6 = .ok (.iload_n 1, 1) := by decide +kernel
theorem dX3_below_7 : decode cX3_below 7 = .ok (.invokevirtual 118, 3) := by decide +kernel
theorem dX3_below_10 : decode cX3_below 10 = .ok (.ifCond .ne 5, 3) := by decide +kernel
theorem dX3_below_13 : decode cX3_below 13 = .ok (.iconst (-1), 1) := by decide +kernel
theorem dX3_below_14 : decode cX3_below 14 = .ok (.ireturn, 1) := by decide +kernel
theorem dX3_below_15 : decode cX3_below 15 = .ok (.aload_n 0, 1) := by decide +kernel
theorem dX3_below_16 : decode cX3_below 16 = .ok (.invokevirtual 121, 3) := by decide +kernel
theorem dX3_below_19 : decode cX3_below 19 = .ok (.istore_n 3, 1) := by decide +kernel
theorem dX3_below_20 : decode cX3_below 20 = .ok (.iload_n 3, 1) := by decide +kernel
theorem dX3_below_21 : decode cX3_below 21 = .ok (.ifCond .ge 6, 3) := by decide +kernel
theorem dX3_below_24 : decode cX3_below 24 = .ok (.bipush (-2), 2) := by decide +kernel
theorem dX3_below_26 : decode cX3_below 26 = .ok (.ireturn, 1) := by decide +kernel
theorem dX3_below_27 : decode cX3_below 27 = .ok (.aload_n 0, 1) := by decide +kernel
theorem dX3_below_28 : decode cX3_below 28 = .ok (.invokevirtual 124, 3) := by decide +kernel
theorem dX3_below_31 : decode cX3_below 31 = .ok (.aload_n 0, 1) := by decide +kernel
theorem dX3_below_32 : decode cX3_below 32 = .ok (.aload_n 0, 1) := by decide +kernel
theorem dX3_below_33 : decode cX3_below 33 = .ok (.getfield 38, 3) := by decide +kernel
theorem dX3_below_36 : decode cX3_below 36 = .ok (.iload_n 1, 1) := by decide +kernel
theorem dX3_below_37 : decode cX3_below 37 = .ok (.iaload, 1) := by decide +kernel
theorem dX3_below_38 : decode cX3_below 38 = .ok (.iload_n 2, 1) := by decide +kernel
theorem dX3_below_39 : decode cX3_below 39 = .ok (.iconst 0, 1) := by decide +kernel
theorem dX3_below_40 : decode cX3_below 40 = .ok (.invokevirtual 131, 3) := by decide +kernel
theorem dX3_below_43 : decode cX3_below 43 = .ok (.iconst 0, 1) := by decide +kernel
theorem dX3_below_44 : decode cX3_below 44 = .ok (.istore 4, 2) := by decide +kernel
theorem dX3_below_46 : decode cX3_below 46 = .ok (.iload 4, 2) := by decide +kernel
theorem dX3_below_48 : decode cX3_below 48 = .ok (.aload_n 0, 1) := by decide +kernel
theorem dX3_below_49 : decode cX3_below 49 = .ok (.getfield 88, 3) := by decide +kernel
theorem dX3_below_52 : decode cX3_below 52 = .ok (.if_icmp .ge 59, 3) := by decide +kernel
theorem dX3_below_55 : decode cX3_below 55 = .ok (.aload_n 0, 1) := by decide +kernel
theorem dX3_below_56 : decode cX3_below 56 = .ok (.getfield 7, 3) := by decide +kernel
theorem dX3_below_59 : decode cX3_below 59 = .ok (.aload_n 0, 1) := by decide +kernel
theorem dX3_below_60 : decode cX3_below 60 = .ok (.getfield 41, 3) := by decide +kernel
theorem dX3_below_63 : decode cX3_below 63 = .ok (.iload 4, 2) := by decide +kernel
theorem dX3_below_65 : decode cX3_below 65 = .ok (.iaload, 1) := by decide +kernel
theorem dX3_below_66 : decode cX3_below 66 = .ok (.iaload, 1) := by decide +kernel
theorem dX3_below_67 : decode cX3_below 67 = .ok (.iload_n 2, 1) := by decide +kernel
theorem dX3_below_68 : decode cX3_below 68 = .ok (.if_icmp .ge 37, 3) := by decide +kernel
theorem dX3_below_71 : decode cX3_below 71 = .ok (.aload_n 0, 1) := by decide +kernel
theorem dX3_below_72 : decode cX3_below 72 = .ok (.aload_n 0, 1) := by decide +kernel
theorem dX3_below_73 : decode cX3_below 73 = .ok (.getfield 41, 3) := by decide +kernel
theorem dX3_below_76 : decode cX3_below 76 = .ok (.iload 4, 2) := by decide +kernel
theorem dX3_below_78 : decode cX3_below 78 = .ok (.iaload, 1) := by decide +kernel
theorem dX3_below_79 : decode cX3_below 79 = .ok (.invokevirtual 101, 3) := by decide +kernel
theorem dX3_below_82 : decode cX3_below 82 = .ok (.istore 5, 2) := by decide +kernel
theorem dX3_below_84 : decode cX3_below 84 = .ok (.aload_n 0, 1) := by decide +kernel
theorem dX3_below_85 : decode cX3_below 85 = .ok (.getfield 22, 3) := by decide +kernel
theorem dX3_below_88 : decode cX3_below 88 = .ok (.iload 5, 2) := by decide +kernel
theorem dX3_below_90 : decode cX3_below 90 = .ok (.iconst (-1), 1) := by decide +kernel
theorem dX3_below_91 : decode cX3_below 91 = .ok (.iastore, 1) := by decide +kernel
theorem dX3_below_92 : decode cX3_below 92 = .ok (.aload_n 0, 1) := by decide +kernel
theorem dX3_below_93 : decode cX3_below 93 = .ok (.iload 5, 2) := by decide +kernel
theorem dX3_below_95 : decode cX3_below 95 = .ok (.invokevirtual 105, 3) := by decide +kernel
theorem dX3_below_98 : decode cX3_below 98 = .ok (.aload_n 0, 1) := by decide +kernel
theorem dX3_below_99 : decode cX3_below 99 = .ok (.iload 5, 2) := by decide +kernel
theorem dX3_below_101 : decode cX3_below 101 = .ok (.iconst 1, 1) := by decide +kernel
theorem dX3_below_102 : decode cX3_below 102 = .ok (.invokevirtual 109, 3) := by decide +kernel
theorem dX3_below_105 : decode cX3_below 105 = .ok (.iinc 4 1, 3) := by decide +kernel
theorem dX3_below_108 : decode cX3_below 108 = .ok (.goto (-62), 3) := by decide +kernel
theorem dX3_below_111 : decode cX3_below 111 = .ok (.aload_n 0, 1) := by decide +kernel
theorem dX3_below_112 : decode cX3_below 112 = .ok (.iload_n 3, 1) := by decide +kernel
theorem dX3_below_113 : decode cX3_below 113 = .ok (.invokevirtual 142, 3) := by decide +kernel
theorem dX3_below_116 : decode cX3_below 116 = .ok (.ireturn, 1) := by decide +kernel
theorem dX3_least_0 : decode cX3_least 0 = .ok (.iload_n 1, 1) := by decide +kernel
theorem dX3_least_1 : decode cX3_least 1 = .ok (.istore_n 2, 1) := by decide +kernel
theorem dX3_least_2 : decode cX3_least 2 = .ok (.aload_n 0, 1) := by decide +kernel
theorem dX3_least_3 : decode cX3_least 3 = .ok (.getfield 19, 3) := by decide +kernel
theorem dX3_least_6 : decode cX3_least 6 = .ok (.iload_n 2, 1) := by decide +kernel
theorem dX3_least_7 : decode cX3_least 7 = .ok (.iaload, 1) := by decide +kernel
theorem dX3_least_8 : decode cX3_least 8 = .ok (.ifCond .lt 13, 3) := by decide +kernel
theorem dX3_least_11 : decode cX3_least 11 = .ok (.aload_n 0, 1) := by decide +kernel
theorem dX3_least_12 : decode cX3_least 12 = .ok (.getfield 19, 3) := by decide +kernel
theorem dX3_least_15 : decode cX3_least 15 = .ok (.iload_n 2, 1) := by decide +kernel
theorem dX3_least_16 : decode cX3_least 16 = .ok (.iaload, 1) := by decide +kernel
theorem dX3_least_17 : decode cX3_least 17 = .ok (.istore_n 2, 1) := by decide +kernel
theorem dX3_least_18 : decode cX3_least 18 = .ok (.goto (-16), 3) := by decide +kernel
theorem dX3_least_21 : decode cX3_least 21 = .ok (.aload_n 0, 1) := by decide +kernel
theorem dX3_least_22 : decode cX3_least 22 = .ok (.getfield 7, 3) := by decide +kernel
theorem dX3_least_25 : decode cX3_least 25 = .ok (.iload_n 2, 1) := by decide +kernel
theorem dX3_least_26 : decode cX3_least 26 = .ok (.iaload, 1) := by decide +kernel
theorem dX3_least_27 : decode cX3_least 27 = .ok (.ireturn, 1) := by decide +kernel
theorem dX3_greatest_0 : decode cX3_greatest 0 = .ok (.iload_n 1, 1) := by decide +kernel
theorem dX3_greatest_1 : decode cX3_greatest 1 = .ok (.istore_n 2, 1) := by decide +kernel
theorem dX3_greatest_2 : decode cX3_greatest 2 = .ok (.aload_n 0, 1) := by decide +kernel
theorem dX3_greatest_3 : decode cX3_greatest 3 = .ok (.getfield 22, 3) := by decide +kernel
theorem dX3_greatest_6 : decode cX3_greatest 6 = .ok (.iload_n 2, 1) := by decide +kernel
theorem dX3_greatest_7 : decode cX3_greatest 7 = .ok (.iaload, 1) := by decide +kernel
theorem dX3_greatest_8 : decode cX3_greatest 8 = .ok (.ifCond .lt 13, 3) := by decide +kernel
theorem dX3_greatest_11 : decode cX3_greatest 11 = .ok (.aload_n 0, 1) := by decide +kernel
theorem dX3_greatest_12 : decode cX3_greatest 12 = .ok (.getfield 22, 3) := by decide +kernel
theorem dX3_greatest_15 : decode cX3_greatest 15 = .ok (.iload_n 2, 1) := by decide +kernel
theorem dX3_greatest_16 : decode cX3_greatest 16 = .ok (.iaload, 1) := by decide +kernel
theorem dX3_greatest_17 : decode cX3_greatest 17 = .ok (.istore_n 2, 1) := by decide +kernel
theorem dX3_greatest_18 : decode cX3_greatest 18 = .ok (.goto (-16), 3) := by decide +kernel
theorem dX3_greatest_21 : decode cX3_greatest 21 = .ok (.aload_n 0, 1) := by decide +kernel
theorem dX3_greatest_22 : decode cX3_greatest 22 = .ok (.getfield 7, 3) := by decide +kernel
theorem dX3_greatest_25 : decode cX3_greatest 25 = .ok (.iload_n 2, 1) := by decide +kernel
theorem dX3_greatest_26 : decode cX3_greatest 26 = .ok (.iaload, 1) := by decide +kernel
theorem dX3_greatest_27 : decode cX3_greatest 27 = .ok (.ireturn, 1) := by decide +kernel
set_option maxRecDepth 20000 in
theorem ggX3_join_X3_has : GoodIn wsX3_join wsX3_has := goodIn_r _ [7, 8, 9, 82, 83, 84, 85, 86, 87, 88, 89, 90, 91, 92, 93, 94, 95, 96, 97, 98, 99, 100, 101, 102, 103, 104, 105] (by decide +kernel) (by decide +kernel)
set_option maxRecDepth 20000 in
theorem gX3_join_X3_has : GoodIn wsX3_join (wsV RX3 118 RX3 yX3_has wsX3_has) := goodIn_app (goodIn_of _ (by decide +kernel)) ggX3_join_X3_has
set_option maxRecDepth 20000 in
theorem ggX3_join_X3_greatest : GoodIn wsX3_join wsX3_greatest := goodIn_r _ [13, 14, 15, 82, 83, 84, 85, 86, 87, 88, 89, 90, 91, 92, 93, 94, 95, 96, 97, 98, 99, 100, 101, 102, 103, 104, 105] (by decide +kernel) (by decide +kernel)
set_option maxRecDepth 20000 in
theorem gX3_join_X3_greatest : GoodIn wsX3_join (wsV RX3 148 RX3 yX3_greatest wsX3_greatest) := goodIn_app (goodIn_of _ (by decide +kernel)) ggX3_join_X3_greatest
set_option maxRecDepth 20000 in
theorem ggX3_join_X3_least : GoodIn wsX3_join wsX3_least := goodIn_r _ [19, 20, 15, 82, 83, 84, 85, 86, 87, 88, 89, 90, 91, 92, 93, 94, 95, 96, 97, 98, 99, 100, 101, 102, 103, 104, 105] (by decide +kernel) (by decide +kernel)
set_option maxRecDepth 20000 in
theorem gX3_join_X3_least : GoodIn wsX3_join (wsV RX3 151 RX3 yX3_least wsX3_least) := goodIn_app (goodIn_of _ (by decide +kernel)) ggX3_join_X3_least
set_option maxRecDepth 20000 in
theorem ggX3_join_X3_freeHandle : GoodIn wsX3_join wsX3_freeHandle := goodIn_r _ [24, 8, 9, 82, 83, 84, 85, 86, 87, 88, 89, 90, 91, 92, 93, 94, 95, 96, 97, 98, 99, 100, 101, 102, 103, 104, 105] (by decide +kernel) (by decide +kernel)
set_option maxRecDepth 20000 in
theorem gX3_join_X3_freeHandle : GoodIn wsX3_join (wsV RX3 121 RX3 yX3_freeHandle wsX3_freeHandle) := goodIn_app (goodIn_of _ (by decide +kernel)) ggX3_join_X3_freeHandle
set_option maxRecDepth 20000 in
theorem ggX3_join_X3_begin : GoodIn wsX3_join wsX3_begin := goodIn_r _ [28, 29, 30, 31, 32, 33, 34, 35, 6, 36, 37, 8, 9, 2, 38, 39, 40, 41, 42, 43, 20, 14, 82, 83, 84, 85, 86, 87, 88, 89, 90, 91, 92, 93, 94, 95, 96, 97, 98, 99, 100, 101, 102, 103, 104, 105] (by decide +kernel) (by decide +kernel)
set_option maxRecDepth 20000 in
theorem gX3_join_X3_begin : GoodIn wsX3_join (wsV RX3 124 RX3 yX3_begin wsX3_begin) := goodIn_app (goodIn_of _ (by decide +kernel)) ggX3_join_X3_begin
set_option maxRecDepth 20000 in
theorem ggX3_join_X3_joint : GoodIn wsX3_join wsX3_joint := goodIn_r _ [47, 14, 20, 48, 49, 50, 6, 51, 52, 15, 53, 54, 55, 56, 57, 58, 59, 60, 61, 37, 30, 29, 62, 63, 64, 65, 32, 31, 66, 67, 68, 69, 70, 82, 83, 84, 85, 86, 87, 88, 89, 90, 91, 92, 93, 94, 95, 96, 97, 98, 99, 100, 101, 102, 103, 104, 105] (by decide +kernel) (by decide +kernel)
set_option maxRecDepth 20000 in
theorem gX3_join_X3_joint : GoodIn wsX3_join (wsV RX3 145 RX3 yX3_joint wsX3_joint) := goodIn_app (goodIn_of _ (by decide +kernel)) ggX3_join_X3_joint
set_option maxRecDepth 20000 in
theorem ggX3_join_X3_settle : GoodIn wsX3_join wsX3_settle := goodIn_r _ [74, 29, 9, 2, 31, 75, 76, 77, 6, 78, 79, 80, 81, 33, 34, 35, 36, 37, 8, 38, 39, 40, 41, 42, 43, 20, 14, 82, 83, 84, 85, 86, 87, 88, 89, 90, 91, 92, 93, 94, 95, 96, 97, 98, 99, 100, 101, 102, 103, 104, 105] (by decide +kernel) (by decide +kernel)
set_option maxRecDepth 20000 in
theorem gX3_join_X3_settle : GoodIn wsX3_join (wsV RX3 142 RX3 yX3_settle wsX3_settle) := goodIn_app (goodIn_of _ (by decide +kernel)) ggX3_join_X3_settle
theorem dX3_join_0 : decode cX3_join 0 = .ok (.aload_n 0, 1) := by decide +kernel
theorem dX3_join_1 : decode cX3_join 1 = .ok (.iconst 0, 1) := by decide +kernel
theorem dX3_join_2 : decode cX3_join 2 = .ok (.putfield 54, 3) := by decide +kernel
theorem dX3_join_5 : decode cX3_join 5 = .ok (.aload_n 0, 1) := by decide +kernel
theorem dX3_join_6 : decode cX3_join 6 = .ok (.iload_n 1, 1) := by decide +kernel
theorem dX3_join_7 : decode cX3_join 7 = .ok (.invokevirtual 118, 3) := by decide +kernel
theorem dX3_join_10 : decode cX3_join 10 = .ok (.ifCond .eq 11, 3) := by decide +kernel
theorem dX3_join_13 : decode cX3_join 13 = .ok (.aload_n 0, 1) := by decide +kernel
theorem dX3_join_14 : decode cX3_join 14 = .ok (.iload_n 2, 1) := by decide +kernel
theorem dX3_join_15 : decode cX3_join 15 = .ok (.invokevirtual 118, 3) := by decide +kernel
theorem dX3_join_18 : decode cX3_join 18 = .ok (.ifCond .ne 5, 3) := by decide +kernel
theorem dX3_join_21 : decode cX3_join 21 = .ok (.iconst (-1), 1) := by decide +kernel
theorem dX3_join_22 : decode cX3_join 22 = .ok (.ireturn, 1) := by decide +kernel
theorem dX3_join_23 : decode cX3_join 23 = .ok (.aload_n 0, 1) := by decide +kernel
theorem dX3_join_24 : decode cX3_join 24 = .ok (.getfield 38, 3) := by decide +kernel
theorem dX3_join_27 : decode cX3_join 27 = .ok (.iload_n 1, 1) := by decide +kernel
theorem dX3_join_28 : decode cX3_join 28 = .ok (.iaload, 1) := by decide +kernel
theorem dX3_join_29 : decode cX3_join 29 = .ok (.ifCond .lt 38, 3) := by decide +kernel
theorem dX3_join_32 : decode cX3_join 32 = .ok (.aload_n 0, 1) := by decide +kernel
theorem dX3_join_33 : decode cX3_join 33 = .ok (.getfield 38, 3) := by decide +kernel
theorem dX3_join_36 : decode cX3_join 36 = .ok (.iload_n 2, 1) := by decide +kernel
theorem dX3_join_37 : decode cX3_join 37 = .ok (.iaload, 1) := by decide +kernel
theorem dX3_join_38 : decode cX3_join 38 = .ok (.ifCond .lt 29, 3) := by decide +kernel
theorem dX3_join_41 : decode cX3_join 41 = .ok (.aload_n 0, 1) := by decide +kernel
theorem dX3_join_42 : decode cX3_join 42 = .ok (.aload_n 0, 1) := by decide +kernel
theorem dX3_join_43 : decode cX3_join 43 = .ok (.getfield 38, 3) := by decide +kernel
theorem dX3_join_46 : decode cX3_join 46 = .ok (.iload_n 1, 1) := by decide +kernel
theorem dX3_join_47 : decode cX3_join 47 = .ok (.iaload, 1) := by decide +kernel
theorem dX3_join_48 : decode cX3_join 48 = .ok (.invokevirtual 148, 3) := by decide +kernel
theorem dX3_join_51 : decode cX3_join 51 = .ok (.aload_n 0, 1) := by decide +kernel
theorem dX3_join_52 : decode cX3_join 52 = .ok (.aload_n 0, 1) := by decide +kernel
theorem dX3_join_53 : decode cX3_join 53 = .ok (.getfield 38, 3) := by decide +kernel
theorem dX3_join_56 : decode cX3_join 56 = .ok (.iload_n 2, 1) := by decide +kernel
theorem dX3_join_57 : decode cX3_join 57 = .ok (.iaload, 1) := by decide +kernel
theorem dX3_join_58 : decode cX3_join 58 = .ok (.invokevirtual 151, 3) := by decide +kernel
theorem dX3_join_61 : decode cX3_join 61 = .ok (.if_icmp .lt 6, 3) := by decide +kernel
theorem dX3_join_64 : decode cX3_join 64 = .ok (.bipush (-4), 2) := by decide +kernel
theorem dX3_join_66 : decode cX3_join 66 = .ok (.ireturn, 1) := by decide +kernel
theorem dX3_join_67 : decode cX3_join 67 = .ok (.aload_n 0, 1) := by decide +kernel
theorem dX3_join_68 : decode cX3_join 68 = .ok (.invokevirtual 121, 3) := by decide +kernel
theorem dX3_join_71 : decode cX3_join 71 = .ok (.istore_n 3, 1) := by decide +kernel
theorem dX3_join_72 : decode cX3_join 72 = .ok (.iload_n 3, 1) := by decide +kernel
theorem dX3_join_73 : decode cX3_join 73 = .ok (.ifCond .ge 6, 3) := by decide +kernel
theorem dX3_join_76 : decode cX3_join 76 = .ok (.bipush (-2), 2) := by decide +kernel
theorem dX3_join_78 : decode cX3_join 78 = .ok (.ireturn, 1) := by decide +kernel
theorem dX3_join_79 : decode cX3_join 79 = .ok (.aload_n 0, 1) := by decide +kernel
theorem dX3_join_80 : decode cX3_join 80 = .ok (.invokevirtual 124, 3) := by decide +kernel
theorem dX3_join_83 : decode cX3_join 83 = .ok (.aload_n 0, 1) := by decide +kernel
theorem dX3_join_84 : decode cX3_join 84 = .ok (.aload_n 0, 1) := by decide +kernel
theorem dX3_join_85 : decode cX3_join 85 = .ok (.getfield 38, 3) := by decide +kernel
theorem dX3_join_88 : decode cX3_join 88 = .ok (.iload_n 1, 1) := by decide +kernel
theorem dX3_join_89 : decode cX3_join 89 = .ok (.iaload, 1) := by decide +kernel
theorem dX3_join_90 : decode cX3_join 90 = .ok (.aload_n 0, 1) := by decide +kernel
theorem dX3_join_91 : decode cX3_join 91 = .ok (.getfield 38, 3) := by decide +kernel
theorem dX3_join_94 : decode cX3_join 94 = .ok (.iload_n 2, 1) := by decide +kernel
theorem dX3_join_95 : decode cX3_join 95 = .ok (.iaload, 1) := by decide +kernel
theorem dX3_join_96 : decode cX3_join 96 = .ok (.invokevirtual 145, 3) := by decide +kernel
theorem dX3_join_99 : decode cX3_join 99 = .ok (.aload_n 0, 1) := by decide +kernel
theorem dX3_join_100 : decode cX3_join 100 = .ok (.iload_n 3, 1) := by decide +kernel
theorem dX3_join_101 : decode cX3_join 101 = .ok (.invokevirtual 142, 3) := by decide +kernel
theorem dX3_join_104 : decode cX3_join 104 = .ok (.ireturn, 1) := by decide +kernel
set_option maxRecDepth 20000 in
theorem ggX3_drop_X3_has : GoodIn wsX3_drop wsX3_has := goodIn_r _ [8, 9, 2, 10, 11, 12, 13, 14, 15, 16, 17, 18, 19, 20, 21, 22, 23, 24, 25, 26, 27, 28, 29, 30, 31, 32, 33] (by decide +kernel) (by decide +kernel)
set_option maxRecDepth 20000 in
theorem gX3_drop_X3_has : GoodIn wsX3_drop (wsV RX3 118 RX3 yX3_has wsX3_has) := goodIn_app (goodIn_of _ (by decide +kernel)) ggX3_drop_X3_has
theorem dX3_drop_0 : decode cX3_drop 0 = .ok (.aload_n 0, 1) := by decide +kernel
theorem dX3_drop_1 : decode cX3_drop 1 = .ok (.iconst 0, 1) := by decide +kernel
theorem dX3_drop_2 : decode cX3_drop 2 = .ok (.putfield 54, 3) := by decide +kernel
theorem dX3_drop_5 : decode cX3_drop 5 = .ok (.aload_n 0, 1) := by decide +kernel
theorem dX3_drop_6 : decode cX3_drop 6 = .ok (.iload_n 1, 1) := by decide +kernel
theorem dX3_drop_7 : decode cX3_drop 7 = .ok (.invokevirtual 118, 3) := by decide +kernel
theorem dX3_drop_10 : decode cX3_drop 10 = .ok (.ifCond .ne 5, 3) := by decide +kernel
theorem dX3_drop_13 : decode cX3_drop 13 = .ok (.iconst 0, 1) := by decide +kernel
theorem dX3_drop_14 : decode cX3_drop 14 = .ok (.ireturn, 1) := by decide +kernel
theorem dX3_drop_15 : decode cX3_drop 15 = .ok (.aload_n 0, 1) := by decide +kernel
theorem dX3_drop_16 : decode cX3_drop 16 = .ok (.getfield 35, 3) := by decide +kernel
theorem dX3_drop_19 : decode cX3_drop 19 = .ok (.iload_n 1, 1) := by decide +kernel
theorem dX3_drop_20 : decode cX3_drop 20 = .ok (.iconst 0, 1) := by decide +kernel
theorem dX3_drop_21 : decode cX3_drop 21 = .ok (.bastore, 1) := by decide +kernel
theorem dX3_drop_22 : decode cX3_drop 22 = .ok (.aload_n 0, 1) := by decide +kernel
theorem dX3_drop_23 : decode cX3_drop 23 = .ok (.getfield 38, 3) := by decide +kernel
theorem dX3_drop_26 : decode cX3_drop 26 = .ok (.iload_n 1, 1) := by decide +kernel
theorem dX3_drop_27 : decode cX3_drop 27 = .ok (.iconst (-1), 1) := by decide +kernel
theorem dX3_drop_28 : decode cX3_drop 28 = .ok (.iastore, 1) := by decide +kernel
theorem dX3_drop_29 : decode cX3_drop 29 = .ok (.iconst 1, 1) := by decide +kernel
theorem dX3_drop_30 : decode cX3_drop 30 = .ok (.ireturn, 1) := by decide +kernel
set_option maxRecDepth 20000 in
theorem ggX3_isLive_X3_has : GoodIn wsX3_isLive wsX3_has := goodIn_r _ [6, 7, 8, 9, 10, 11, 12, 13, 14, 15, 16, 17, 18, 19, 20, 21, 22, 23, 24, 25, 26, 27, 28, 29, 30, 31, 32] (by decide +kernel) (by decide +kernel)
set_option maxRecDepth 20000 in
theorem gX3_isLive_X3_has : GoodIn wsX3_isLive (wsV RX3 118 RX3 yX3_has wsX3_has) := goodIn_app (goodIn_of _ (by decide +kernel)) ggX3_isLive_X3_has
theorem dX3_isLive_0 : decode cX3_isLive 0 = .ok (.aload_n 0, 1) := by decide +kernel
theorem dX3_isLive_1 : decode cX3_isLive 1 = .ok (.iconst 0, 1) := by decide +kernel
theorem dX3_isLive_2 : decode cX3_isLive 2 = .ok (.putfield 54, 3) := by decide +kernel
theorem dX3_isLive_5 : decode cX3_isLive 5 = .ok (.aload_n 0, 1) := by decide +kernel
theorem dX3_isLive_6 : decode cX3_isLive 6 = .ok (.iload_n 1, 1) := by decide +kernel
theorem dX3_isLive_7 : decode cX3_isLive 7 = .ok (.invokevirtual 118, 3) := by decide +kernel
theorem dX3_isLive_10 : decode cX3_isLive 10 = .ok (.ireturn, 1) := by decide +kernel
set_option maxRecDepth 20000 in
theorem ggX3_get_X3_has : GoodIn wsX3_get wsX3_has := goodIn_r _ [8, 9, 10, 18, 19, 20, 21, 22, 23, 24, 25, 26, 27, 28, 29, 30, 31, 32, 33, 34, 35, 36, 37, 38, 39, 40, 41] (by decide +kernel) (by decide +kernel)
set_option maxRecDepth 20000 in
theorem gX3_get_X3_has : GoodIn wsX3_get (wsV RX3 118 RX3 yX3_has wsX3_has) := goodIn_app (goodIn_of _ (by decide +kernel)) ggX3_get_X3_has
set_option maxRecDepth 20000 in
theorem ggX3_get_X3_find : GoodIn wsX3_get wsX3_find := goodIn_r _ [14, 15, 16, 17, 18, 19, 20, 21, 22, 23, 24, 25, 26, 27, 28, 29, 30, 31, 32, 33, 34, 35, 36, 37, 38, 39, 40, 41] (by decide +kernel) (by decide +kernel)
set_option maxRecDepth 20000 in
theorem gX3_get_X3_find : GoodIn wsX3_get (wsV RX3 127 RX3 yX3_find wsX3_find) := goodIn_app (goodIn_of _ (by decide +kernel)) ggX3_get_X3_find
theorem dX3_get_0 : decode cX3_get 0 = .ok (.aload_n 0, 1) := by decide +kernel
theorem dX3_get_1 : decode cX3_get 1 = .ok (.iload_n 1, 1) := by decide +kernel
theorem dX3_get_2 : decode cX3_get 2 = .ok (.invokevirtual 118, 3) := by decide +kernel
theorem dX3_get_5 : decode cX3_get 5 = .ok (.ifCond .eq 17, 3) := by decide +kernel
theorem dX3_get_8 : decode cX3_get 8 = .ok (.aload_n 0, 1) := by decide +kernel
theorem dX3_get_9 : decode cX3_get 9 = .ok (.aload_n 0, 1) := by decide +kernel
theorem dX3_get_10 : decode cX3_get 10 = .ok (.getfield 38, 3) := by decide +kernel
theorem dX3_get_13 : decode cX3_get 13 = .ok (.iload_n 1, 1) := by decide +kernel
theorem dX3_get_14 : decode cX3_get 14 = .ok (.iaload, 1) := by decide +kernel
theorem dX3_get_15 : decode cX3_get 15 = .ok (.iload_n 2, 1) := by decide +kernel
theorem dX3_get_16 : decode cX3_get 16 = .ok (.invokevirtual 127, 3) := by decide +kernel
theorem dX3_get_19 : decode cX3_get 19 = .ok (.goto 4, 3) := by decide +kernel
theorem dX3_get_22 : decode cX3_get 22 = .ok (.iconst (-1), 1) := by decide +kernel
theorem dX3_get_23 : decode cX3_get 23 = .ok (.istore_n 3, 1) := by decide +kernel
theorem dX3_get_24 : decode cX3_get 24 = .ok (.aload_n 0, 1) := by decide +kernel
theorem dX3_get_25 : decode cX3_get 25 = .ok (.iload_n 3, 1) := by decide +kernel
theorem dX3_get_26 : decode cX3_get 26 = .ok (.ifCond .ge 7, 3) := by decide +kernel
theorem dX3_get_29 : decode cX3_get 29 = .ok (.iconst 1, 1) := by decide +kernel
theorem dX3_get_30 : decode cX3_get 30 = .ok (.goto 4, 3) := by decide +kernel
theorem dX3_get_33 : decode cX3_get 33 = .ok (.iconst 0, 1) := by decide +kernel
theorem dX3_get_34 : decode cX3_get 34 = .ok (.putfield 54, 3) := by decide +kernel
theorem dX3_get_37 : decode cX3_get 37 = .ok (.iload_n 3, 1) := by decide +kernel
theorem dX3_get_38 : decode cX3_get 38 = .ok (.ifCond .ge 7, 3) := by decide +kernel
theorem dX3_get_41 : decode cX3_get 41 = .ok (.iconst 0, 1) := by decide +kernel
theorem dX3_get_42 : decode cX3_get 42 = .ok (.goto 9, 3) := by decide +kernel
theorem dX3_get_45 : decode cX3_get 45 = .ok (.aload_n 0, 1) := by decide +kernel
theorem dX3_get_46 : decode cX3_get 46 = .ok (.getfield 13, 3) := by decide +kernel
theorem dX3_get_49 : decode cX3_get 49 = .ok (.iload_n 3, 1) := by decide +kernel
theorem dX3_get_50 : decode cX3_get 50 = .ok (.iaload, 1) := by decide +kernel
theorem dX3_get_51 : decode cX3_get 51 = .ok (.ireturn, 1) := by decide +kernel
set_option maxRecDepth 20000 in
theorem ggX3_contains_X3_has : GoodIn wsX3_contains wsX3_has := goodIn_r _ [7, 8, 9, 17, 18, 19, 20, 21, 22, 23, 24, 25, 26, 27, 28, 29, 30, 31, 32, 33, 34, 35, 36, 37, 38, 39, 40] (by decide +kernel) (by decide +kernel)
set_option maxRecDepth 20000 in
theorem gX3_contains_X3_has : GoodIn wsX3_contains (wsV RX3 118 RX3 yX3_has wsX3_has) := goodIn_app (goodIn_of _ (by decide +kernel)) ggX3_contains_X3_has
set_option maxRecDepth 20000 in
theorem ggX3_contains_X3_find : GoodIn wsX3_contains wsX3_find := goodIn_r _ [13, 14, 15, 16, 17, 18, 19, 20, 21, 22, 23, 24, 25, 26, 27, 28, 29, 30, 31, 32, 33, 34, 35, 36, 37, 38, 39, 40] (by decide +kernel) (by decide +kernel)
set_option maxRecDepth 20000 in
theorem gX3_contains_X3_find : GoodIn wsX3_contains (wsV RX3 127 RX3 yX3_find wsX3_find) := goodIn_app (goodIn_of _ (by decide +kernel)) ggX3_contains_X3_find
theorem dX3_contains_0 : decode cX3_contains 0 = .ok (.aload_n 0, 1) := by decide +kernel
theorem dX3_contains_1 : decode cX3_contains 1 = .ok (.iconst 0, 1) := by decide +kernel
theorem dX3_contains_2 : decode cX3_contains 2 = .ok (.putfield 54, 3) := by decide +kernel
theorem dX3_contains_5 : decode cX3_contains 5 = .ok (.aload_n 0, 1) := by decide +kernel
theorem dX3_contains_6 : decode cX3_contains 6 = .ok (.iload_n 1, 1) := by decide +kernel
theorem dX3_contains_7 : decode cX3_contains 7 = .ok (.invokevirtual 118, 3) := by decide +kernel
theorem dX3_contains_10 : decode cX3_contains 10 = .ok (.ifCond .eq 21, 3) := by decide +kernel
theorem dX3_contains_13 : decode cX3_contains 13 = .ok (.aload_n 0, 1) := by decide +kernel
theorem dX3_contains_14 : decode cX3_contains 14 = .ok (.aload_n 0, 1) := by decide +kernel
theorem dX3_contains_15 : decode cX3_contains 15 = .ok (.getfield 38, 3) := by decide +kernel
theorem dX3_contains_18 : decode cX3_contains 18 = .ok (.iload_n 1, 1) := by decide +kernel
theorem dX3_contains_19 : decode cX3_contains 19 = .ok (.iaload, 1) := by decide +kernel
theorem dX3_contains_20 : decode cX3_contains 20 = .ok (.iload_n 2, 1) := by decide +kernel
theorem dX3_contains_21 : decode cX3_contains 21 = .ok (.invokevirtual 127, 3) := by decide +kernel
theorem dX3_contains_24 : decode cX3_contains 24 = .ok (.ifCond .lt 7, 3) := by decide +kernel
theorem dX3_contains_27 : decode cX3_contains 27 = .ok (.iconst 1, 1) := by decide +kernel
theorem dX3_contains_28 : decode cX3_contains 28 = .ok (.goto 4, 3) := by decide +kernel
theorem dX3_contains_31 : decode cX3_contains 31 = .ok (.iconst 0, 1) := by decide +kernel
theorem dX3_contains_32 : decode cX3_contains 32 = .ok (.ireturn, 1) := by decide +kernel
theorem dX3_clear_0 : decode cX3_clear 0 = .ok (.iconst 0, 1) := by decide +kernel
theorem dX3_clear_1 : decode cX3_clear 1 = .ok (.istore_n 1, 1) := by decide +kernel
theorem dX3_clear_2 : decode cX3_clear 2 = .ok (.iload_n 1, 1) := by decide +kernel
theorem dX3_clear_3 : decode cX3_clear 3 = .ok (.sipush 160, 3) := by decide +kernel
theorem dX3_clear_6 : decode cX3_clear 6 = .ok (.if_icmp .ge 16, 3) := by decide +kernel
theorem dX3_clear_9 : decode cX3_clear 9 = .ok (.aload_n 0, 1) := by decide +kernel
theorem dX3_clear_10 : decode cX3_clear 10 = .ok (.getfield 29, 3) := by decide +kernel
theorem dX3_clear_13 : decode cX3_clear 13 = .ok (.iload_n 1, 1) := by decide +kernel
theorem dX3_clear_14 : decode cX3_clear 14 = .ok (.iconst 0, 1) := by decide +kernel
theorem dX3_clear_15 : decode cX3_clear 15 = .ok (.bastore, 1) := by decide +kernel
theorem dX3_clear_16 : decode cX3_clear 16 = .ok (.iinc 1 1, 3) := by decide +kernel
theorem dX3_clear_19 : decode cX3_clear 19 = .ok (.goto (-17), 3) := by decide +kernel
theorem dX3_clear_22 : decode cX3_clear 22 = .ok (.return_, 1) := by decide +kernel
set_option maxRecDepth 20000 in
theorem ggX3_size_X3_clear : GoodIn wsX3_size wsX3_clear := goodIn_r _ [8, 3, 23, 24, 25, 26, 27, 28, 29, 30, 31, 32, 33, 34, 35, 36, 37, 38, 39, 40, 41, 42, 43, 44, 45, 46] (by decide +kernel) (by decide +kernel)
set_option maxRecDepth 20000 in
theorem gX3_size_X3_clear : GoodIn wsX3_size (wsV RX3 154 RX3 yX3_clear wsX3_clear) := goodIn_app (goodIn_of _ (by decide +kernel)) ggX3_size_X3_clear
set_option maxRecDepth 20000 in
theorem ggX3_size_X3_has : GoodIn wsX3_size wsX3_has := goodIn_r _ [12, 13, 14, 23, 24, 25, 26, 27, 28, 29, 30, 31, 32, 33, 34, 35, 36, 37, 38, 39, 40, 41, 42, 43, 44, 45, 46] (by decide +kernel) (by decide +kernel)
set_option maxRecDepth 20000 in
theorem gX3_size_X3_has : GoodIn wsX3_size (wsV RX3 118 RX3 yX3_has wsX3_has) := goodIn_app (goodIn_of _ (by decide +kernel)) ggX3_size_X3_has
set_option maxRecDepth 20000 in
theorem ggX3_size_X3_mark : GoodIn wsX3_size wsX3_mark := goodIn_r _ [18, 19, 20, 21, 22, 23, 24, 25, 26, 27, 28, 29, 30, 31, 32, 33, 34, 35, 36, 37, 38, 39, 40, 41, 42, 43, 44, 45, 46] (by decide +kernel) (by decide +kernel)
set_option maxRecDepth 20000 in
theorem gX3_size_X3_mark : GoodIn wsX3_size (wsV RX3 60 RX3 yX3_mark wsX3_mark) := goodIn_app (goodIn_of _ (by decide +kernel)) ggX3_size_X3_mark
theorem dX3_size_0 : decode cX3_size 0 = .ok (.aload_n 0, 1) := by decide +kernel
theorem dX3_size_1 : decode cX3_size 1 = .ok (.iconst 0, 1) := by decide +kernel
theorem dX3_size_2 : decode cX3_size 2 = .ok (.putfield 54, 3) := by decide +kernel
theorem dX3_size_5 : decode cX3_size 5 = .ok (.aload_n 0, 1) := by decide +kernel
theorem dX3_size_6 : decode cX3_size 6 = .ok (.invokevirtual 154, 3) := by decide +kernel
theorem dX3_size_9 : decode cX3_size 9 = .ok (.aload_n 0, 1) := by decide +kernel
theorem dX3_size_10 : decode cX3_size 10 = .ok (.iload_n 1, 1) := by decide +kernel
theorem dX3_size_11 : decode cX3_size 11 = .ok (.invokevirtual 118, 3) := by decide +kernel
theorem dX3_size_14 : decode cX3_size 14 = .ok (.ifCond .eq 20, 3) := by decide +kernel
theorem dX3_size_17 : decode cX3_size 17 = .ok (.aload_n 0, 1) := by decide +kernel
theorem dX3_size_18 : decode cX3_size 18 = .ok (.aload_n 0, 1) := by decide +kernel
theorem dX3_size_19 : decode cX3_size 19 = .ok (.getfield 38, 3) := by decide +kernel
theorem dX3_size_22 : decode cX3_size 22 = .ok (.iload_n 1, 1) := by decide +kernel
theorem dX3_size_23 : decode cX3_size 23 = .ok (.iaload, 1) := by decide +kernel
theorem dX3_size_24 : decode cX3_size 24 = .ok (.aload_n 0, 1) := by decide +kernel
theorem dX3_size_25 : decode cX3_size 25 = .ok (.getfield 29, 3) := by decide +kernel
theorem dX3_size_28 : decode cX3_size 28 = .ok (.invokevirtual 60, 3) := by decide +kernel
theorem dX3_size_31 : decode cX3_size 31 = .ok (.goto 4, 3) := by decide +kernel
theorem dX3_size_34 : decode cX3_size 34 = .ok (.iconst (-1), 1) := by decide +kernel
theorem dX3_size_35 : decode cX3_size 35 = .ok (.ireturn, 1) := by decide +kernel
set_option maxRecDepth 20000 in
theorem ggX3_floor_X3_has : GoodIn wsX3_floor wsX3_has := goodIn_r _ [10, 11, 12, 13, 14, 15, 16, 17, 18, 19, 20, 21, 22, 23, 24, 25, 26, 27, 28, 29, 30, 31, 32, 33, 34, 35, 36] (by decide +kernel) (by decide +kernel)
set_option maxRecDepth 20000 in
theorem gX3_floor_X3_has : GoodIn wsX3_floor (wsV RX3 118 RX3 yX3_has wsX3_has) := goodIn_app (goodIn_of _ (by decide +kernel)) ggX3_floor_X3_has
theorem dX3_floor_0 : decode cX3_floor 0 = .ok (.aload_n 0, 1) := by decide +kernel
theorem dX3_floor_1 : decode cX3_floor 1 = .ok (.iconst 1, 1) := by decide +kernel
theorem dX3_floor_2 : decode cX3_floor 2 = .ok (.putfield 54, 3) := by decide +kernel
theorem dX3_floor_5 : decode cX3_floor 5 = .ok (.iconst 0, 1) := by decide +kernel
theorem dX3_floor_6 : decode cX3_floor 6 = .ok (.istore_n 3, 1) := by decide +kernel
theorem dX3_floor_7 : decode cX3_floor 7 = .ok (.aload_n 0, 1) := by decide +kernel
theorem dX3_floor_8 : decode cX3_floor 8 = .ok (.iload_n 1, 1) := by decide +kernel
theorem dX3_floor_9 : decode cX3_floor 9 = .ok (.invokevirtual 118, 3) := by decide +kernel
theorem dX3_floor_12 : decode cX3_floor 12 = .ok (.ifCond .eq 12, 3) := by decide +kernel
theorem dX3_floor_15 : decode cX3_floor 15 = .ok (.aload_n 0, 1) := by decide +kernel
theorem dX3_floor_16 : decode cX3_floor 16 = .ok (.getfield 38, 3) := by decide +kernel
theorem dX3_floor_19 : decode cX3_floor 19 = .ok (.iload_n 1, 1) := by decide +kernel
theorem dX3_floor_20 : decode cX3_floor 20 = .ok (.iaload, 1) := by decide +kernel
theorem dX3_floor_21 : decode cX3_floor 21 = .ok (.goto 4, 3) := by decide +kernel
theorem dX3_floor_24 : decode cX3_floor 24 = .ok (.iconst (-1), 1) := by decide +kernel
theorem dX3_floor_25 : decode cX3_floor 25 = .ok (.istore 4, 2) := by decide +kernel
theorem dX3_floor_27 : decode cX3_floor 27 = .ok (.iload 4, 2) := by decide +kernel
theorem dX3_floor_29 : decode cX3_floor 29 = .ok (.ifCond .lt 82, 3) := by decide +kernel
theorem dX3_floor_32 : decode cX3_floor 32 = .ok (.aload_n 0, 1) := by decide +kernel
theorem dX3_floor_33 : decode cX3_floor 33 = .ok (.getfield 7, 3) := by decide +kernel
theorem dX3_floor_36 : decode cX3_floor 36 = .ok (.iload 4, 2) := by decide +kernel
theorem dX3_floor_38 : decode cX3_floor 38 = .ok (.iaload, 1) := by decide +kernel
theorem dX3_floor_39 : decode cX3_floor 39 = .ok (.iload_n 2, 1) := by decide +kernel
theorem dX3_floor_40 : decode cX3_floor 40 = .ok (.if_icmp .gt 7, 3) := by decide +kernel
theorem dX3_floor_43 : decode cX3_floor 43 = .ok (.iconst 1, 1) := by decide +kernel
theorem dX3_floor_44 : decode cX3_floor 44 = .ok (.goto 4, 3) := by decide +kernel
theorem dX3_floor_47 : decode cX3_floor 47 = .ok (.iconst 0, 1) := by decide +kernel
theorem dX3_floor_48 : decode cX3_floor 48 = .ok (.istore 5, 2) := by decide +kernel
theorem dX3_floor_50 : decode cX3_floor 50 = .ok (.iload 5, 2) := by decide +kernel
theorem dX3_floor_52 : decode cX3_floor 52 = .ok (.ifCond .eq 13, 3) := by decide +kernel
theorem dX3_floor_55 : decode cX3_floor 55 = .ok (.aload_n 0, 1) := by decide +kernel
theorem dX3_floor_56 : decode cX3_floor 56 = .ok (.getfield 7, 3) := by decide +kernel
theorem dX3_floor_59 : decode cX3_floor 59 = .ok (.iload 4, 2) := by decide +kernel
theorem dX3_floor_61 : decode cX3_floor 61 = .ok (.iaload, 1) := by decide +kernel
theorem dX3_floor_62 : decode cX3_floor 62 = .ok (.goto 4, 3) := by decide +kernel
theorem dX3_floor_65 : decode cX3_floor 65 = .ok (.iload_n 3, 1) := by decide +kernel
theorem dX3_floor_66 : decode cX3_floor 66 = .ok (.istore_n 3, 1) := by decide +kernel
theorem dX3_floor_67 : decode cX3_floor 67 = .ok (.aload_n 0, 1) := by decide +kernel
theorem dX3_floor_68 : decode cX3_floor 68 = .ok (.iload 5, 2) := by decide +kernel
theorem dX3_floor_70 : decode cX3_floor 70 = .ok (.ifCond .eq 7, 3) := by decide +kernel
theorem dX3_floor_73 : decode cX3_floor 73 = .ok (.iconst 0, 1) := by decide +kernel
theorem dX3_floor_74 : decode cX3_floor 74 = .ok (.goto 7, 3) := by decide +kernel
theorem dX3_floor_77 : decode cX3_floor 77 = .ok (.aload_n 0, 1) := by decide +kernel
theorem dX3_floor_78 : decode cX3_floor 78 = .ok (.getfield 54, 3) := by decide +kernel
theorem dX3_floor_81 : decode cX3_floor 81 = .ok (.putfield 54, 3) := by decide +kernel
theorem dX3_floor_84 : decode cX3_floor 84 = .ok (.iload 5, 2) := by decide +kernel
theorem dX3_floor_86 : decode cX3_floor 86 = .ok (.ifCond .eq 13, 3) := by decide +kernel
theorem dX3_floor_89 : decode cX3_floor 89 = .ok (.aload_n 0, 1) := by decide +kernel
theorem dX3_floor_90 : decode cX3_floor 90 = .ok (.getfield 22, 3) := by decide +kernel
theorem dX3_floor_93 : decode cX3_floor 93 = .ok (.iload 4, 2) := by decide +kernel
theorem dX3_floor_95 : decode cX3_floor 95 = .ok (.iaload, 1) := by decide +kernel
theorem dX3_floor_96 : decode cX3_floor 96 = .ok (.goto 10, 3) := by decide +kernel
theorem dX3_floor_99 : decode cX3_floor 99 = .ok (.aload_n 0, 1) := by decide +kernel
theorem dX3_floor_100 : decode cX3_floor 100 = .ok (.getfield 19, 3) := by decide +kernel
theorem dX3_floor_103 : decode cX3_floor 103 = .ok (.iload 4, 2) := by decide +kernel
theorem dX3_floor_105 : decode cX3_floor 105 = .ok (.iaload, 1) := by decide +kernel
theorem dX3_floor_106 : decode cX3_floor 106 = .ok (.istore 4, 2) := by decide +kernel
theorem dX3_floor_108 : decode cX3_floor 108 = .ok (.goto (-81), 3) := by decide +kernel
theorem dX3_floor_111 : decode cX3_floor 111 = .ok (.iload_n 3, 1) := by decide +kernel
theorem dX3_floor_112 : decode cX3_floor 112 = .ok (.ireturn, 1) := by decide +kernel
theorem dX3_rank_0 : decode cX3_rank 0 = .ok (.iconst 0, 1) := by decide +kernel
theorem dX3_rank_1 : decode cX3_rank 1 = .ok (.istore_n 2, 1) := by decide +kernel
theorem dX3_rank_2 : decode cX3_rank 2 = .ok (.iconst 0, 1) := by decide +kernel
theorem dX3_rank_3 : decode cX3_rank 3 = .ok (.istore_n 3, 1) := by decide +kernel
theorem dX3_rank_4 : decode cX3_rank 4 = .ok (.iload_n 3, 1) := by decide +kernel
theorem dX3_rank_5 : decode cX3_rank 5 = .ok (.sipush 160, 3) := by decide +kernel
theorem dX3_rank_8 : decode cX3_rank 8 = .ok (.if_icmp .ge 36, 3) := by decide +kernel
theorem dX3_rank_11 : decode cX3_rank 11 = .ok (.aload_n 0, 1) := by decide +kernel
theorem dX3_rank_12 : decode cX3_rank 12 = .ok (.getfield 29, 3) := by decide +kernel
theorem dX3_rank_15 : decode cX3_rank 15 = .ok (.iload_n 3, 1) := by decide +kernel
theorem dX3_rank_16 : decode cX3_rank 16 = .ok (.baload, 1) := by decide +kernel
theorem dX3_rank_17 : decode cX3_rank 17 = .ok (.ifCond .eq 19, 3) := by decide +kernel
theorem dX3_rank_20 : decode cX3_rank 20 = .ok (.aload_n 0, 1) := by decide +kernel
theorem dX3_rank_21 : decode cX3_rank 21 = .ok (.getfield 7, 3) := by decide +kernel
theorem dX3_rank_24 : decode cX3_rank 24 = .ok (.iload_n 3, 1) := by decide +kernel
theorem dX3_rank_25 : decode cX3_rank 25 = .ok (.iaload, 1) := by decide +kernel
theorem dX3_rank_26 : decode cX3_rank 26 = .ok (.iload_n 1, 1) := by decide +kernel
theorem dX3_rank_27 : decode cX3_rank 27 = .ok (.if_icmp .ge 9, 3) := by decide +kernel
theorem dX3_rank_30 : decode cX3_rank 30 = .ok (.iload_n 2, 1) := by decide +kernel
theorem dX3_rank_31 : decode cX3_rank 31 = .ok (.iconst 1, 1) := by decide +kernel
theorem dX3_rank_32 : decode cX3_rank 32 = .ok (.iadd, 1) := by decide +kernel
theorem dX3_rank_33 : decode cX3_rank 33 = .ok (.goto 4, 3) := by decide +kernel
theorem dX3_rank_36 : decode cX3_rank 36 = .ok (.iload_n 2, 1) := by decide +kernel
theorem dX3_rank_37 : decode cX3_rank 37 = .ok (.istore_n 2, 1) := by decide +kernel
theorem dX3_rank_38 : decode cX3_rank 38 = .ok (.iinc 3 1, 3) := by decide +kernel
theorem dX3_rank_41 : decode cX3_rank 41 = .ok (.goto (-37), 3) := by decide +kernel
theorem dX3_rank_44 : decode cX3_rank 44 = .ok (.iload_n 2, 1) := by decide +kernel
theorem dX3_rank_45 : decode cX3_rank 45 = .ok (.ireturn, 1) := by decide +kernel
set_option maxRecDepth 20000 in
theorem ggX3_keyAt_X3_has : GoodIn wsX3_keyAt wsX3_has := goodIn_r _ [9, 10, 11, 32, 33, 34, 35, 36, 37, 38, 39, 40, 41, 42, 43, 44, 45, 46, 47, 48, 49, 50, 51, 52, 53, 54, 55] (by decide +kernel) (by decide +kernel)
set_option maxRecDepth 20000 in
theorem gX3_keyAt_X3_has : GoodIn wsX3_keyAt (wsV RX3 118 RX3 yX3_has wsX3_has) := goodIn_app (goodIn_of _ (by decide +kernel)) ggX3_keyAt_X3_has
set_option maxRecDepth 20000 in
theorem ggX3_keyAt_X3_fail : GoodIn wsX3_keyAt wsX3_fail := goodIn_r _ [15, 1, 32, 33, 34, 35, 36, 37, 38, 39, 40, 41, 42, 43, 44, 45, 46, 47, 48, 49, 50, 51, 52, 53, 54, 55] (by decide +kernel) (by decide +kernel)
set_option maxRecDepth 20000 in
theorem gX3_keyAt_X3_fail : GoodIn wsX3_keyAt (wsV RX3 157 RX3 yX3_fail wsX3_fail) := goodIn_app (goodIn_of _ (by decide +kernel)) ggX3_keyAt_X3_fail
set_option maxRecDepth 20000 in
theorem ggX3_keyAt_X3_clear : GoodIn wsX3_keyAt wsX3_clear := goodIn_r _ [19, 3, 32, 33, 34, 35, 36, 37, 38, 39, 40, 41, 42, 43, 44, 45, 46, 47, 48, 49, 50, 51, 52, 53, 54, 55] (by decide +kernel) (by decide +kernel)
set_option maxRecDepth 20000 in
theorem gX3_keyAt_X3_clear : GoodIn wsX3_keyAt (wsV RX3 154 RX3 yX3_clear wsX3_clear) := goodIn_app (goodIn_of _ (by decide +kernel)) ggX3_keyAt_X3_clear
set_option maxRecDepth 20000 in
theorem ggX3_keyAt_X3_mark : GoodIn wsX3_keyAt wsX3_mark := goodIn_r _ [23, 24, 25, 26, 27, 32, 33, 34, 35, 36, 37, 38, 39, 40, 41, 42, 43, 44, 45, 46, 47, 48, 49, 50, 51, 52, 53, 54, 55] (by decide +kernel) (by decide +kernel)
set_option maxRecDepth 20000 in
theorem gX3_keyAt_X3_mark : GoodIn wsX3_keyAt (wsV RX3 60 RX3 yX3_mark wsX3_mark) := goodIn_app (goodIn_of _ (by decide +kernel)) ggX3_keyAt_X3_mark
set_option maxRecDepth 20000 in
theorem ggX3_keyAt_X3_rank : GoodIn wsX3_keyAt wsX3_rank := goodIn_r _ [31, 3, 4, 32, 33, 34, 35, 36, 37, 38, 39, 40, 41, 42, 43, 44, 45, 46, 47, 48, 49, 50, 51, 52, 53, 54, 55] (by decide +kernel) (by decide +kernel)
set_option maxRecDepth 20000 in
theorem gX3_keyAt_X3_rank : GoodIn wsX3_keyAt (wsV RX3 160 RX3 yX3_rank wsX3_rank) := goodIn_app (goodIn_of _ (by decide +kernel)) ggX3_keyAt_X3_rank
theorem dX3_keyAt_0 : decode cX3_keyAt 0 = .ok (.aload_n 0, 1) := by decide +kernel
theorem dX3_keyAt_1 : decode cX3_keyAt 1 = .ok (.iconst 0, 1) := by decide +kernel
theorem dX3_keyAt_2 : decode cX3_keyAt 2 = .ok (.putfield 54, 3) := by decide +kernel
theorem dX3_keyAt_5 : decode cX3_keyAt 5 = .ok (.aload_n 0, 1) := by decide +kernel
theorem dX3_keyAt_6 : decode cX3_keyAt 6 = .ok (.iload_n 1, 1) := by decide +kernel
theorem dX3_keyAt_7 : decode cX3_keyAt 7 = .ok (.invokevirtual 118, 3) := by decide +kernel
theorem dX3_keyAt_10 : decode cX3_keyAt 10 = .ok (.ifCond .ne 9, 3) := by decide +kernel
theorem dX3_keyAt_13 : decode cX3_keyAt 13 = .ok (.aload_n 0, 1) := by decide +kernel
theorem dX3_keyAt_14 : decode cX3_keyAt 14 = .ok (.iconst 1, 1) := by decide +kernel
theorem dX3_keyAt_15 : decode cX3_keyAt 15 = .ok (.invokevirtual 157, 3) := by decide +kernel
theorem dX3_keyAt_18 : decode cX3_keyAt 18 = .ok (.ireturn, 1) := by decide +kernel
theorem dX3_keyAt_19 : decode cX3_keyAt 19 = .ok (.aload_n 0, 1) := by decide +kernel
theorem dX3_keyAt_20 : decode cX3_keyAt 20 = .ok (.invokevirtual 154, 3) := by decide +kernel
theorem dX3_keyAt_23 : decode cX3_keyAt 23 = .ok (.aload_n 0, 1) := by decide +kernel
theorem dX3_keyAt_24 : decode cX3_keyAt 24 = .ok (.aload_n 0, 1) := by decide +kernel
theorem dX3_keyAt_25 : decode cX3_keyAt 25 = .ok (.getfield 38, 3) := by decide +kernel
theorem dX3_keyAt_28 : decode cX3_keyAt 28 = .ok (.iload_n 1, 1) := by decide +kernel
theorem dX3_keyAt_29 : decode cX3_keyAt 29 = .ok (.iaload, 1) := by decide +kernel
theorem dX3_keyAt_30 : decode cX3_keyAt 30 = .ok (.aload_n 0, 1) := by decide +kernel
theorem dX3_keyAt_31 : decode cX3_keyAt 31 = .ok (.getfield 29, 3) := by decide +kernel
theorem dX3_keyAt_34 : decode cX3_keyAt 34 = .ok (.invokevirtual 60, 3) := by decide +kernel
theorem dX3_keyAt_37 : decode cX3_keyAt 37 = .ok (.pop, 1) := by decide +kernel
theorem dX3_keyAt_38 : decode cX3_keyAt 38 = .ok (.iconst 0, 1) := by decide +kernel
theorem dX3_keyAt_39 : decode cX3_keyAt 39 = .ok (.istore_n 3, 1) := by decide +kernel
theorem dX3_keyAt_40 : decode cX3_keyAt 40 = .ok (.iload_n 3, 1) := by decide +kernel
theorem dX3_keyAt_41 : decode cX3_keyAt 41 = .ok (.sipush 160, 3) := by decide +kernel
theorem dX3_keyAt_44 : decode cX3_keyAt 44 = .ok (.if_icmp .ge 39, 3) := by decide +kernel
theorem dX3_keyAt_47 : decode cX3_keyAt 47 = .ok (.aload_n 0, 1) := by decide +kernel
theorem dX3_keyAt_48 : decode cX3_keyAt 48 = .ok (.getfield 29, 3) := by decide +kernel
theorem dX3_keyAt_51 : decode cX3_keyAt 51 = .ok (.iload_n 3, 1) := by decide +kernel
theorem dX3_keyAt_52 : decode cX3_keyAt 52 = .ok (.baload, 1) := by decide +kernel
theorem dX3_keyAt_53 : decode cX3_keyAt 53 = .ok (.ifCond .eq 24, 3) := by decide +kernel
theorem dX3_keyAt_56 : decode cX3_keyAt 56 = .ok (.aload_n 0, 1) := by decide +kernel
theorem dX3_keyAt_57 : decode cX3_keyAt 57 = .ok (.aload_n 0, 1) := by decide +kernel
theorem dX3_keyAt_58 : decode cX3_keyAt 58 = .ok (.getfield 7, 3) := by decide +kernel
theorem dX3_keyAt_61 : decode cX3_keyAt 61 = .ok (.iload_n 3, 1) := by decide +kernel
theorem dX3_keyAt_62 : decode cX3_keyAt 62 = .ok (.iaload, 1) := by decide +kernel
theorem dX3_keyAt_63 : decode cX3_keyAt 63 = .ok (.invokevirtual 160, 3) := by decide +kernel
theorem dX3_keyAt_66 : decode cX3_keyAt 66 = .ok (.iload_n 2, 1) := by decide +kernel
theorem dX3_keyAt_67 : decode cX3_keyAt 67 = .ok (.if_icmp .ne 10, 3) := by decide +kernel
theorem dX3_keyAt_70 : decode cX3_keyAt 70 = .ok (.aload_n 0, 1) := by decide +kernel
theorem dX3_keyAt_71 : decode cX3_keyAt 71 = .ok (.getfield 7, 3) := by decide +kernel
theorem dX3_keyAt_74 : decode cX3_keyAt 74 = .ok (.iload_n 3, 1) := by decide +kernel
theorem dX3_keyAt_75 : decode cX3_keyAt 75 = .ok (.iaload, 1) := by decide +kernel
theorem dX3_keyAt_76 : decode cX3_keyAt 76 = .ok (.ireturn, 1) := by decide +kernel
theorem dX3_keyAt_77 : decode cX3_keyAt 77 = .ok (.iinc 3 1, 3) := by decide +kernel
theorem dX3_keyAt_80 : decode cX3_keyAt 80 = .ok (.goto (-40), 3) := by decide +kernel
theorem dX3_keyAt_83 : decode cX3_keyAt 83 = .ok (.aload_n 0, 1) := by decide +kernel
theorem dX3_keyAt_84 : decode cX3_keyAt 84 = .ok (.iconst 2, 1) := by decide +kernel
theorem dX3_keyAt_85 : decode cX3_keyAt 85 = .ok (.invokevirtual 157, 3) := by decide +kernel
theorem dX3_keyAt_88 : decode cX3_keyAt 88 = .ok (.ireturn, 1) := by decide +kernel
set_option maxRecDepth 20000 in
theorem ggX3_sum_X3_clear : GoodIn wsX3_sum wsX3_clear := goodIn_r _ [10, 3, 25, 26, 27, 28, 29, 30, 31, 32, 33, 34, 35, 36, 37, 38, 39, 40, 41, 42, 43, 44, 45, 46, 47, 48] (by decide +kernel) (by decide +kernel)
set_option maxRecDepth 20000 in
theorem gX3_sum_X3_clear : GoodIn wsX3_sum (wsV RX3 154 RX3 yX3_clear wsX3_clear) := goodIn_app (goodIn_of _ (by decide +kernel)) ggX3_sum_X3_clear
set_option maxRecDepth 20000 in
theorem ggX3_sum_X3_has : GoodIn wsX3_sum wsX3_has := goodIn_r _ [14, 15, 16, 25, 26, 27, 28, 29, 30, 31, 32, 33, 34, 35, 36, 37, 38, 39, 40, 41, 42, 43, 44, 45, 46, 47, 48] (by decide +kernel) (by decide +kernel)
set_option maxRecDepth 20000 in
theorem gX3_sum_X3_has : GoodIn wsX3_sum (wsV RX3 118 RX3 yX3_has wsX3_has) := goodIn_app (goodIn_of _ (by decide +kernel)) ggX3_sum_X3_has
set_option maxRecDepth 20000 in
theorem ggX3_sum_X3_mark : GoodIn wsX3_sum wsX3_mark := goodIn_r _ [20, 21, 22, 23, 24, 25, 26, 27, 28, 29, 30, 31, 32, 33, 34, 35, 36, 37, 38, 39, 40, 41, 42, 43, 44, 45, 46, 47, 48] (by decide +kernel) (by decide +kernel)
set_option maxRecDepth 20000 in
theorem gX3_sum_X3_mark : GoodIn wsX3_sum (wsV RX3 60 RX3 yX3_mark wsX3_mark) := goodIn_app (goodIn_of _ (by decide +kernel)) ggX3_sum_X3_mark
theorem dX3_sum_0 : decode cX3_sum 0 = .ok (.aload_n 0, 1) := by decide +kernel
theorem dX3_sum_1 : decode cX3_sum 1 = .ok (.iconst 0, 1) := by decide +kernel
theorem dX3_sum_2 : decode cX3_sum 2 = .ok (.putfield 54, 3) := by decide +kernel
theorem dX3_sum_5 : decode cX3_sum 5 = .ok (.aload_n 0, 1) := by decide +kernel
theorem dX3_sum_6 : decode cX3_sum 6 = .ok (.invokevirtual 154, 3) := by decide +kernel
theorem dX3_sum_9 : decode cX3_sum 9 = .ok (.aload_n 0, 1) := by decide +kernel
theorem dX3_sum_10 : decode cX3_sum 10 = .ok (.iload_n 1, 1) := by decide +kernel
theorem dX3_sum_11 : decode cX3_sum 11 = .ok (.invokevirtual 118, 3) := by decide +kernel
theorem dX3_sum_14 : decode cX3_sum 14 = .ok (.ifCond .eq 20, 3) := by decide +kernel
theorem dX3_sum_17 : decode cX3_sum 17 = .ok (.aload_n 0, 1) := by decide +kernel
theorem dX3_sum_18 : decode cX3_sum 18 = .ok (.aload_n 0, 1) := by decide +kernel
theorem dX3_sum_19 : decode cX3_sum 19 = .ok (.getfield 38, 3) := by decide +kernel
theorem dX3_sum_22 : decode cX3_sum 22 = .ok (.iload_n 1, 1) := by decide +kernel
theorem dX3_sum_23 : decode cX3_sum 23 = .ok (.iaload, 1) := by decide +kernel
theorem dX3_sum_24 : decode cX3_sum 24 = .ok (.aload_n 0, 1) := by decide +kernel
theorem dX3_sum_25 : decode cX3_sum 25 = .ok (.getfield 29, 3) := by decide +kernel
theorem dX3_sum_28 : decode cX3_sum 28 = .ok (.invokevirtual 60, 3) := by decide +kernel
theorem dX3_sum_31 : decode cX3_sum 31 = .ok (.goto 4, 3) := by decide +kernel
theorem dX3_sum_34 : decode cX3_sum 34 = .ok (.iconst 0, 1) := by decide +kernel
theorem dX3_sum_35 : decode cX3_sum 35 = .ok (.istore 4, 2) := by decide +kernel
theorem dX3_sum_37 : decode cX3_sum 37 = .ok (.lconst 0, 1) := by decide +kernel
theorem dX3_sum_38 : decode cX3_sum 38 = .ok (.lstore 5, 2) := by decide +kernel
theorem dX3_sum_40 : decode cX3_sum 40 = .ok (.iconst 0, 1) := by decide +kernel
theorem dX3_sum_41 : decode cX3_sum 41 = .ok (.istore 7, 2) := by decide +kernel
theorem dX3_sum_43 : decode cX3_sum 43 = .ok (.iload 7, 2) := by decide +kernel
theorem dX3_sum_45 : decode cX3_sum 45 = .ok (.sipush 160, 3) := by decide +kernel
theorem dX3_sum_48 : decode cX3_sum 48 = .ok (.if_icmp .ge 64, 3) := by decide +kernel
theorem dX3_sum_51 : decode cX3_sum 51 = .ok (.iload 4, 2) := by decide +kernel
theorem dX3_sum_53 : decode cX3_sum 53 = .ok (.ifCond .le 59, 3) := by decide +kernel
theorem dX3_sum_56 : decode cX3_sum 56 = .ok (.aload_n 0, 1) := by decide +kernel
theorem dX3_sum_57 : decode cX3_sum 57 = .ok (.getfield 29, 3) := by decide +kernel
theorem dX3_sum_60 : decode cX3_sum 60 = .ok (.iload 7, 2) := by decide +kernel
theorem dX3_sum_62 : decode cX3_sum 62 = .ok (.baload, 1) := by decide +kernel
theorem dX3_sum_63 : decode cX3_sum 63 = .ok (.ifCond .eq 39, 3) := by decide +kernel
theorem dX3_sum_66 : decode cX3_sum 66 = .ok (.aload_n 0, 1) := by decide +kernel
theorem dX3_sum_67 : decode cX3_sum 67 = .ok (.getfield 7, 3) := by decide +kernel
theorem dX3_sum_70 : decode cX3_sum 70 = .ok (.iload 7, 2) := by decide +kernel
theorem dX3_sum_72 : decode cX3_sum 72 = .ok (.iaload, 1) := by decide +kernel
theorem dX3_sum_73 : decode cX3_sum 73 = .ok (.iload_n 2, 1) := by decide +kernel
theorem dX3_sum_74 : decode cX3_sum 74 = .ok (.if_icmp .lt 28, 3) := by decide +kernel
theorem dX3_sum_77 : decode cX3_sum 77 = .ok (.aload_n 0, 1) := by decide +kernel
theorem dX3_sum_78 : decode cX3_sum 78 = .ok (.getfield 7, 3) := by decide +kernel
theorem dX3_sum_81 : decode cX3_sum 81 = .ok (.iload 7, 2) := by decide +kernel
theorem dX3_sum_83 : decode cX3_sum 83 = .ok (.iaload, 1) := by decide +kernel
theorem dX3_sum_84 : decode cX3_sum 84 = .ok (.iload_n 3, 1) := by decide +kernel
theorem dX3_sum_85 : decode cX3_sum 85 = .ok (.if_icmp .gt 17, 3) := by decide +kernel
theorem dX3_sum_88 : decode cX3_sum 88 = .ok (.lload 5, 2) := by decide +kernel
theorem dX3_sum_90 : decode cX3_sum 90 = .ok (.aload_n 0, 1) := by decide +kernel
theorem dX3_sum_91 : decode cX3_sum 91 = .ok (.getfield 13, 3) := by decide +kernel
theorem dX3_sum_94 : decode cX3_sum 94 = .ok (.iload 7, 2) := by decide +kernel
theorem dX3_sum_96 : decode cX3_sum 96 = .ok (.iaload, 1) := by decide +kernel
theorem dX3_sum_97 : decode cX3_sum 97 = .ok (.i2l, 1) := by decide +kernel
theorem dX3_sum_98 : decode cX3_sum 98 = .ok (.ladd, 1) := by decide +kernel
theorem dX3_sum_99 : decode cX3_sum 99 = .ok (.goto 5, 3) := by decide +kernel
theorem dX3_sum_102 : decode cX3_sum 102 = .ok (.lload 5, 2) := by decide +kernel
theorem dX3_sum_104 : decode cX3_sum 104 = .ok (.lstore 5, 2) := by decide +kernel
theorem dX3_sum_106 : decode cX3_sum 106 = .ok (.iinc 7 1, 3) := by decide +kernel
theorem dX3_sum_109 : decode cX3_sum 109 = .ok (.goto (-66), 3) := by decide +kernel
theorem dX3_sum_112 : decode cX3_sum 112 = .ok (.lload 5, 2) := by decide +kernel
theorem dX3_sum_114 : decode cX3_sum 114 = .ok (.lreturn, 1) := by decide +kernel
set_option maxRecDepth 20000 in
theorem ggX3_depth_X3_has : GoodIn wsX3_depth wsX3_has := goodIn_r _ [8, 9, 10, 23, 24, 25, 26, 27, 28, 29, 30, 31, 32, 33, 34, 35, 36, 37, 38, 39, 40, 41, 42, 43, 44, 45, 46] (by decide +kernel) (by decide +kernel)
set_option maxRecDepth 20000 in
theorem gX3_depth_X3_has : GoodIn wsX3_depth (wsV RX3 118 RX3 yX3_has wsX3_has) := goodIn_app (goodIn_of _ (by decide +kernel)) ggX3_depth_X3_has
set_option maxRecDepth 20000 in
theorem ggX3_depth_X3_find : GoodIn wsX3_depth wsX3_find := goodIn_r _ [14, 15, 16, 17, 23, 24, 25, 26, 27, 28, 29, 30, 31, 32, 33, 34, 35, 36, 37, 38, 39, 40, 41, 42, 43, 44, 45, 46] (by decide +kernel) (by decide +kernel)
set_option maxRecDepth 20000 in
theorem gX3_depth_X3_find : GoodIn wsX3_depth (wsV RX3 127 RX3 yX3_find wsX3_find) := goodIn_app (goodIn_of _ (by decide +kernel)) ggX3_depth_X3_find
set_option maxRecDepth 20000 in
theorem ggX3_depth_X3_go : GoodIn wsX3_depth wsX3_go := goodIn_r _ [21, 3, 22, 15, 16, 17, 23, 24, 25, 26, 27, 28, 29, 30, 31, 32, 33, 34, 35, 36, 37, 38, 39, 40, 41, 42, 43, 44, 45, 46] (by decide +kernel) (by decide +kernel)
set_option maxRecDepth 20000 in
theorem gX3_depth_X3_go : GoodIn wsX3_depth (wsV RX3 131 RX3 yX3_go wsX3_go) := goodIn_app (goodIn_of _ (by decide +kernel)) ggX3_depth_X3_go
theorem dX3_depth_0 : decode cX3_depth 0 = .ok (.aload_n 0, 1) := by decide +kernel
theorem dX3_depth_1 : decode cX3_depth 1 = .ok (.iload_n 1, 1) := by decide +kernel
theorem dX3_depth_2 : decode cX3_depth 2 = .ok (.invokevirtual 118, 3) := by decide +kernel
theorem dX3_depth_5 : decode cX3_depth 5 = .ok (.ifCond .eq 17, 3) := by decide +kernel
theorem dX3_depth_8 : decode cX3_depth 8 = .ok (.aload_n 0, 1) := by decide +kernel
theorem dX3_depth_9 : decode cX3_depth 9 = .ok (.aload_n 0, 1) := by decide +kernel
theorem dX3_depth_10 : decode cX3_depth 10 = .ok (.getfield 38, 3) := by decide +kernel
theorem dX3_depth_13 : decode cX3_depth 13 = .ok (.iload_n 1, 1) := by decide +kernel
theorem dX3_depth_14 : decode cX3_depth 14 = .ok (.iaload, 1) := by decide +kernel
theorem dX3_depth_15 : decode cX3_depth 15 = .ok (.iload_n 2, 1) := by decide +kernel
theorem dX3_depth_16 : decode cX3_depth 16 = .ok (.invokevirtual 127, 3) := by decide +kernel
theorem dX3_depth_19 : decode cX3_depth 19 = .ok (.goto 4, 3) := by decide +kernel
theorem dX3_depth_22 : decode cX3_depth 22 = .ok (.iconst (-1), 1) := by decide +kernel
theorem dX3_depth_23 : decode cX3_depth 23 = .ok (.istore_n 3, 1) := by decide +kernel
theorem dX3_depth_24 : decode cX3_depth 24 = .ok (.aload_n 0, 1) := by decide +kernel
theorem dX3_depth_25 : decode cX3_depth 25 = .ok (.iload_n 3, 1) := by decide +kernel
theorem dX3_depth_26 : decode cX3_depth 26 = .ok (.ifCond .ge 7, 3) := by decide +kernel
theorem dX3_depth_29 : decode cX3_depth 29 = .ok (.iconst 1, 1) := by decide +kernel
theorem dX3_depth_30 : decode cX3_depth 30 = .ok (.goto 4, 3) := by decide +kernel
theorem dX3_depth_33 : decode cX3_depth 33 = .ok (.iconst 0, 1) := by decide +kernel
theorem dX3_depth_34 : decode cX3_depth 34 = .ok (.putfield 54, 3) := by decide +kernel
theorem dX3_depth_37 : decode cX3_depth 37 = .ok (.iload_n 3, 1) := by decide +kernel
theorem dX3_depth_38 : decode cX3_depth 38 = .ok (.ifCond .ge 5, 3) := by decide +kernel
theorem dX3_depth_41 : decode cX3_depth 41 = .ok (.iconst 0, 1) := by decide +kernel
theorem dX3_depth_42 : decode cX3_depth 42 = .ok (.ireturn, 1) := by decide +kernel
theorem dX3_depth_43 : decode cX3_depth 43 = .ok (.aload_n 0, 1) := by decide +kernel
theorem dX3_depth_44 : decode cX3_depth 44 = .ok (.aload_n 0, 1) := by decide +kernel
theorem dX3_depth_45 : decode cX3_depth 45 = .ok (.getfield 38, 3) := by decide +kernel
theorem dX3_depth_48 : decode cX3_depth 48 = .ok (.iload_n 1, 1) := by decide +kernel
theorem dX3_depth_49 : decode cX3_depth 49 = .ok (.iaload, 1) := by decide +kernel
theorem dX3_depth_50 : decode cX3_depth 50 = .ok (.iload_n 2, 1) := by decide +kernel
theorem dX3_depth_51 : decode cX3_depth 51 = .ok (.iconst 1, 1) := by decide +kernel
theorem dX3_depth_52 : decode cX3_depth 52 = .ok (.invokevirtual 131, 3) := by decide +kernel
theorem dX3_depth_55 : decode cX3_depth 55 = .ok (.aload_n 0, 1) := by decide +kernel
theorem dX3_depth_56 : decode cX3_depth 56 = .ok (.getfield 88, 3) := by decide +kernel
theorem dX3_depth_59 : decode cX3_depth 59 = .ok (.iconst 1, 1) := by decide +kernel
theorem dX3_depth_60 : decode cX3_depth 60 = .ok (.isub, 1) := by decide +kernel
theorem dX3_depth_61 : decode cX3_depth 61 = .ok (.ireturn, 1) := by decide +kernel
set_option maxRecDepth 20000 in
theorem ggX3_shared_X3_has : GoodIn wsX3_shared wsX3_has := goodIn_r _ [8, 9, 10, 31, 32, 33, 34, 35, 36, 37, 38, 39, 40, 41, 42, 43, 44, 45, 46, 47, 48, 49, 50, 51, 52, 53, 54] (by decide +kernel) (by decide +kernel)
set_option maxRecDepth 20000 in
theorem gX3_shared_X3_has : GoodIn wsX3_shared (wsV RX3 118 RX3 yX3_has wsX3_has) := goodIn_app (goodIn_of _ (by decide +kernel)) ggX3_shared_X3_has
set_option maxRecDepth 20000 in
theorem ggX3_shared_X3_clear : GoodIn wsX3_shared wsX3_clear := goodIn_r _ [14, 3, 31, 32, 33, 34, 35, 36, 37, 38, 39, 40, 41, 42, 43, 44, 45, 46, 47, 48, 49, 50, 51, 52, 53, 54] (by decide +kernel) (by decide +kernel)
set_option maxRecDepth 20000 in
theorem gX3_shared_X3_clear : GoodIn wsX3_shared (wsV RX3 154 RX3 yX3_clear wsX3_clear) := goodIn_app (goodIn_of _ (by decide +kernel)) ggX3_shared_X3_clear
set_option maxRecDepth 20000 in
theorem ggX3_shared_X3_mark : GoodIn wsX3_shared wsX3_mark := goodIn_r _ [18, 19, 20, 21, 22, 31, 32, 33, 34, 35, 36, 37, 38, 39, 40, 41, 42, 43, 44, 45, 46, 47, 48, 49, 50, 51, 52, 53, 54] (by decide +kernel) (by decide +kernel)
set_option maxRecDepth 20000 in
theorem gX3_shared_X3_mark : GoodIn wsX3_shared (wsV RX3 60 RX3 yX3_mark wsX3_mark) := goodIn_app (goodIn_of _ (by decide +kernel)) ggX3_shared_X3_mark
set_option maxRecDepth 20000 in
theorem ggX3_shared_X3_size : GoodIn wsX3_shared wsX3_size := goodIn_r _ [26, 1, 2, 3, 11, 12, 13, 7, 14, 4, 5, 6, 8, 9, 10, 15, 16, 17, 18, 19, 20, 21, 22, 31, 32, 33, 34, 35, 36, 37, 38, 39, 40, 41, 42, 43, 44, 45, 46, 47, 48, 49, 50, 51, 52, 53, 54] (by decide +kernel) (by decide +kernel)
set_option maxRecDepth 20000 in
theorem gX3_shared_X3_size : GoodIn wsX3_shared (wsV RX3 163 RX3 yX3_size wsX3_size) := goodIn_app (goodIn_of _ (by decide +kernel)) ggX3_shared_X3_size
set_option maxRecDepth 20000 in
theorem ggX3_shared_X3_union : GoodIn wsX3_shared wsX3_union := goodIn_r _ [30, 2, 3, 11, 12, 13, 7, 14, 15, 16, 17, 18, 19, 20, 21, 22, 31, 32, 33, 34, 35, 36, 37, 38, 39, 40, 41, 42, 43, 44, 45, 46, 47, 48, 49, 50, 51, 52, 53, 54] (by decide +kernel) (by decide +kernel)
set_option maxRecDepth 20000 in
theorem gX3_shared_X3_union : GoodIn wsX3_shared (wsV RX3 166 RX3 yX3_union wsX3_union) := goodIn_app (goodIn_of _ (by decide +kernel)) ggX3_shared_X3_union
theorem dX3_shared_0 : decode cX3_shared 0 = .ok (.aload_n 0, 1) := by decide +kernel
theorem dX3_shared_1 : decode cX3_shared 1 = .ok (.iconst 0, 1) := by decide +kernel
theorem dX3_shared_2 : decode cX3_shared 2 = .ok (.putfield 54, 3) := by decide +kernel
theorem dX3_shared_5 : decode cX3_shared 5 = .ok (.aload_n 0, 1) := by decide +kernel
theorem dX3_shared_6 : decode cX3_shared 6 = .ok (.iload_n 1, 1) := by decide +kernel
theorem dX3_shared_7 : decode cX3_shared 7 = .ok (.invokevirtual 118, 3) := by decide +kernel
theorem dX3_shared_10 : decode cX3_shared 10 = .ok (.ifCond .eq 11, 3) := by decide +kernel
theorem dX3_shared_13 : decode cX3_shared 13 = .ok (.aload_n 0, 1) := by decide +kernel
theorem dX3_shared_14 : decode cX3_shared 14 = .ok (.iload_n 2, 1) := by decide +kernel
theorem dX3_shared_15 : decode cX3_shared 15 = .ok (.invokevirtual 118, 3) := by decide +kernel
theorem dX3_shared_18 : decode cX3_shared 18 = .ok (.ifCond .ne 5, 3) := by decide +kernel
theorem dX3_shared_21 : decode cX3_shared 21 = .ok (.iconst (-1), 1) := by decide +kernel
theorem dX3_shared_22 : decode cX3_shared 22 = .ok (.ireturn, 1) := by decide +kernel
theorem dX3_shared_23 : decode cX3_shared 23 = .ok (.aload_n 0, 1) := by decide +kernel
theorem dX3_shared_24 : decode cX3_shared 24 = .ok (.invokevirtual 154, 3) := by decide +kernel
theorem dX3_shared_27 : decode cX3_shared 27 = .ok (.aload_n 0, 1) := by decide +kernel
theorem dX3_shared_28 : decode cX3_shared 28 = .ok (.aload_n 0, 1) := by decide +kernel
theorem dX3_shared_29 : decode cX3_shared 29 = .ok (.getfield 38, 3) := by decide +kernel
theorem dX3_shared_32 : decode cX3_shared 32 = .ok (.iload_n 1, 1) := by decide +kernel
theorem dX3_shared_33 : decode cX3_shared 33 = .ok (.iaload, 1) := by decide +kernel
theorem dX3_shared_34 : decode cX3_shared 34 = .ok (.aload_n 0, 1) := by decide +kernel
theorem dX3_shared_35 : decode cX3_shared 35 = .ok (.getfield 29, 3) := by decide +kernel
theorem dX3_shared_38 : decode cX3_shared 38 = .ok (.invokevirtual 60, 3) := by decide +kernel
theorem dX3_shared_41 : decode cX3_shared 41 = .ok (.istore_n 3, 1) := by decide +kernel
theorem dX3_shared_42 : decode cX3_shared 42 = .ok (.iload_n 3, 1) := by decide +kernel
theorem dX3_shared_43 : decode cX3_shared 43 = .ok (.aload_n 0, 1) := by decide +kernel
theorem dX3_shared_44 : decode cX3_shared 44 = .ok (.iload_n 2, 1) := by decide +kernel
theorem dX3_shared_45 : decode cX3_shared 45 = .ok (.invokevirtual 163, 3) := by decide +kernel
theorem dX3_shared_48 : decode cX3_shared 48 = .ok (.iadd, 1) := by decide +kernel
theorem dX3_shared_49 : decode cX3_shared 49 = .ok (.aload_n 0, 1) := by decide +kernel
theorem dX3_shared_50 : decode cX3_shared 50 = .ok (.iload_n 1, 1) := by decide +kernel
theorem dX3_shared_51 : decode cX3_shared 51 = .ok (.iload_n 2, 1) := by decide +kernel
theorem dX3_shared_52 : decode cX3_shared 52 = .ok (.invokevirtual 166, 3) := by decide +kernel
theorem dX3_shared_55 : decode cX3_shared 55 = .ok (.isub, 1) := by decide +kernel
theorem dX3_shared_56 : decode cX3_shared 56 = .ok (.ireturn, 1) := by decide +kernel
set_option maxRecDepth 20000 in
theorem ggX3_union_X3_clear : GoodIn wsX3_union wsX3_clear := goodIn_r _ [7, 2, 16, 17, 18, 19, 20, 21, 22, 23, 24, 25, 26, 27, 28, 29, 30, 31, 32, 33, 34, 35, 36, 37, 38, 39] (by decide +kernel) (by decide +kernel)
set_option maxRecDepth 20000 in
theorem gX3_union_X3_clear : GoodIn wsX3_union (wsV RX3 154 RX3 yX3_clear wsX3_clear) := goodIn_app (goodIn_of _ (by decide +kernel)) ggX3_union_X3_clear
set_option maxRecDepth 20000 in
theorem ggX3_union_X3_mark : GoodIn wsX3_union wsX3_mark := goodIn_r _ [11, 12, 13, 14, 15, 16, 17, 18, 19, 20, 21, 22, 23, 24, 25, 26, 27, 28, 29, 30, 31, 32, 33, 34, 35, 36, 37, 38, 39] (by decide +kernel) (by decide +kernel)
set_option maxRecDepth 20000 in
theorem gX3_union_X3_mark : GoodIn wsX3_union (wsV RX3 60 RX3 yX3_mark wsX3_mark) := goodIn_app (goodIn_of _ (by decide +kernel)) ggX3_union_X3_mark
theorem dX3_union_0 : decode cX3_union 0 = .ok (.aload_n 0, 1) := by decide +kernel
theorem dX3_union_1 : decode cX3_union 1 = .ok (.invokevirtual 154, 3) := by decide +kernel
theorem dX3_union_4 : decode cX3_union 4 = .ok (.aload_n 0, 1) := by decide +kernel
theorem dX3_union_5 : decode cX3_union 5 = .ok (.aload_n 0, 1) := by decide +kernel
theorem dX3_union_6 : decode cX3_union 6 = .ok (.getfield 38, 3) := by decide +kernel
theorem dX3_union_9 : decode cX3_union 9 = .ok (.iload_n 1, 1) := by decide +kernel
theorem dX3_union_10 : decode cX3_union 10 = .ok (.iaload, 1) := by decide +kernel
theorem dX3_union_11 : decode cX3_union 11 = .ok (.aload_n 0, 1) := by decide +kernel
theorem dX3_union_12 : decode cX3_union 12 = .ok (.getfield 29, 3) := by decide +kernel
theorem dX3_union_15 : decode cX3_union 15 = .ok (.invokevirtual 60, 3) := by decide +kernel
theorem dX3_union_18 : decode cX3_union 18 = .ok (.aload_n 0, 1) := by decide +kernel
theorem dX3_union_19 : decode cX3_union 19 = .ok (.aload_n 0, 1) := by decide +kernel
theorem dX3_union_20 : decode cX3_union 20 = .ok (.getfield 38, 3) := by decide +kernel
theorem dX3_union_23 : decode cX3_union 23 = .ok (.iload_n 2, 1) := by decide +kernel
theorem dX3_union_24 : decode cX3_union 24 = .ok (.iaload, 1) := by decide +kernel
theorem dX3_union_25 : decode cX3_union 25 = .ok (.aload_n 0, 1) := by decide +kernel
theorem dX3_union_26 : decode cX3_union 26 = .ok (.getfield 29, 3) := by decide +kernel
theorem dX3_union_29 : decode cX3_union 29 = .ok (.invokevirtual 60, 3) := by decide +kernel
theorem dX3_union_32 : decode cX3_union 32 = .ok (.iadd, 1) := by decide +kernel
theorem dX3_union_33 : decode cX3_union 33 = .ok (.ireturn, 1) := by decide +kernel
set_option maxRecDepth 20000 in
theorem ggX3_nodes_X3_markAll : GoodIn wsX3_nodes wsX3_markAll := goodIn_r _ [6, 7, 8, 9, 10, 11, 12, 13, 5, 14, 15, 16, 17, 18, 19, 20, 21, 22, 23, 24, 25, 26, 27, 28, 29, 30, 31, 32, 33, 34, 35, 36, 37, 38, 39, 40, 41, 42] (by decide +kernel) (by decide +kernel)
set_option maxRecDepth 20000 in
theorem gX3_nodes_X3_markAll : GoodIn wsX3_nodes (wsV RX3 64 RX3 yX3_markAll wsX3_markAll) := goodIn_app (goodIn_of _ (by decide +kernel)) ggX3_nodes_X3_markAll
theorem dX3_nodes_0 : decode cX3_nodes 0 = .ok (.aload_n 0, 1) := by decide +kernel
theorem dX3_nodes_1 : decode cX3_nodes 1 = .ok (.iconst 0, 1) := by decide +kernel
theorem dX3_nodes_2 : decode cX3_nodes 2 = .ok (.putfield 54, 3) := by decide +kernel
theorem dX3_nodes_5 : decode cX3_nodes 5 = .ok (.aload_n 0, 1) := by decide +kernel
theorem dX3_nodes_6 : decode cX3_nodes 6 = .ok (.invokevirtual 64, 3) := by decide +kernel
theorem dX3_nodes_9 : decode cX3_nodes 9 = .ok (.ireturn, 1) := by decide +kernel
theorem dX3_used_0 : decode cX3_used 0 = .ok (.aload_n 0, 1) := by decide +kernel
theorem dX3_used_1 : decode cX3_used 1 = .ok (.iconst 0, 1) := by decide +kernel
theorem dX3_used_2 : decode cX3_used 2 = .ok (.putfield 54, 3) := by decide +kernel
theorem dX3_used_5 : decode cX3_used 5 = .ok (.aload_n 0, 1) := by decide +kernel
theorem dX3_used_6 : decode cX3_used 6 = .ok (.getfield 91, 3) := by decide +kernel
theorem dX3_used_9 : decode cX3_used 9 = .ok (.ireturn, 1) := by decide +kernel
theorem dX3_sweeps_0 : decode cX3_sweeps 0 = .ok (.aload_n 0, 1) := by decide +kernel
theorem dX3_sweeps_1 : decode cX3_sweeps 1 = .ok (.iconst 0, 1) := by decide +kernel
theorem dX3_sweeps_2 : decode cX3_sweeps 2 = .ok (.putfield 54, 3) := by decide +kernel
theorem dX3_sweeps_5 : decode cX3_sweeps 5 = .ok (.aload_n 0, 1) := by decide +kernel
theorem dX3_sweeps_6 : decode cX3_sweeps 6 = .ok (.getfield 94, 3) := by decide +kernel
theorem dX3_sweeps_9 : decode cX3_sweeps 9 = .ok (.ireturn, 1) := by decide +kernel
