theorem dX6_bestBy_94 : decode cX6_bestBy 94 = .ok (.iinc 3 1, 3) := by decide +kernel
theorem dX6_bestBy_97 : decode cX6_bestBy 97 = .ok (.goto (-93), 3) := by decide +kernel
theorem dX6_bestBy_100 : decode cX6_bestBy 100 = .ok (.iload_n 2, 1) := by decide +kernel
theorem dX6_bestBy_101 : decode cX6_bestBy 101 = .ok (.ireturn, 1) := by decide +kernel
set_option maxRecDepth 20000 in
theorem ggX6_amongBest_X6_bestBy : GoodIn wsX6_amongBest wsX6_bestBy := goodIn_r _ [9, 2, 3, 4, 10, 11, 12, 8, 13, 1, 14, 15, 16, 17, 18, 19, 20, 21, 22, 23, 24, 25, 26, 27, 28, 29, 30, 31, 32, 33, 34] (by decide +kernel) (by decide +kernel)
set_option maxRecDepth 20000 in
theorem gX6_amongBest_X6_bestBy : GoodIn wsX6_amongBest (wsV RX6 158 RX6 yX6_bestBy wsX6_bestBy) := goodIn_app (goodIn_of _ (by decide +kernel)) ggX6_amongBest_X6_bestBy
set_option maxRecDepth 20000 in
theorem ggX6_amongBest_X6_sets : GoodIn wsX6_amongBest wsX6_sets := goodIn_r _ [13, 1, 14, 15, 16, 17, 18, 19, 20, 21, 22, 23, 24, 25, 26, 27, 28, 29, 30, 31, 32, 33, 34] (by decide +kernel) (by decide +kernel)
set_option maxRecDepth 20000 in
theorem gX6_amongBest_X6_sets : GoodIn wsX6_amongBest (wsV RX6 132 RX6 yX6_sets wsX6_sets) := goodIn_app (goodIn_of _ (by decide +kernel)) ggX6_amongBest_X6_sets
theorem dX6_amongBest_0 : decode cX6_amongBest 0 = .ok (.aload_n 0, 1) := by decide +kernel
theorem dX6_amongBest_1 : decode cX6_amongBest 1 = .ok (.aload_n 0, 1) := by decide +kernel
theorem dX6_amongBest_2 : decode cX6_amongBest 2 = .ok (.getfield 7, 3) := by decide +kernel
theorem dX6_amongBest_5 : decode cX6_amongBest 5 = .ok (.iconst 1, 1) := by decide +kernel
theorem dX6_amongBest_6 : decode cX6_amongBest 6 = .ok (.iaload, 1) := by decide +kernel
theorem dX6_amongBest_7 : decode cX6_amongBest 7 = .ok (.invokevirtual 158, 3) := by decide +kernel
theorem dX6_amongBest_10 : decode cX6_amongBest 10 = .ok (.istore_n 2, 1) := by decide +kernel
theorem dX6_amongBest_11 : decode cX6_amongBest 11 = .ok (.iconst 0, 1) := by decide +kernel
theorem dX6_amongBest_12 : decode cX6_amongBest 12 = .ok (.istore_n 3, 1) := by decide +kernel
theorem dX6_amongBest_13 : decode cX6_amongBest 13 = .ok (.aload_n 0, 1) := by decide +kernel
theorem dX6_amongBest_14 : decode cX6_amongBest 14 = .ok (.invokevirtual 132, 3) := by decide +kernel
theorem dX6_amongBest_17 : decode cX6_amongBest 17 = .ok (.iconst 1, 1) := by decide +kernel
theorem dX6_amongBest_18 : decode cX6_amongBest 18 = .ok (.isub, 1) := by decide +kernel
theorem dX6_amongBest_19 : decode cX6_amongBest 19 = .ok (.istore 4, 2) := by decide +kernel
theorem dX6_amongBest_21 : decode cX6_amongBest 21 = .ok (.iconst 0, 1) := by decide +kernel
theorem dX6_amongBest_22 : decode cX6_amongBest 22 = .ok (.istore 5, 2) := by decide +kernel
theorem dX6_amongBest_24 : decode cX6_amongBest 24 = .ok (.iconst 0, 1) := by decide +kernel
theorem dX6_amongBest_25 : decode cX6_amongBest 25 = .ok (.istore 6, 2) := by decide +kernel
theorem dX6_amongBest_27 : decode cX6_amongBest 27 = .ok (.iconst 0, 1) := by decide +kernel
theorem dX6_amongBest_28 : decode cX6_amongBest 28 = .ok (.istore 7, 2) := by decide +kernel
theorem dX6_amongBest_30 : decode cX6_amongBest 30 = .ok (.iload 7, 2) := by decide +kernel
theorem dX6_amongBest_32 : decode cX6_amongBest 32 = .ok (.aload_n 0, 1) := by decide +kernel
theorem dX6_amongBest_33 : decode cX6_amongBest 33 = .ok (.invokevirtual 132, 3) := by decide +kernel
theorem dX6_amongBest_36 : decode cX6_amongBest 36 = .ok (.if_icmp .ge 95, 3) := by decide +kernel
theorem dX6_amongBest_39 : decode cX6_amongBest 39 = .ok (.aload_n 0, 1) := by decide +kernel
theorem dX6_amongBest_40 : decode cX6_amongBest 40 = .ok (.getfield 28, 3) := by decide +kernel
theorem dX6_amongBest_43 : decode cX6_amongBest 43 = .ok (.iload 7, 2) := by decide +kernel
theorem dX6_amongBest_45 : decode cX6_amongBest 45 = .ok (.baload, 1) := by decide +kernel
theorem dX6_amongBest_46 : decode cX6_amongBest 46 = .ok (.ifCond .eq 23, 3) := by decide +kernel
theorem dX6_amongBest_49 : decode cX6_amongBest 49 = .ok (.aload_n 0, 1) := by decide +kernel
theorem dX6_amongBest_50 : decode cX6_amongBest 50 = .ok (.getfield 22, 3) := by decide +kernel
theorem dX6_amongBest_53 : decode cX6_amongBest 53 = .ok (.iload 7, 2) := by decide +kernel
theorem dX6_amongBest_55 : decode cX6_amongBest 55 = .ok (.iaload, 1) := by decide +kernel
theorem dX6_amongBest_56 : decode cX6_amongBest 56 = .ok (.aload_n 0, 1) := by decide +kernel
theorem dX6_amongBest_57 : decode cX6_amongBest 57 = .ok (.getfield 7, 3) := by decide +kernel
theorem dX6_amongBest_60 : decode cX6_amongBest 60 = .ok (.iconst 1, 1) := by decide +kernel
theorem dX6_amongBest_61 : decode cX6_amongBest 61 = .ok (.iaload, 1) := by decide +kernel
theorem dX6_amongBest_62 : decode cX6_amongBest 62 = .ok (.if_icmp .gt 7, 3) := by decide +kernel
theorem dX6_amongBest_65 : decode cX6_amongBest 65 = .ok (.iconst 1, 1) := by decide +kernel
theorem dX6_amongBest_66 : decode cX6_amongBest 66 = .ok (.goto 4, 3) := by decide +kernel
theorem dX6_amongBest_69 : decode cX6_amongBest 69 = .ok (.iconst 0, 1) := by decide +kernel
theorem dX6_amongBest_70 : decode cX6_amongBest 70 = .ok (.istore 8, 2) := by decide +kernel
theorem dX6_amongBest_72 : decode cX6_amongBest 72 = .ok (.iload 6, 2) := by decide +kernel
theorem dX6_amongBest_74 : decode cX6_amongBest 74 = .ok (.iload 8, 2) := by decide +kernel
theorem dX6_amongBest_76 : decode cX6_amongBest 76 = .ok (.ifCond .eq 7, 3) := by decide +kernel
theorem dX6_amongBest_79 : decode cX6_amongBest 79 = .ok (.iconst 1, 1) := by decide +kernel
theorem dX6_amongBest_80 : decode cX6_amongBest 80 = .ok (.goto 4, 3) := by decide +kernel
theorem dX6_amongBest_83 : decode cX6_amongBest 83 = .ok (.iconst 0, 1) := by decide +kernel
theorem dX6_amongBest_84 : decode cX6_amongBest 84 = .ok (.iadd, 1) := by decide +kernel
theorem dX6_amongBest_85 : decode cX6_amongBest 85 = .ok (.istore 6, 2) := by decide +kernel
theorem dX6_amongBest_87 : decode cX6_amongBest 87 = .ok (.iload 8, 2) := by decide +kernel
theorem dX6_amongBest_89 : decode cX6_amongBest 89 = .ok (.ifCond .eq 36, 3) := by decide +kernel
theorem dX6_amongBest_92 : decode cX6_amongBest 92 = .ok (.aload_n 0, 1) := by decide +kernel
theorem dX6_amongBest_93 : decode cX6_amongBest 93 = .ok (.getfield 25, 3) := by decide +kernel
theorem dX6_amongBest_96 : decode cX6_amongBest 96 = .ok (.iload 7, 2) := by decide +kernel
theorem dX6_amongBest_98 : decode cX6_amongBest 98 = .ok (.iaload, 1) := by decide +kernel
theorem dX6_amongBest_99 : decode cX6_amongBest 99 = .ok (.aload_n 0, 1) := by decide +kernel
theorem dX6_amongBest_100 : decode cX6_amongBest 100 = .ok (.getfield 25, 3) := by decide +kernel
theorem dX6_amongBest_103 : decode cX6_amongBest 103 = .ok (.iload_n 2, 1) := by decide +kernel
theorem dX6_amongBest_104 : decode cX6_amongBest 104 = .ok (.iaload, 1) := by decide +kernel
theorem dX6_amongBest_105 : decode cX6_amongBest 105 = .ok (.if_icmp .ne 20, 3) := by decide +kernel
theorem dX6_amongBest_108 : decode cX6_amongBest 108 = .ok (.iinc 3 1, 3) := by decide +kernel
theorem dX6_amongBest_111 : decode cX6_amongBest 111 = .ok (.iload 4, 2) := by decide +kernel
theorem dX6_amongBest_113 : decode cX6_amongBest 113 = .ok (.iload 7, 2) := by decide +kernel
theorem dX6_amongBest_115 : decode cX6_amongBest 115 = .ok (.iand, 1) := by decide +kernel
theorem dX6_amongBest_116 : decode cX6_amongBest 116 = .ok (.istore 4, 2) := by decide +kernel
theorem dX6_amongBest_118 : decode cX6_amongBest 118 = .ok (.iload 5, 2) := by decide +kernel
theorem dX6_amongBest_120 : decode cX6_amongBest 120 = .ok (.iload 7, 2) := by decide +kernel
theorem dX6_amongBest_122 : decode cX6_amongBest 122 = .ok (.ior, 1) := by decide +kernel
theorem dX6_amongBest_123 : decode cX6_amongBest 123 = .ok (.istore 5, 2) := by decide +kernel
theorem dX6_amongBest_125 : decode cX6_amongBest 125 = .ok (.iinc 7 1, 3) := by decide +kernel
theorem dX6_amongBest_128 : decode cX6_amongBest 128 = .ok (.goto (-98), 3) := by decide +kernel
theorem dX6_amongBest_131 : decode cX6_amongBest 131 = .ok (.iload_n 1, 1) := by decide +kernel
theorem dX6_amongBest_132 : decode cX6_amongBest 132 = .ok (.iconst 3, 1) := by decide +kernel
theorem dX6_amongBest_133 : decode cX6_amongBest 133 = .ok (.if_icmp .ne 7, 3) := by decide +kernel
theorem dX6_amongBest_136 : decode cX6_amongBest 136 = .ok (.iload_n 3, 1) := by decide +kernel
theorem dX6_amongBest_137 : decode cX6_amongBest 137 = .ok (.goto 34, 3) := by decide +kernel
theorem dX6_amongBest_140 : decode cX6_amongBest 140 = .ok (.iload_n 1, 1) := by decide +kernel
theorem dX6_amongBest_141 : decode cX6_amongBest 141 = .ok (.iconst 4, 1) := by decide +kernel
theorem dX6_amongBest_142 : decode cX6_amongBest 142 = .ok (.if_icmp .ne 8, 3) := by decide +kernel
theorem dX6_amongBest_145 : decode cX6_amongBest 145 = .ok (.iload 4, 2) := by decide +kernel
theorem dX6_amongBest_147 : decode cX6_amongBest 147 = .ok (.goto 24, 3) := by decide +kernel
theorem dX6_amongBest_150 : decode cX6_amongBest 150 = .ok (.iload_n 1, 1) := by decide +kernel
theorem dX6_amongBest_151 : decode cX6_amongBest 151 = .ok (.iconst 5, 1) := by decide +kernel
theorem dX6_amongBest_152 : decode cX6_amongBest 152 = .ok (.if_icmp .ne 17, 3) := by decide +kernel
theorem dX6_amongBest_155 : decode cX6_amongBest 155 = .ok (.aload_n 0, 1) := by decide +kernel
theorem dX6_amongBest_156 : decode cX6_amongBest 156 = .ok (.invokevirtual 132, 3) := by decide +kernel
theorem dX6_amongBest_159 : decode cX6_amongBest 159 = .ok (.iconst 1, 1) := by decide +kernel
theorem dX6_amongBest_160 : decode cX6_amongBest 160 = .ok (.isub, 1) := by decide +kernel
theorem dX6_amongBest_161 : decode cX6_amongBest 161 = .ok (.iload 5, 2) := by decide +kernel
theorem dX6_amongBest_163 : decode cX6_amongBest 163 = .ok (.iconst (-1), 1) := by decide +kernel
theorem dX6_amongBest_164 : decode cX6_amongBest 164 = .ok (.ixor, 1) := by decide +kernel
theorem dX6_amongBest_165 : decode cX6_amongBest 165 = .ok (.iand, 1) := by decide +kernel
theorem dX6_amongBest_166 : decode cX6_amongBest 166 = .ok (.goto 5, 3) := by decide +kernel
theorem dX6_amongBest_169 : decode cX6_amongBest 169 = .ok (.iload 6, 2) := by decide +kernel
theorem dX6_amongBest_171 : decode cX6_amongBest 171 = .ok (.ireturn, 1) := by decide +kernel
set_option maxRecDepth 20000 in
theorem ggX6_best_X6_in : GoodIn wsX6_best wsX6_in := goodIn_r _ [8] (by decide +kernel) (by decide +kernel)
set_option maxRecDepth 20000 in
theorem gX6_best_X6_in : GoodIn wsX6_best (va_wsS RX6 53 yX6_in wsX6_in) := goodIn_app (goodIn_of _ (by decide +kernel)) ggX6_best_X6_in
set_option maxRecDepth 20000 in
theorem ggX6_best_X6_layOwnTables : GoodIn wsX6_best wsX6_layOwnTables := goodIn_r _ [12, 1, 13, 14, 15, 7, 16, 17, 4, 2, 18, 19, 20, 21, 22, 23, 24, 25, 26, 27, 28, 29, 30, 31, 32, 33, 34, 35, 36, 37, 38, 39, 40, 41, 42, 43, 44, 45, 46, 47, 48, 57, 58, 59, 60, 61, 62, 63, 64, 65, 66, 67, 68, 69, 70, 71, 72, 73, 74, 75, 76, 77] (by decide +kernel) (by decide +kernel)
set_option maxRecDepth 20000 in
theorem gX6_best_X6_layOwnTables : GoodIn wsX6_best (wsV RX6 161 RX6 yX6_layOwnTables wsX6_layOwnTables) := goodIn_app (goodIn_of _ (by decide +kernel)) ggX6_best_X6_layOwnTables
set_option maxRecDepth 20000 in
theorem ggX6_best_X6_bestBy : GoodIn wsX6_best wsX6_bestBy := goodIn_r _ [52, 17, 4, 2, 18, 19, 20, 7, 21, 1, 57, 58, 59, 60, 61, 62, 63, 64, 65, 66, 67, 68, 69, 70, 71, 72, 73, 74, 75, 76, 77] (by decide +kernel) (by decide +kernel)
set_option maxRecDepth 20000 in
theorem gX6_best_X6_bestBy : GoodIn wsX6_best (wsV RX6 158 RX6 yX6_bestBy wsX6_bestBy) := goodIn_app (goodIn_of _ (by decide +kernel)) ggX6_best_X6_bestBy
set_option maxRecDepth 20000 in
theorem ggX6_best_X6_amongBest : GoodIn wsX6_best wsX6_amongBest := goodIn_r _ [56, 1, 17, 4, 2, 49, 50, 51, 7, 52, 18, 19, 20, 21, 57, 58, 59, 60, 61, 62, 63, 64, 65, 66, 67, 68, 69, 70, 71, 72, 73, 74, 75, 76, 77] (by decide +kernel) (by decide +kernel)
set_option maxRecDepth 20000 in
theorem gX6_best_X6_amongBest : GoodIn wsX6_best (wsV RX6 164 RX6 yX6_amongBest wsX6_amongBest) := goodIn_app (goodIn_of _ (by decide +kernel)) ggX6_best_X6_amongBest
theorem dX6_best_0 : decode cX6_best 0 = .ok (.iload_n 1, 1) := by decide +kernel
theorem dX6_best_1 : decode cX6_best 1 = .ok (.iconst 0, 1) := by decide +kernel
theorem dX6_best_2 : decode cX6_best 2 = .ok (.bipush 6, 2) := by decide +kernel
theorem dX6_best_4 : decode cX6_best 4 = .ok (.invokestatic 53, 3) := by decide +kernel
theorem dX6_best_7 : decode cX6_best 7 = .ok (.ifCond .ne 6, 3) := by decide +kernel
theorem dX6_best_10 : decode cX6_best 10 = .ok (.bipush (-2), 2) := by decide +kernel
theorem dX6_best_12 : decode cX6_best 12 = .ok (.ireturn, 1) := by decide +kernel
theorem dX6_best_13 : decode cX6_best 13 = .ok (.aload_n 0, 1) := by decide +kernel
theorem dX6_best_14 : decode cX6_best 14 = .ok (.invokevirtual 161, 3) := by decide +kernel
theorem dX6_best_17 : decode cX6_best 17 = .ok (.aload_n 0, 1) := by decide +kernel
theorem dX6_best_18 : decode cX6_best 18 = .ok (.aload_n 0, 1) := by decide +kernel
theorem dX6_best_19 : decode cX6_best 19 = .ok (.getfield 7, 3) := by decide +kernel
theorem dX6_best_22 : decode cX6_best 22 = .ok (.iconst 1, 1) := by decide +kernel
theorem dX6_best_23 : decode cX6_best 23 = .ok (.iaload, 1) := by decide +kernel
theorem dX6_best_24 : decode cX6_best 24 = .ok (.invokevirtual 158, 3) := by decide +kernel
theorem dX6_best_27 : decode cX6_best 27 = .ok (.istore_n 2, 1) := by decide +kernel
theorem dX6_best_28 : decode cX6_best 28 = .ok (.iload_n 1, 1) := by decide +kernel
theorem dX6_best_29 : decode cX6_best 29 = .ok (.ifCond .ne 7, 3) := by decide +kernel
theorem dX6_best_32 : decode cX6_best 32 = .ok (.iload_n 2, 1) := by decide +kernel
theorem dX6_best_33 : decode cX6_best 33 = .ok (.goto 39, 3) := by decide +kernel
theorem dX6_best_36 : decode cX6_best 36 = .ok (.iload_n 1, 1) := by decide +kernel
theorem dX6_best_37 : decode cX6_best 37 = .ok (.iconst 1, 1) := by decide +kernel
theorem dX6_best_38 : decode cX6_best 38 = .ok (.if_icmp .ne 15, 3) := by decide +kernel
theorem dX6_best_41 : decode cX6_best 41 = .ok (.aload_n 0, 1) := by decide +kernel
theorem dX6_best_42 : decode cX6_best 42 = .ok (.getfield 25, 3) := by decide +kernel
theorem dX6_best_45 : decode cX6_best 45 = .ok (.iload_n 2, 1) := by decide +kernel
theorem dX6_best_46 : decode cX6_best 46 = .ok (.iaload, 1) := by decide +kernel
theorem dX6_best_47 : decode cX6_best 47 = .ok (.ldc 151, 2) := by decide +kernel
theorem dX6_best_49 : decode cX6_best 49 = .ok (.iadd, 1) := by decide +kernel
theorem dX6_best_50 : decode cX6_best 50 = .ok (.goto 22, 3) := by decide +kernel
theorem dX6_best_53 : decode cX6_best 53 = .ok (.iload_n 1, 1) := by decide +kernel
theorem dX6_best_54 : decode cX6_best 54 = .ok (.iconst 2, 1) := by decide +kernel
theorem dX6_best_55 : decode cX6_best 55 = .ok (.if_icmp .ne 12, 3) := by decide +kernel
theorem dX6_best_58 : decode cX6_best 58 = .ok (.aload_n 0, 1) := by decide +kernel
theorem dX6_best_59 : decode cX6_best 59 = .ok (.getfield 22, 3) := by decide +kernel
theorem dX6_best_62 : decode cX6_best 62 = .ok (.iload_n 2, 1) := by decide +kernel
theorem dX6_best_63 : decode cX6_best 63 = .ok (.iaload, 1) := by decide +kernel
theorem dX6_best_64 : decode cX6_best 64 = .ok (.goto 8, 3) := by decide +kernel
theorem dX6_best_67 : decode cX6_best 67 = .ok (.aload_n 0, 1) := by decide +kernel
theorem dX6_best_68 : decode cX6_best 68 = .ok (.iload_n 1, 1) := by decide +kernel
theorem dX6_best_69 : decode cX6_best 69 = .ok (.invokevirtual 164, 3) := by decide +kernel
theorem dX6_best_72 : decode cX6_best 72 = .ok (.ireturn, 1) := by decide +kernel
set_option maxRecDepth 20000 in
theorem ggX6_bestWith_X6_in : GoodIn wsX6_bestWith wsX6_in := goodIn_r _ [6] (by decide +kernel) (by decide +kernel)
set_option maxRecDepth 20000 in
theorem gX6_bestWith_X6_in : GoodIn wsX6_bestWith (va_wsS RX6 53 yX6_in wsX6_in) := goodIn_app (goodIn_of _ (by decide +kernel)) ggX6_bestWith_X6_in
set_option maxRecDepth 20000 in
theorem ggX6_bestWith_X6_layTables : GoodIn wsX6_bestWith wsX6_layTables := goodIn_r _ [10, 11, 12, 1, 13, 14, 15, 5, 16, 17, 18, 19, 20, 21, 22, 23, 24, 25, 26, 27, 28, 29, 30, 31, 32, 33, 34, 35, 36, 37, 38, 39, 40, 41, 42, 43, 44, 49, 50, 51, 52, 53, 54, 55, 56, 57, 58, 59, 60, 61, 62, 63, 64, 65, 66, 67, 68, 69] (by decide +kernel) (by decide +kernel)
set_option maxRecDepth 20000 in
theorem gX6_bestWith_X6_layTables : GoodIn wsX6_bestWith (wsV RX6 144 RX6 yX6_layTables wsX6_layTables) := goodIn_app (goodIn_of _ (by decide +kernel)) ggX6_bestWith_X6_layTables
set_option maxRecDepth 20000 in
theorem ggX6_bestWith_X6_bestBy : GoodIn wsX6_bestWith wsX6_bestBy := goodIn_r _ [48, 11, 12, 1, 13, 14, 15, 5, 16, 17, 49, 50, 51, 52, 53, 54, 55, 56, 57, 58, 59, 60, 61, 62, 63, 64, 65, 66, 67, 68, 69] (by decide +kernel) (by decide +kernel)
set_option maxRecDepth 20000 in
theorem gX6_bestWith_X6_bestBy : GoodIn wsX6_bestWith (wsV RX6 158 RX6 yX6_bestBy wsX6_bestBy) := goodIn_app (goodIn_of _ (by decide +kernel)) ggX6_bestWith_X6_bestBy
theorem dX6_bestWith_0 : decode cX6_bestWith 0 = .ok (.iload_n 1, 1) := by decide +kernel
theorem dX6_bestWith_1 : decode cX6_bestWith 1 = .ok (.iconst 0, 1) := by decide +kernel
theorem dX6_bestWith_2 : decode cX6_bestWith 2 = .ok (.sipush 9999, 3) := by decide +kernel
theorem dX6_bestWith_5 : decode cX6_bestWith 5 = .ok (.invokestatic 53, 3) := by decide +kernel
theorem dX6_bestWith_8 : decode cX6_bestWith 8 = .ok (.ifCond .eq 23, 3) := by decide +kernel
theorem dX6_bestWith_11 : decode cX6_bestWith 11 = .ok (.iload_n 2, 1) := by decide +kernel
theorem dX6_bestWith_12 : decode cX6_bestWith 12 = .ok (.iconst 0, 1) := by decide +kernel
theorem dX6_bestWith_13 : decode cX6_bestWith 13 = .ok (.bipush 12, 2) := by decide +kernel
theorem dX6_bestWith_15 : decode cX6_bestWith 15 = .ok (.invokestatic 53, 3) := by decide +kernel
theorem dX6_bestWith_18 : decode cX6_bestWith 18 = .ok (.ifCond .eq 13, 3) := by decide +kernel
theorem dX6_bestWith_21 : decode cX6_bestWith 21 = .ok (.iload_n 3, 1) := by decide +kernel
theorem dX6_bestWith_22 : decode cX6_bestWith 22 = .ok (.iconst 0, 1) := by decide +kernel
theorem dX6_bestWith_23 : decode cX6_bestWith 23 = .ok (.bipush 12, 2) := by decide +kernel
theorem dX6_bestWith_25 : decode cX6_bestWith 25 = .ok (.invokestatic 53, 3) := by decide +kernel
theorem dX6_bestWith_28 : decode cX6_bestWith 28 = .ok (.ifCond .ne 6, 3) := by decide +kernel
theorem dX6_bestWith_31 : decode cX6_bestWith 31 = .ok (.bipush (-2), 2) := by decide +kernel
theorem dX6_bestWith_33 : decode cX6_bestWith 33 = .ok (.ireturn, 1) := by decide +kernel
theorem dX6_bestWith_34 : decode cX6_bestWith 34 = .ok (.aload_n 0, 1) := by decide +kernel
theorem dX6_bestWith_35 : decode cX6_bestWith 35 = .ok (.iload_n 2, 1) := by decide +kernel
theorem dX6_bestWith_36 : decode cX6_bestWith 36 = .ok (.iload_n 3, 1) := by decide +kernel
theorem dX6_bestWith_37 : decode cX6_bestWith 37 = .ok (.invokevirtual 144, 3) := by decide +kernel
theorem dX6_bestWith_40 : decode cX6_bestWith 40 = .ok (.aload_n 0, 1) := by decide +kernel
theorem dX6_bestWith_41 : decode cX6_bestWith 41 = .ok (.getfield 25, 3) := by decide +kernel
theorem dX6_bestWith_44 : decode cX6_bestWith 44 = .ok (.aload_n 0, 1) := by decide +kernel
theorem dX6_bestWith_45 : decode cX6_bestWith 45 = .ok (.iload_n 1, 1) := by decide +kernel
theorem dX6_bestWith_46 : decode cX6_bestWith 46 = .ok (.invokevirtual 158, 3) := by decide +kernel
theorem dX6_bestWith_49 : decode cX6_bestWith 49 = .ok (.iaload, 1) := by decide +kernel
theorem dX6_bestWith_50 : decode cX6_bestWith 50 = .ok (.ldc 151, 2) := by decide +kernel
theorem dX6_bestWith_52 : decode cX6_bestWith 52 = .ok (.iadd, 1) := by decide +kernel
theorem dX6_bestWith_53 : decode cX6_bestWith 53 = .ok (.ireturn, 1) := by decide +kernel
set_option maxRecDepth 20000 in
theorem ggX6_leastCapacity_X6_in : GoodIn wsX6_leastCapacity wsX6_in := goodIn_r _ [7] (by decide +kernel) (by decide +kernel)
set_option maxRecDepth 20000 in
theorem gX6_leastCapacity_X6_in : GoodIn wsX6_leastCapacity (va_wsS RX6 53 yX6_in wsX6_in) := goodIn_app (goodIn_of _ (by decide +kernel)) ggX6_leastCapacity_X6_in
set_option maxRecDepth 20000 in
theorem ggX6_leastCapacity_X6_layOwnTables : GoodIn wsX6_leastCapacity wsX6_layOwnTables := goodIn_r _ [11, 12, 13, 14, 15, 6, 16, 1, 3, 2, 17, 18, 19, 20, 21, 22, 23, 24, 25, 26, 27, 28, 29, 30, 31, 32, 33, 34, 35, 36, 37, 38, 39, 40, 41, 42, 43, 44, 45, 46, 47, 48, 49, 50, 51, 52, 53, 54, 55, 56, 57, 58, 59, 60, 61, 62, 63, 64, 65, 66, 67, 68] (by decide +kernel) (by decide +kernel)
set_option maxRecDepth 20000 in
theorem gX6_leastCapacity_X6_layOwnTables : GoodIn wsX6_leastCapacity (wsV RX6 161 RX6 yX6_layOwnTables wsX6_layOwnTables) := goodIn_app (goodIn_of _ (by decide +kernel)) ggX6_leastCapacity_X6_layOwnTables
set_option maxRecDepth 20000 in
theorem ggX6_leastCapacity_X6_sets : GoodIn wsX6_leastCapacity wsX6_sets := goodIn_r _ [20, 12, 48, 49, 50, 51, 52, 53, 54, 55, 56, 57, 58, 59, 60, 61, 62, 63, 64, 65, 66, 67, 68] (by decide +kernel) (by decide +kernel)
set_option maxRecDepth 20000 in
theorem gX6_leastCapacity_X6_sets : GoodIn wsX6_leastCapacity (wsV RX6 132 RX6 yX6_sets wsX6_sets) := goodIn_app (goodIn_of _ (by decide +kernel)) ggX6_leastCapacity_X6_sets
theorem dX6_leastCapacity_0 : decode cX6_leastCapacity 0 = .ok (.iload_n 1, 1) := by decide +kernel
theorem dX6_leastCapacity_1 : decode cX6_leastCapacity 1 = .ok (.iconst 0, 1) := by decide +kernel
theorem dX6_leastCapacity_2 : decode cX6_leastCapacity 2 = .ok (.sipush 12000, 3) := by decide +kernel
theorem dX6_leastCapacity_5 : decode cX6_leastCapacity 5 = .ok (.invokestatic 53, 3) := by decide +kernel
theorem dX6_leastCapacity_8 : decode cX6_leastCapacity 8 = .ok (.ifCond .ne 6, 3) := by decide +kernel
theorem dX6_leastCapacity_11 : decode cX6_leastCapacity 11 = .ok (.bipush (-2), 2) := by decide +kernel
theorem dX6_leastCapacity_13 : decode cX6_leastCapacity 13 = .ok (.ireturn, 1) := by decide +kernel
theorem dX6_leastCapacity_14 : decode cX6_leastCapacity 14 = .ok (.aload_n 0, 1) := by decide +kernel
theorem dX6_leastCapacity_15 : decode cX6_leastCapacity 15 = .ok (.invokevirtual 161, 3) := by decide +kernel
theorem dX6_leastCapacity_18 : decode cX6_leastCapacity 18 = .ok (.bipush (-6), 2) := by decide +kernel
theorem dX6_leastCapacity_20 : decode cX6_leastCapacity 20 = .ok (.istore_n 2, 1) := by decide +kernel
theorem dX6_leastCapacity_21 : decode cX6_leastCapacity 21 = .ok (.iconst 0, 1) := by decide +kernel
theorem dX6_leastCapacity_22 : decode cX6_leastCapacity 22 = .ok (.istore_n 3, 1) := by decide +kernel
theorem dX6_leastCapacity_23 : decode cX6_leastCapacity 23 = .ok (.iload_n 3, 1) := by decide +kernel
theorem dX6_leastCapacity_24 : decode cX6_leastCapacity 24 = .ok (.aload_n 0, 1) := by decide +kernel
theorem dX6_leastCapacity_25 : decode cX6_leastCapacity 25 = .ok (.invokevirtual 132, 3) := by decide +kernel
theorem dX6_leastCapacity_28 : decode cX6_leastCapacity 28 = .ok (.if_icmp .ge 61, 3) := by decide +kernel
theorem dX6_leastCapacity_31 : decode cX6_leastCapacity 31 = .ok (.aload_n 0, 1) := by decide +kernel
theorem dX6_leastCapacity_32 : decode cX6_leastCapacity 32 = .ok (.getfield 28, 3) := by decide +kernel
theorem dX6_leastCapacity_35 : decode cX6_leastCapacity 35 = .ok (.iload_n 3, 1) := by decide +kernel
theorem dX6_leastCapacity_36 : decode cX6_leastCapacity 36 = .ok (.baload, 1) := by decide +kernel
theorem dX6_leastCapacity_37 : decode cX6_leastCapacity 37 = .ok (.ifCond .eq 46, 3) := by decide +kernel
theorem dX6_leastCapacity_40 : decode cX6_leastCapacity 40 = .ok (.aload_n 0, 1) := by decide +kernel
theorem dX6_leastCapacity_41 : decode cX6_leastCapacity 41 = .ok (.getfield 25, 3) := by decide +kernel
theorem dX6_leastCapacity_44 : decode cX6_leastCapacity 44 = .ok (.iload_n 3, 1) := by decide +kernel
theorem dX6_leastCapacity_45 : decode cX6_leastCapacity 45 = .ok (.iaload, 1) := by decide +kernel
theorem dX6_leastCapacity_46 : decode cX6_leastCapacity 46 = .ok (.iload_n 1, 1) := by decide +kernel
theorem dX6_leastCapacity_47 : decode cX6_leastCapacity 47 = .ok (.if_icmp .lt 36, 3) := by decide +kernel
theorem dX6_leastCapacity_50 : decode cX6_leastCapacity 50 = .ok (.aload_n 0, 1) := by decide +kernel
theorem dX6_leastCapacity_51 : decode cX6_leastCapacity 51 = .ok (.getfield 22, 3) := by decide +kernel
theorem dX6_leastCapacity_54 : decode cX6_leastCapacity 54 = .ok (.iload_n 3, 1) := by decide +kernel
theorem dX6_leastCapacity_55 : decode cX6_leastCapacity 55 = .ok (.iaload, 1) := by decide +kernel
theorem dX6_leastCapacity_56 : decode cX6_leastCapacity 56 = .ok (.sipush 9999, 3) := by decide +kernel
theorem dX6_leastCapacity_59 : decode cX6_leastCapacity 59 = .ok (.if_icmp .gt 24, 3) := by decide +kernel
theorem dX6_leastCapacity_62 : decode cX6_leastCapacity 62 = .ok (.iload_n 2, 1) := by decide +kernel
theorem dX6_leastCapacity_63 : decode cX6_leastCapacity 63 = .ok (.ifCond .lt 13, 3) := by decide +kernel
theorem dX6_leastCapacity_66 : decode cX6_leastCapacity 66 = .ok (.aload_n 0, 1) := by decide +kernel
theorem dX6_leastCapacity_67 : decode cX6_leastCapacity 67 = .ok (.getfield 22, 3) := by decide +kernel
theorem dX6_leastCapacity_70 : decode cX6_leastCapacity 70 = .ok (.iload_n 3, 1) := by decide +kernel
theorem dX6_leastCapacity_71 : decode cX6_leastCapacity 71 = .ok (.iaload, 1) := by decide +kernel
theorem dX6_leastCapacity_72 : decode cX6_leastCapacity 72 = .ok (.iload_n 2, 1) := by decide +kernel
theorem dX6_leastCapacity_73 : decode cX6_leastCapacity 73 = .ok (.if_icmp .ge 10, 3) := by decide +kernel
theorem dX6_leastCapacity_76 : decode cX6_leastCapacity 76 = .ok (.aload_n 0, 1) := by decide +kernel
theorem dX6_leastCapacity_77 : decode cX6_leastCapacity 77 = .ok (.getfield 22, 3) := by decide +kernel
theorem dX6_leastCapacity_80 : decode cX6_leastCapacity 80 = .ok (.iload_n 3, 1) := by decide +kernel
theorem dX6_leastCapacity_81 : decode cX6_leastCapacity 81 = .ok (.iaload, 1) := by decide +kernel
theorem dX6_leastCapacity_82 : decode cX6_leastCapacity 82 = .ok (.istore_n 2, 1) := by decide +kernel
theorem dX6_leastCapacity_83 : decode cX6_leastCapacity 83 = .ok (.iinc 3 1, 3) := by decide +kernel
theorem dX6_leastCapacity_86 : decode cX6_leastCapacity 86 = .ok (.goto (-63), 3) := by decide +kernel
theorem dX6_leastCapacity_89 : decode cX6_leastCapacity 89 = .ok (.iload_n 2, 1) := by decide +kernel
theorem dX6_leastCapacity_90 : decode cX6_leastCapacity 90 = .ok (.ireturn, 1) := by decide +kernel
set_option maxRecDepth 20000 in
theorem ggX6_staysBest_X6_protectedWeight : GoodIn wsX6_staysBest wsX6_protectedWeight := goodIn_r _ [8, 9, 10, 11, 7, 12, 1, 13, 14, 15, 16, 17, 18, 19, 20, 21, 22, 23, 28, 29, 30, 31, 32, 33, 34, 35, 36, 37, 38, 39, 40, 41, 42, 43, 44, 45, 46, 47, 48] (by decide +kernel) (by decide +kernel)
set_option maxRecDepth 20000 in
theorem gX6_staysBest_X6_protectedWeight : GoodIn wsX6_staysBest (wsV RX6 138 RX6 yX6_protectedWeight wsX6_protectedWeight) := goodIn_app (goodIn_of _ (by decide +kernel)) ggX6_staysBest_X6_protectedWeight
set_option maxRecDepth 20000 in
theorem ggX6_staysBest_X6_sets : GoodIn wsX6_staysBest wsX6_sets := goodIn_r _ [27, 1, 28, 29, 30, 31, 32, 33, 34, 35, 36, 37, 38, 39, 40, 41, 42, 43, 44, 45, 46, 47, 48] (by decide +kernel) (by decide +kernel)
set_option maxRecDepth 20000 in
theorem gX6_staysBest_X6_sets : GoodIn wsX6_staysBest (wsV RX6 132 RX6 yX6_sets wsX6_sets) := goodIn_app (goodIn_of _ (by decide +kernel)) ggX6_staysBest_X6_sets
theorem dX6_staysBest_0 : decode cX6_staysBest 0 = .ok (.aload_n 0, 1) := by decide +kernel
theorem dX6_staysBest_1 : decode cX6_staysBest 1 = .ok (.iload_n 1, 1) := by decide +kernel
theorem dX6_staysBest_2 : decode cX6_staysBest 2 = .ok (.aload_n 0, 1) := by decide +kernel
theorem dX6_staysBest_3 : decode cX6_staysBest 3 = .ok (.getfield 7, 3) := by decide +kernel
theorem dX6_staysBest_6 : decode cX6_staysBest 6 = .ok (.iconst 2, 1) := by decide +kernel
theorem dX6_staysBest_7 : decode cX6_staysBest 7 = .ok (.iaload, 1) := by decide +kernel
theorem dX6_staysBest_8 : decode cX6_staysBest 8 = .ok (.invokevirtual 138, 3) := by decide +kernel
theorem dX6_staysBest_11 : decode cX6_staysBest 11 = .ok (.istore_n 2, 1) := by decide +kernel
theorem dX6_staysBest_12 : decode cX6_staysBest 12 = .ok (.iload_n 2, 1) := by decide +kernel
theorem dX6_staysBest_13 : decode cX6_staysBest 13 = .ok (.aload_n 0, 1) := by decide +kernel
theorem dX6_staysBest_14 : decode cX6_staysBest 14 = .ok (.getfield 7, 3) := by decide +kernel
theorem dX6_staysBest_17 : decode cX6_staysBest 17 = .ok (.iconst 1, 1) := by decide +kernel
theorem dX6_staysBest_18 : decode cX6_staysBest 18 = .ok (.iaload, 1) := by decide +kernel
theorem dX6_staysBest_19 : decode cX6_staysBest 19 = .ok (.if_icmp .le 5, 3) := by decide +kernel
theorem dX6_staysBest_22 : decode cX6_staysBest 22 = .ok (.iconst 0, 1) := by decide +kernel
theorem dX6_staysBest_23 : decode cX6_staysBest 23 = .ok (.ireturn, 1) := by decide +kernel
theorem dX6_staysBest_24 : decode cX6_staysBest 24 = .ok (.iconst 0, 1) := by decide +kernel
theorem dX6_staysBest_25 : decode cX6_staysBest 25 = .ok (.istore_n 3, 1) := by decide +kernel
theorem dX6_staysBest_26 : decode cX6_staysBest 26 = .ok (.iload_n 3, 1) := by decide +kernel
theorem dX6_staysBest_27 : decode cX6_staysBest 27 = .ok (.aload_n 0, 1) := by decide +kernel
theorem dX6_staysBest_28 : decode cX6_staysBest 28 = .ok (.invokevirtual 132, 3) := by decide +kernel
theorem dX6_staysBest_31 : decode cX6_staysBest 31 = .ok (.if_icmp .ge 70, 3) := by decide +kernel
theorem dX6_staysBest_34 : decode cX6_staysBest 34 = .ok (.iload_n 3, 1) := by decide +kernel
theorem dX6_staysBest_35 : decode cX6_staysBest 35 = .ok (.iload_n 1, 1) := by decide +kernel
theorem dX6_staysBest_36 : decode cX6_staysBest 36 = .ok (.if_icmp .eq 59, 3) := by decide +kernel
theorem dX6_staysBest_39 : decode cX6_staysBest 39 = .ok (.aload_n 0, 1) := by decide +kernel
theorem dX6_staysBest_40 : decode cX6_staysBest 40 = .ok (.getfield 28, 3) := by decide +kernel
theorem dX6_staysBest_43 : decode cX6_staysBest 43 = .ok (.iload_n 3, 1) := by decide +kernel
theorem dX6_staysBest_44 : decode cX6_staysBest 44 = .ok (.baload, 1) := by decide +kernel
theorem dX6_staysBest_45 : decode cX6_staysBest 45 = .ok (.ifCond .eq 50, 3) := by decide +kernel
theorem dX6_staysBest_48 : decode cX6_staysBest 48 = .ok (.aload_n 0, 1) := by decide +kernel
theorem dX6_staysBest_49 : decode cX6_staysBest 49 = .ok (.getfield 25, 3) := by decide +kernel
theorem dX6_staysBest_52 : decode cX6_staysBest 52 = .ok (.iload_n 3, 1) := by decide +kernel
theorem dX6_staysBest_53 : decode cX6_staysBest 53 = .ok (.iaload, 1) := by decide +kernel
theorem dX6_staysBest_54 : decode cX6_staysBest 54 = .ok (.aload_n 0, 1) := by decide +kernel
theorem dX6_staysBest_55 : decode cX6_staysBest 55 = .ok (.getfield 25, 3) := by decide +kernel
theorem dX6_staysBest_58 : decode cX6_staysBest 58 = .ok (.iload_n 1, 1) := by decide +kernel
theorem dX6_staysBest_59 : decode cX6_staysBest 59 = .ok (.iaload, 1) := by decide +kernel
theorem dX6_staysBest_60 : decode cX6_staysBest 60 = .ok (.if_icmp .ne 35, 3) := by decide +kernel
theorem dX6_staysBest_63 : decode cX6_staysBest 63 = .ok (.aload_n 0, 1) := by decide +kernel
theorem dX6_staysBest_64 : decode cX6_staysBest 64 = .ok (.iload_n 3, 1) := by decide +kernel
theorem dX6_staysBest_65 : decode cX6_staysBest 65 = .ok (.aload_n 0, 1) := by decide +kernel
theorem dX6_staysBest_66 : decode cX6_staysBest 66 = .ok (.getfield 7, 3) := by decide +kernel
theorem dX6_staysBest_69 : decode cX6_staysBest 69 = .ok (.iconst 2, 1) := by decide +kernel
theorem dX6_staysBest_70 : decode cX6_staysBest 70 = .ok (.iaload, 1) := by decide +kernel
theorem dX6_staysBest_71 : decode cX6_staysBest 71 = .ok (.invokevirtual 138, 3) := by decide +kernel
theorem dX6_staysBest_74 : decode cX6_staysBest 74 = .ok (.istore 4, 2) := by decide +kernel
theorem dX6_staysBest_76 : decode cX6_staysBest 76 = .ok (.iload 4, 2) := by decide +kernel
theorem dX6_staysBest_78 : decode cX6_staysBest 78 = .ok (.iload_n 2, 1) := by decide +kernel
theorem dX6_staysBest_79 : decode cX6_staysBest 79 = .ok (.if_icmp .lt 14, 3) := by decide +kernel
theorem dX6_staysBest_82 : decode cX6_staysBest 82 = .ok (.iload 4, 2) := by decide +kernel
theorem dX6_staysBest_84 : decode cX6_staysBest 84 = .ok (.iload_n 2, 1) := by decide +kernel
theorem dX6_staysBest_85 : decode cX6_staysBest 85 = .ok (.if_icmp .ne 10, 3) := by decide +kernel
theorem dX6_staysBest_88 : decode cX6_staysBest 88 = .ok (.iload_n 3, 1) := by decide +kernel
theorem dX6_staysBest_89 : decode cX6_staysBest 89 = .ok (.iload_n 1, 1) := by decide +kernel
theorem dX6_staysBest_90 : decode cX6_staysBest 90 = .ok (.if_icmp .ge 5, 3) := by decide +kernel
theorem dX6_staysBest_93 : decode cX6_staysBest 93 = .ok (.iconst 0, 1) := by decide +kernel
theorem dX6_staysBest_94 : decode cX6_staysBest 94 = .ok (.ireturn, 1) := by decide +kernel
theorem dX6_staysBest_95 : decode cX6_staysBest 95 = .ok (.iinc 3 1, 3) := by decide +kernel
theorem dX6_staysBest_98 : decode cX6_staysBest 98 = .ok (.goto (-72), 3) := by decide +kernel
theorem dX6_staysBest_101 : decode cX6_staysBest 101 = .ok (.iconst 1, 1) := by decide +kernel
theorem dX6_staysBest_102 : decode cX6_staysBest 102 = .ok (.ireturn, 1) := by decide +kernel
set_option maxRecDepth 20000 in
theorem ggX6_headroom_X6_isItem : GoodIn wsX6_headroom wsX6_isItem := goodIn_r _ [6, 1, 7, 8, 5, 9, 60, 61, 62, 63, 64, 65, 66, 67, 68, 69, 70, 71, 72, 73, 74, 75, 76, 77, 78, 79, 80] (by decide +kernel) (by decide +kernel)
set_option maxRecDepth 20000 in
theorem gX6_headroom_X6_isItem : GoodIn wsX6_headroom (wsV RX6 68 RX6 yX6_isItem wsX6_isItem) := goodIn_app (goodIn_of _ (by decide +kernel)) ggX6_headroom_X6_isItem
set_option maxRecDepth 20000 in
theorem ggX6_headroom_X6_layOwnTables : GoodIn wsX6_headroom wsX6_layOwnTables := goodIn_r _ [13, 1, 14, 15, 16, 5, 17, 18, 19, 20, 21, 22, 23, 24, 25, 26, 27, 28, 29, 30, 31, 32, 33, 34, 35, 36, 37, 38, 39, 40, 41, 42, 43, 44, 45, 46, 47, 48, 49, 50, 51, 60, 61, 62, 63, 64, 65, 66, 67, 68, 69, 70, 71, 72, 73, 74, 75, 76, 77, 78, 79, 80] (by decide +kernel) (by decide +kernel)
set_option maxRecDepth 20000 in
theorem gX6_headroom_X6_layOwnTables : GoodIn wsX6_headroom (wsV RX6 161 RX6 yX6_layOwnTables wsX6_layOwnTables) := goodIn_app (goodIn_of _ (by decide +kernel)) ggX6_headroom_X6_layOwnTables
set_option maxRecDepth 20000 in
theorem ggX6_headroom_X6_bestBy : GoodIn wsX6_headroom wsX6_bestBy := goodIn_r _ [55, 18, 19, 20, 21, 22, 23, 5, 24, 1, 60, 61, 62, 63, 64, 65, 66, 67, 68, 69, 70, 71, 72, 73, 74, 75, 76, 77, 78, 79, 80] (by decide +kernel) (by decide +kernel)
set_option maxRecDepth 20000 in
theorem gX6_headroom_X6_bestBy : GoodIn wsX6_headroom (wsV RX6 158 RX6 yX6_bestBy wsX6_bestBy) := goodIn_app (goodIn_of _ (by decide +kernel)) ggX6_headroom_X6_bestBy
set_option maxRecDepth 20000 in
theorem ggX6_headroom_X6_of : GoodIn wsX6_headroom wsX6_of := goodIn_r _ [35, 1, 60, 61, 62, 63, 64, 65, 66, 67, 68, 69, 70, 71, 72, 73, 74, 75, 76, 77, 78, 79, 80] (by decide +kernel) (by decide +kernel)
set_option maxRecDepth 20000 in
theorem gX6_headroom_X6_of : GoodIn wsX6_headroom (wsV RX6 72 RX6 yX6_of wsX6_of) := goodIn_app (goodIn_of _ (by decide +kernel)) ggX6_headroom_X6_of
set_option maxRecDepth 20000 in
theorem ggX6_headroom_X6_has : GoodIn wsX6_headroom wsX6_has := goodIn_r _ [31] (by decide +kernel) (by decide +kernel)
set_option maxRecDepth 20000 in
theorem gX6_headroom_X6_has : GoodIn wsX6_headroom (va_wsS RX6 83 yX6_has wsX6_has) := goodIn_app (goodIn_of _ (by decide +kernel)) ggX6_headroom_X6_has
set_option maxRecDepth 20000 in
theorem ggX6_headroom_X6_staysBest : GoodIn wsX6_headroom wsX6_staysBest := goodIn_r _ [59, 1, 18, 20, 36, 37, 38, 5, 39, 40, 41, 42, 43, 29, 30, 31, 32, 33, 34, 35, 44, 45, 46, 47, 21, 22, 23, 24, 60, 61, 62, 63, 64, 65, 66, 67, 68, 69, 70, 71, 72, 73, 74, 75, 76, 77, 78, 79, 80] (by decide +kernel) (by decide +kernel)
set_option maxRecDepth 20000 in
theorem gX6_headroom_X6_staysBest : GoodIn wsX6_headroom (wsV RX6 167 RX6 yX6_staysBest wsX6_staysBest) := goodIn_app (goodIn_of _ (by decide +kernel)) ggX6_headroom_X6_staysBest
theorem dX6_headroom_0 : decode cX6_headroom 0 = .ok (.aload_n 0, 1) := by decide +kernel
theorem dX6_headroom_1 : decode cX6_headroom 1 = .ok (.iload_n 1, 1) := by decide +kernel
theorem dX6_headroom_2 : decode cX6_headroom 2 = .ok (.invokevirtual 68, 3) := by decide +kernel
theorem dX6_headroom_5 : decode cX6_headroom 5 = .ok (.ifCond .ne 5, 3) := by decide +kernel
theorem dX6_headroom_8 : decode cX6_headroom 8 = .ok (.iconst (-1), 1) := by decide +kernel
theorem dX6_headroom_9 : decode cX6_headroom 9 = .ok (.ireturn, 1) := by decide +kernel
theorem dX6_headroom_10 : decode cX6_headroom 10 = .ok (.aload_n 0, 1) := by decide +kernel
theorem dX6_headroom_11 : decode cX6_headroom 11 = .ok (.invokevirtual 161, 3) := by decide +kernel
theorem dX6_headroom_14 : decode cX6_headroom 14 = .ok (.aload_n 0, 1) := by decide +kernel
theorem dX6_headroom_15 : decode cX6_headroom 15 = .ok (.aload_n 0, 1) := by decide +kernel
theorem dX6_headroom_16 : decode cX6_headroom 16 = .ok (.getfield 7, 3) := by decide +kernel
theorem dX6_headroom_19 : decode cX6_headroom 19 = .ok (.iconst 1, 1) := by decide +kernel
theorem dX6_headroom_20 : decode cX6_headroom 20 = .ok (.iaload, 1) := by decide +kernel
theorem dX6_headroom_21 : decode cX6_headroom 21 = .ok (.invokevirtual 158, 3) := by decide +kernel
theorem dX6_headroom_24 : decode cX6_headroom 24 = .ok (.istore_n 2, 1) := by decide +kernel
theorem dX6_headroom_25 : decode cX6_headroom 25 = .ok (.aload_n 0, 1) := by decide +kernel
theorem dX6_headroom_26 : decode cX6_headroom 26 = .ok (.iload_n 1, 1) := by decide +kernel
theorem dX6_headroom_27 : decode cX6_headroom 27 = .ok (.iconst 2, 1) := by decide +kernel
theorem dX6_headroom_28 : decode cX6_headroom 28 = .ok (.invokevirtual 72, 3) := by decide +kernel
theorem dX6_headroom_31 : decode cX6_headroom 31 = .ok (.istore_n 3, 1) := by decide +kernel
theorem dX6_headroom_32 : decode cX6_headroom 32 = .ok (.iload_n 2, 1) := by decide +kernel
theorem dX6_headroom_33 : decode cX6_headroom 33 = .ok (.iload_n 1, 1) := by decide +kernel
theorem dX6_headroom_34 : decode cX6_headroom 34 = .ok (.invokestatic 83, 3) := by decide +kernel
theorem dX6_headroom_37 : decode cX6_headroom 37 = .ok (.ifCond .ne 9, 3) := by decide +kernel
theorem dX6_headroom_40 : decode cX6_headroom 40 = .ok (.sipush 999, 3) := by decide +kernel
theorem dX6_headroom_43 : decode cX6_headroom 43 = .ok (.iload_n 3, 1) := by decide +kernel
theorem dX6_headroom_44 : decode cX6_headroom 44 = .ok (.isub, 1) := by decide +kernel
theorem dX6_headroom_45 : decode cX6_headroom 45 = .ok (.ireturn, 1) := by decide +kernel
theorem dX6_headroom_46 : decode cX6_headroom 46 = .ok (.iconst 4, 1) := by decide +kernel
theorem dX6_headroom_47 : decode cX6_headroom 47 = .ok (.iconst 5, 1) := by decide +kernel
theorem dX6_headroom_48 : decode cX6_headroom 48 = .ok (.iload_n 1, 1) := by decide +kernel
theorem dX6_headroom_49 : decode cX6_headroom 49 = .ok (.imul, 1) := by decide +kernel
theorem dX6_headroom_50 : decode cX6_headroom 50 = .ok (.iadd, 1) := by decide +kernel
theorem dX6_headroom_51 : decode cX6_headroom 51 = .ok (.iconst 2, 1) := by decide +kernel
theorem dX6_headroom_52 : decode cX6_headroom 52 = .ok (.iadd, 1) := by decide +kernel
theorem dX6_headroom_53 : decode cX6_headroom 53 = .ok (.istore 4, 2) := by decide +kernel
theorem dX6_headroom_55 : decode cX6_headroom 55 = .ok (.iconst 0, 1) := by decide +kernel
theorem dX6_headroom_56 : decode cX6_headroom 56 = .ok (.istore 5, 2) := by decide +kernel
theorem dX6_headroom_58 : decode cX6_headroom 58 = .ok (.iconst 1, 1) := by decide +kernel
theorem dX6_headroom_59 : decode cX6_headroom 59 = .ok (.istore 6, 2) := by decide +kernel
theorem dX6_headroom_61 : decode cX6_headroom 61 = .ok (.iload 6, 2) := by decide +kernel
theorem dX6_headroom_63 : decode cX6_headroom 63 = .ok (.ifCond .eq 51, 3) := by decide +kernel
theorem dX6_headroom_66 : decode cX6_headroom 66 = .ok (.iload_n 3, 1) := by decide +kernel
theorem dX6_headroom_67 : decode cX6_headroom 67 = .ok (.iload 5, 2) := by decide +kernel
theorem dX6_headroom_69 : decode cX6_headroom 69 = .ok (.iadd, 1) := by decide +kernel
theorem dX6_headroom_70 : decode cX6_headroom 70 = .ok (.sipush 999, 3) := by decide +kernel
theorem dX6_headroom_73 : decode cX6_headroom 73 = .ok (.if_icmp .ge 41, 3) := by decide +kernel
theorem dX6_headroom_76 : decode cX6_headroom 76 = .ok (.aload_n 0, 1) := by decide +kernel
theorem dX6_headroom_77 : decode cX6_headroom 77 = .ok (.getfield 7, 3) := by decide +kernel
theorem dX6_headroom_80 : decode cX6_headroom 80 = .ok (.iload 4, 2) := by decide +kernel
theorem dX6_headroom_82 : decode cX6_headroom 82 = .ok (.iload_n 3, 1) := by decide +kernel
theorem dX6_headroom_83 : decode cX6_headroom 83 = .ok (.iload 5, 2) := by decide +kernel
theorem dX6_headroom_85 : decode cX6_headroom 85 = .ok (.iadd, 1) := by decide +kernel
theorem dX6_headroom_86 : decode cX6_headroom 86 = .ok (.iconst 1, 1) := by decide +kernel
theorem dX6_headroom_87 : decode cX6_headroom 87 = .ok (.iadd, 1) := by decide +kernel
theorem dX6_headroom_88 : decode cX6_headroom 88 = .ok (.iastore, 1) := by decide +kernel
theorem dX6_headroom_89 : decode cX6_headroom 89 = .ok (.aload_n 0, 1) := by decide +kernel
theorem dX6_headroom_90 : decode cX6_headroom 90 = .ok (.iload_n 2, 1) := by decide +kernel
theorem dX6_headroom_91 : decode cX6_headroom 91 = .ok (.invokevirtual 167, 3) := by decide +kernel
theorem dX6_headroom_94 : decode cX6_headroom 94 = .ok (.istore 6, 2) := by decide +kernel
theorem dX6_headroom_96 : decode cX6_headroom 96 = .ok (.iload 5, 2) := by decide +kernel
theorem dX6_headroom_98 : decode cX6_headroom 98 = .ok (.iload 6, 2) := by decide +kernel
theorem dX6_headroom_100 : decode cX6_headroom 100 = .ok (.ifCond .eq 7, 3) := by decide +kernel
theorem dX6_headroom_103 : decode cX6_headroom 103 = .ok (.iconst 1, 1) := by decide +kernel
theorem dX6_headroom_104 : decode cX6_headroom 104 = .ok (.goto 4, 3) := by decide +kernel
theorem dX6_headroom_107 : decode cX6_headroom 107 = .ok (.iconst 0, 1) := by decide +kernel
theorem dX6_headroom_108 : decode cX6_headroom 108 = .ok (.iadd, 1) := by decide +kernel
theorem dX6_headroom_109 : decode cX6_headroom 109 = .ok (.istore 5, 2) := by decide +kernel
theorem dX6_headroom_111 : decode cX6_headroom 111 = .ok (.goto (-50), 3) := by decide +kernel
theorem dX6_headroom_114 : decode cX6_headroom 114 = .ok (.aload_n 0, 1) := by decide +kernel
theorem dX6_headroom_115 : decode cX6_headroom 115 = .ok (.getfield 7, 3) := by decide +kernel
theorem dX6_headroom_118 : decode cX6_headroom 118 = .ok (.iload 4, 2) := by decide +kernel
theorem dX6_headroom_120 : decode cX6_headroom 120 = .ok (.iload_n 3, 1) := by decide +kernel
theorem dX6_headroom_121 : decode cX6_headroom 121 = .ok (.iastore, 1) := by decide +kernel
theorem dX6_headroom_122 : decode cX6_headroom 122 = .ok (.iload 5, 2) := by decide +kernel
theorem dX6_headroom_124 : decode cX6_headroom 124 = .ok (.ireturn, 1) := by decide +kernel
set_option maxRecDepth 20000 in
theorem ggX6_isAhead_X6_of : GoodIn wsX6_isAhead wsX6_of := goodIn_r _ [5, 6, 7, 8, 9, 10, 11, 12, 13, 14, 15, 16, 17, 18, 19, 20, 21, 22, 23, 24, 25, 26, 27] (by decide +kernel) (by decide +kernel)
set_option maxRecDepth 20000 in
theorem gX6_isAhead_X6_of : GoodIn wsX6_isAhead (wsV RX6 72 RX6 yX6_of wsX6_of) := goodIn_app (goodIn_of _ (by decide +kernel)) ggX6_isAhead_X6_of
theorem dX6_isAhead_0 : decode cX6_isAhead 0 = .ok (.aload_n 0, 1) := by decide +kernel
theorem dX6_isAhead_1 : decode cX6_isAhead 1 = .ok (.iload_n 1, 1) := by decide +kernel
theorem dX6_isAhead_2 : decode cX6_isAhead 2 = .ok (.iconst 0, 1) := by decide +kernel
theorem dX6_isAhead_3 : decode cX6_isAhead 3 = .ok (.invokevirtual 72, 3) := by decide +kernel
theorem dX6_isAhead_6 : decode cX6_isAhead 6 = .ok (.aload_n 0, 1) := by decide +kernel
theorem dX6_isAhead_7 : decode cX6_isAhead 7 = .ok (.iload_n 2, 1) := by decide +kernel
theorem dX6_isAhead_8 : decode cX6_isAhead 8 = .ok (.iconst 1, 1) := by decide +kernel
theorem dX6_isAhead_9 : decode cX6_isAhead 9 = .ok (.invokevirtual 72, 3) := by decide +kernel
theorem dX6_isAhead_12 : decode cX6_isAhead 12 = .ok (.aload_n 0, 1) := by decide +kernel
theorem dX6_isAhead_13 : decode cX6_isAhead 13 = .ok (.iload_n 2, 1) := by decide +kernel
theorem dX6_isAhead_14 : decode cX6_isAhead 14 = .ok (.iconst 2, 1) := by decide +kernel
theorem dX6_isAhead_15 : decode cX6_isAhead 15 = .ok (.invokevirtual 72, 3) := by decide +kernel
theorem dX6_isAhead_18 : decode cX6_isAhead 18 = .ok (.iadd, 1) := by decide +kernel
theorem dX6_isAhead_19 : decode cX6_isAhead 19 = .ok (.imul, 1) := by decide +kernel
theorem dX6_isAhead_20 : decode cX6_isAhead 20 = .ok (.istore_n 3, 1) := by decide +kernel
theorem dX6_isAhead_21 : decode cX6_isAhead 21 = .ok (.aload_n 0, 1) := by decide +kernel
theorem dX6_isAhead_22 : decode cX6_isAhead 22 = .ok (.iload_n 2, 1) := by decide +kernel
theorem dX6_isAhead_23 : decode cX6_isAhead 23 = .ok (.iconst 0, 1) := by decide +kernel
theorem dX6_isAhead_24 : decode cX6_isAhead 24 = .ok (.invokevirtual 72, 3) := by decide +kernel
theorem dX6_isAhead_27 : decode cX6_isAhead 27 = .ok (.aload_n 0, 1) := by decide +kernel
theorem dX6_isAhead_28 : decode cX6_isAhead 28 = .ok (.iload_n 1, 1) := by decide +kernel
theorem dX6_isAhead_29 : decode cX6_isAhead 29 = .ok (.iconst 1, 1) := by decide +kernel
theorem dX6_isAhead_30 : decode cX6_isAhead 30 = .ok (.invokevirtual 72, 3) := by decide +kernel
theorem dX6_isAhead_33 : decode cX6_isAhead 33 = .ok (.aload_n 0, 1) := by decide +kernel
theorem dX6_isAhead_34 : decode cX6_isAhead 34 = .ok (.iload_n 1, 1) := by decide +kernel
theorem dX6_isAhead_35 : decode cX6_isAhead 35 = .ok (.iconst 2, 1) := by decide +kernel
theorem dX6_isAhead_36 : decode cX6_isAhead 36 = .ok (.invokevirtual 72, 3) := by decide +kernel
theorem dX6_isAhead_39 : decode cX6_isAhead 39 = .ok (.iadd, 1) := by decide +kernel
theorem dX6_isAhead_40 : decode cX6_isAhead 40 = .ok (.imul, 1) := by decide +kernel
theorem dX6_isAhead_41 : decode cX6_isAhead 41 = .ok (.istore 4, 2) := by decide +kernel
theorem dX6_isAhead_43 : decode cX6_isAhead 43 = .ok (.iload_n 3, 1) := by decide +kernel
theorem dX6_isAhead_44 : decode cX6_isAhead 44 = .ok (.iload 4, 2) := by decide +kernel
theorem dX6_isAhead_46 : decode cX6_isAhead 46 = .ok (.if_icmp .gt 14, 3) := by decide +kernel
theorem dX6_isAhead_49 : decode cX6_isAhead 49 = .ok (.iload_n 3, 1) := by decide +kernel
theorem dX6_isAhead_50 : decode cX6_isAhead 50 = .ok (.iload 4, 2) := by decide +kernel
theorem dX6_isAhead_52 : decode cX6_isAhead 52 = .ok (.if_icmp .ne 12, 3) := by decide +kernel
theorem dX6_isAhead_55 : decode cX6_isAhead 55 = .ok (.iload_n 1, 1) := by decide +kernel
theorem dX6_isAhead_56 : decode cX6_isAhead 56 = .ok (.iload_n 2, 1) := by decide +kernel
theorem dX6_isAhead_57 : decode cX6_isAhead 57 = .ok (.if_icmp .ge 7, 3) := by decide +kernel
theorem dX6_isAhead_60 : decode cX6_isAhead 60 = .ok (.iconst 1, 1) := by decide +kernel
theorem dX6_isAhead_61 : decode cX6_isAhead 61 = .ok (.goto 4, 3) := by decide +kernel
theorem dX6_isAhead_64 : decode cX6_isAhead 64 = .ok (.iconst 0, 1) := by decide +kernel
theorem dX6_isAhead_65 : decode cX6_isAhead 65 = .ok (.ireturn, 1) := by decide +kernel
set_option maxRecDepth 20000 in
theorem ggX6_greedy_X6_in : GoodIn wsX6_greedy wsX6_in := goodIn_r _ [6] (by decide +kernel) (by decide +kernel)
set_option maxRecDepth 20000 in
theorem gX6_greedy_X6_in : GoodIn wsX6_greedy (va_wsS RX6 53 yX6_in wsX6_in) := goodIn_app (goodIn_of _ (by decide +kernel)) ggX6_greedy_X6_in
set_option maxRecDepth 20000 in
theorem ggX6_greedy_X6_has : GoodIn wsX6_greedy wsX6_has := goodIn_r _ [9] (by decide +kernel) (by decide +kernel)
set_option maxRecDepth 20000 in
theorem gX6_greedy_X6_has : GoodIn wsX6_greedy (va_wsS RX6 83 yX6_has wsX6_has) := goodIn_app (goodIn_of _ (by decide +kernel)) ggX6_greedy_X6_has
set_option maxRecDepth 20000 in
theorem ggX6_greedy_X6_isAhead : GoodIn wsX6_greedy wsX6_isAhead := goodIn_r _ [13, 14, 15, 16, 5, 17, 1, 38, 39, 40, 41, 42, 43, 44, 45, 46, 47, 48, 49, 50, 51, 52, 53, 54, 55, 56, 57, 58] (by decide +kernel) (by decide +kernel)
set_option maxRecDepth 20000 in
theorem gX6_greedy_X6_isAhead : GoodIn wsX6_greedy (wsV RX6 170 RX6 yX6_isAhead wsX6_isAhead) := goodIn_app (goodIn_of _ (by decide +kernel)) ggX6_greedy_X6_isAhead
set_option maxRecDepth 20000 in
theorem ggX6_greedy_X6_isAllowed : GoodIn wsX6_greedy wsX6_isAllowed := goodIn_r _ [21, 1, 7, 8, 5, 9, 14, 15, 16, 17, 38, 39, 40, 41, 42, 43, 44, 45, 46, 47, 48, 49, 50, 51, 52, 53, 54, 55, 56, 57, 58] (by decide +kernel) (by decide +kernel)
set_option maxRecDepth 20000 in
theorem gX6_greedy_X6_isAllowed : GoodIn wsX6_greedy (wsV RX6 135 RX6 yX6_isAllowed wsX6_isAllowed) := goodIn_app (goodIn_of _ (by decide +kernel)) ggX6_greedy_X6_isAllowed
set_option maxRecDepth 20000 in
theorem ggX6_greedy_X6_protectedWeight : GoodIn wsX6_greedy wsX6_protectedWeight := goodIn_r _ [25, 26, 27, 28, 5, 29, 1, 7, 8, 9, 14, 15, 16, 17, 30, 31, 32, 33, 38, 39, 40, 41, 42, 43, 44, 45, 46, 47, 48, 49, 50, 51, 52, 53, 54, 55, 56, 57, 58] (by decide +kernel) (by decide +kernel)
set_option maxRecDepth 20000 in
theorem gX6_greedy_X6_protectedWeight : GoodIn wsX6_greedy (wsV RX6 138 RX6 yX6_protectedWeight wsX6_protectedWeight) := goodIn_app (goodIn_of _ (by decide +kernel)) ggX6_greedy_X6_protectedWeight
set_option maxRecDepth 20000 in
theorem ggX6_greedy_X6_protectedProfit : GoodIn wsX6_greedy wsX6_protectedProfit := goodIn_r _ [37, 26, 27, 28, 5, 29, 1, 7, 8, 9, 14, 15, 16, 17, 30, 31, 32, 33, 38, 39, 40, 41, 42, 43, 44, 45, 46, 47, 48, 49, 50, 51, 52, 53, 54, 55, 56, 57, 58] (by decide +kernel) (by decide +kernel)
set_option maxRecDepth 20000 in
theorem gX6_greedy_X6_protectedProfit : GoodIn wsX6_greedy (wsV RX6 141 RX6 yX6_protectedProfit wsX6_protectedProfit) := goodIn_app (goodIn_of _ (by decide +kernel)) ggX6_greedy_X6_protectedProfit
theorem dX6_greedy_0 : decode cX6_greedy 0 = .ok (.iload_n 1, 1) := by decide +kernel
theorem dX6_greedy_1 : decode cX6_greedy 1 = .ok (.iconst 0, 1) := by decide +kernel
theorem dX6_greedy_2 : decode cX6_greedy 2 = .ok (.iconst 1, 1) := by decide +kernel
theorem dX6_greedy_3 : decode cX6_greedy 3 = .ok (.invokestatic 53, 3) := by decide +kernel
theorem dX6_greedy_6 : decode cX6_greedy 6 = .ok (.ifCond .ne 6, 3) := by decide +kernel
theorem dX6_greedy_9 : decode cX6_greedy 9 = .ok (.bipush (-2), 2) := by decide +kernel
theorem dX6_greedy_11 : decode cX6_greedy 11 = .ok (.ireturn, 1) := by decide +kernel
theorem dX6_greedy_12 : decode cX6_greedy 12 = .ok (.iconst 0, 1) := by decide +kernel
theorem dX6_greedy_13 : decode cX6_greedy 13 = .ok (.istore_n 2, 1) := by decide +kernel
theorem dX6_greedy_14 : decode cX6_greedy 14 = .ok (.iconst 0, 1) := by decide +kernel
theorem dX6_greedy_15 : decode cX6_greedy 15 = .ok (.istore_n 3, 1) := by decide +kernel
theorem dX6_greedy_16 : decode cX6_greedy 16 = .ok (.iconst 0, 1) := by decide +kernel
theorem dX6_greedy_17 : decode cX6_greedy 17 = .ok (.istore 4, 2) := by decide +kernel
theorem dX6_greedy_19 : decode cX6_greedy 19 = .ok (.iload 4, 2) := by decide +kernel
theorem dX6_greedy_21 : decode cX6_greedy 21 = .ok (.aload_n 0, 1) := by decide +kernel
theorem dX6_greedy_22 : decode cX6_greedy 22 = .ok (.getfield 7, 3) := by decide +kernel
theorem dX6_greedy_25 : decode cX6_greedy 25 = .ok (.iconst 0, 1) := by decide +kernel
theorem dX6_greedy_26 : decode cX6_greedy 26 = .ok (.iaload, 1) := by decide +kernel
theorem dX6_greedy_27 : decode cX6_greedy 27 = .ok (.if_icmp .ge 119, 3) := by decide +kernel
theorem dX6_greedy_30 : decode cX6_greedy 30 = .ok (.bipush (-6), 2) := by decide +kernel
theorem dX6_greedy_32 : decode cX6_greedy 32 = .ok (.istore 5, 2) := by decide +kernel
theorem dX6_greedy_34 : decode cX6_greedy 34 = .ok (.iconst 0, 1) := by decide +kernel
theorem dX6_greedy_35 : decode cX6_greedy 35 = .ok (.istore 6, 2) := by decide +kernel
theorem dX6_greedy_37 : decode cX6_greedy 37 = .ok (.iload 6, 2) := by decide +kernel
theorem dX6_greedy_39 : decode cX6_greedy 39 = .ok (.aload_n 0, 1) := by decide +kernel
theorem dX6_greedy_40 : decode cX6_greedy 40 = .ok (.getfield 7, 3) := by decide +kernel
theorem dX6_greedy_43 : decode cX6_greedy 43 = .ok (.iconst 0, 1) := by decide +kernel
theorem dX6_greedy_44 : decode cX6_greedy 44 = .ok (.iaload, 1) := by decide +kernel
theorem dX6_greedy_45 : decode cX6_greedy 45 = .ok (.if_icmp .ge 43, 3) := by decide +kernel
theorem dX6_greedy_48 : decode cX6_greedy 48 = .ok (.iload_n 2, 1) := by decide +kernel
theorem dX6_greedy_49 : decode cX6_greedy 49 = .ok (.iload 6, 2) := by decide +kernel
theorem dX6_greedy_51 : decode cX6_greedy 51 = .ok (.invokestatic 83, 3) := by decide +kernel
theorem dX6_greedy_54 : decode cX6_greedy 54 = .ok (.ifCond .ne 24, 3) := by decide +kernel
theorem dX6_greedy_57 : decode cX6_greedy 57 = .ok (.iload 5, 2) := by decide +kernel
theorem dX6_greedy_59 : decode cX6_greedy 59 = .ok (.ifCond .lt 14, 3) := by decide +kernel
theorem dX6_greedy_62 : decode cX6_greedy 62 = .ok (.aload_n 0, 1) := by decide +kernel
theorem dX6_greedy_63 : decode cX6_greedy 63 = .ok (.iload 6, 2) := by decide +kernel
theorem dX6_greedy_65 : decode cX6_greedy 65 = .ok (.iload 5, 2) := by decide +kernel
theorem dX6_greedy_67 : decode cX6_greedy 67 = .ok (.invokevirtual 170, 3) := by decide +kernel
theorem dX6_greedy_70 : decode cX6_greedy 70 = .ok (.ifCond .eq 8, 3) := by decide +kernel
theorem dX6_greedy_73 : decode cX6_greedy 73 = .ok (.iload 6, 2) := by decide +kernel
theorem dX6_greedy_75 : decode cX6_greedy 75 = .ok (.goto 5, 3) := by decide +kernel
theorem dX6_greedy_78 : decode cX6_greedy 78 = .ok (.iload 5, 2) := by decide +kernel
theorem dX6_greedy_80 : decode cX6_greedy 80 = .ok (.istore 5, 2) := by decide +kernel
theorem dX6_greedy_82 : decode cX6_greedy 82 = .ok (.iinc 6 1, 3) := by decide +kernel
theorem dX6_greedy_85 : decode cX6_greedy 85 = .ok (.goto (-48), 3) := by decide +kernel
theorem dX6_greedy_88 : decode cX6_greedy 88 = .ok (.iload_n 2, 1) := by decide +kernel
theorem dX6_greedy_89 : decode cX6_greedy 89 = .ok (.iconst 1, 1) := by decide +kernel
theorem dX6_greedy_90 : decode cX6_greedy 90 = .ok (.iload 5, 2) := by decide +kernel
theorem dX6_greedy_92 : decode cX6_greedy 92 = .ok (.ishl, 1) := by decide +kernel
theorem dX6_greedy_93 : decode cX6_greedy 93 = .ok (.ior, 1) := by decide +kernel
theorem dX6_greedy_94 : decode cX6_greedy 94 = .ok (.istore_n 2, 1) := by decide +kernel
theorem dX6_greedy_95 : decode cX6_greedy 95 = .ok (.iload_n 3, 1) := by decide +kernel
theorem dX6_greedy_96 : decode cX6_greedy 96 = .ok (.iconst 1, 1) := by decide +kernel
theorem dX6_greedy_97 : decode cX6_greedy 97 = .ok (.iload 5, 2) := by decide +kernel
theorem dX6_greedy_99 : decode cX6_greedy 99 = .ok (.ishl, 1) := by decide +kernel
theorem dX6_greedy_100 : decode cX6_greedy 100 = .ok (.ior, 1) := by decide +kernel
theorem dX6_greedy_101 : decode cX6_greedy 101 = .ok (.istore 6, 2) := by decide +kernel
theorem dX6_greedy_103 : decode cX6_greedy 103 = .ok (.aload_n 0, 1) := by decide +kernel
theorem dX6_greedy_104 : decode cX6_greedy 104 = .ok (.iload 6, 2) := by decide +kernel
theorem dX6_greedy_106 : decode cX6_greedy 106 = .ok (.invokevirtual 135, 3) := by decide +kernel
theorem dX6_greedy_109 : decode cX6_greedy 109 = .ok (.ifCond .eq 29, 3) := by decide +kernel
theorem dX6_greedy_112 : decode cX6_greedy 112 = .ok (.aload_n 0, 1) := by decide +kernel
theorem dX6_greedy_113 : decode cX6_greedy 113 = .ok (.iload 6, 2) := by decide +kernel
theorem dX6_greedy_115 : decode cX6_greedy 115 = .ok (.aload_n 0, 1) := by decide +kernel
theorem dX6_greedy_116 : decode cX6_greedy 116 = .ok (.getfield 7, 3) := by decide +kernel
theorem dX6_greedy_119 : decode cX6_greedy 119 = .ok (.iconst 2, 1) := by decide +kernel
theorem dX6_greedy_120 : decode cX6_greedy 120 = .ok (.iaload, 1) := by decide +kernel
theorem dX6_greedy_121 : decode cX6_greedy 121 = .ok (.invokevirtual 138, 3) := by decide +kernel
theorem dX6_greedy_124 : decode cX6_greedy 124 = .ok (.aload_n 0, 1) := by decide +kernel
theorem dX6_greedy_125 : decode cX6_greedy 125 = .ok (.getfield 7, 3) := by decide +kernel
theorem dX6_greedy_128 : decode cX6_greedy 128 = .ok (.iconst 1, 1) := by decide +kernel
theorem dX6_greedy_129 : decode cX6_greedy 129 = .ok (.iaload, 1) := by decide +kernel
theorem dX6_greedy_130 : decode cX6_greedy 130 = .ok (.if_icmp .gt 8, 3) := by decide +kernel
theorem dX6_greedy_133 : decode cX6_greedy 133 = .ok (.iload 6, 2) := by decide +kernel
theorem dX6_greedy_135 : decode cX6_greedy 135 = .ok (.goto 4, 3) := by decide +kernel
theorem dX6_greedy_138 : decode cX6_greedy 138 = .ok (.iload_n 3, 1) := by decide +kernel
theorem dX6_greedy_139 : decode cX6_greedy 139 = .ok (.istore_n 3, 1) := by decide +kernel
theorem dX6_greedy_140 : decode cX6_greedy 140 = .ok (.iinc 4 1, 3) := by decide +kernel
theorem dX6_greedy_143 : decode cX6_greedy 143 = .ok (.goto (-124), 3) := by decide +kernel
theorem dX6_greedy_146 : decode cX6_greedy 146 = .ok (.iload_n 1, 1) := by decide +kernel
theorem dX6_greedy_147 : decode cX6_greedy 147 = .ok (.ifCond .ne 7, 3) := by decide +kernel
theorem dX6_greedy_150 : decode cX6_greedy 150 = .ok (.iload_n 3, 1) := by decide +kernel
theorem dX6_greedy_151 : decode cX6_greedy 151 = .ok (.goto 17, 3) := by decide +kernel
theorem dX6_greedy_154 : decode cX6_greedy 154 = .ok (.aload_n 0, 1) := by decide +kernel
theorem dX6_greedy_155 : decode cX6_greedy 155 = .ok (.iload_n 3, 1) := by decide +kernel
theorem dX6_greedy_156 : decode cX6_greedy 156 = .ok (.aload_n 0, 1) := by decide +kernel
theorem dX6_greedy_157 : decode cX6_greedy 157 = .ok (.getfield 7, 3) := by decide +kernel
theorem dX6_greedy_160 : decode cX6_greedy 160 = .ok (.iconst 3, 1) := by decide +kernel
theorem dX6_greedy_161 : decode cX6_greedy 161 = .ok (.iaload, 1) := by decide +kernel
theorem dX6_greedy_162 : decode cX6_greedy 162 = .ok (.invokevirtual 141, 3) := by decide +kernel
theorem dX6_greedy_165 : decode cX6_greedy 165 = .ok (.ldc 151, 2) := by decide +kernel
theorem dX6_greedy_167 : decode cX6_greedy 167 = .ok (.iadd, 1) := by decide +kernel
theorem dX6_greedy_168 : decode cX6_greedy 168 = .ok (.ireturn, 1) := by decide +kernel
theorem dX6_comesAhead_0 : decode cX6_comesAhead 0 = .ok (.aload_n 0, 1) := by decide +kernel
theorem dX6_comesAhead_1 : decode cX6_comesAhead 1 = .ok (.getfield 25, 3) := by decide +kernel
theorem dX6_comesAhead_4 : decode cX6_comesAhead 4 = .ok (.iload_n 1, 1) := by decide +kernel
theorem dX6_comesAhead_5 : decode cX6_comesAhead 5 = .ok (.iaload, 1) := by decide +kernel
theorem dX6_comesAhead_6 : decode cX6_comesAhead 6 = .ok (.aload_n 0, 1) := by decide +kernel
theorem dX6_comesAhead_7 : decode cX6_comesAhead 7 = .ok (.getfield 25, 3) := by decide +kernel
theorem dX6_comesAhead_10 : decode cX6_comesAhead 10 = .ok (.iload_n 2, 1) := by decide +kernel
theorem dX6_comesAhead_11 : decode cX6_comesAhead 11 = .ok (.iaload, 1) := by decide +kernel
theorem dX6_comesAhead_12 : decode cX6_comesAhead 12 = .ok (.if_icmp .eq 24, 3) := by decide +kernel
theorem dX6_comesAhead_15 : decode cX6_comesAhead 15 = .ok (.aload_n 0, 1) := by decide +kernel
theorem dX6_comesAhead_16 : decode cX6_comesAhead 16 = .ok (.getfield 25, 3) := by decide +kernel
theorem dX6_comesAhead_19 : decode cX6_comesAhead 19 = .ok (.iload_n 1, 1) := by decide +kernel
theorem dX6_comesAhead_20 : decode cX6_comesAhead 20 = .ok (.iaload, 1) := by decide +kernel
theorem dX6_comesAhead_21 : decode cX6_comesAhead 21 = .ok (.aload_n 0, 1) := by decide +kernel
theorem dX6_comesAhead_22 : decode cX6_comesAhead 22 = .ok (.getfield 25, 3) := by decide +kernel
theorem dX6_comesAhead_25 : decode cX6_comesAhead 25 = .ok (.iload_n 2, 1) := by decide +kernel
theorem dX6_comesAhead_26 : decode cX6_comesAhead 26 = .ok (.iaload, 1) := by decide +kernel
theorem dX6_comesAhead_27 : decode cX6_comesAhead 27 = .ok (.if_icmp .le 7, 3) := by decide +kernel
theorem dX6_comesAhead_30 : decode cX6_comesAhead 30 = .ok (.iconst 1, 1) := by decide +kernel
theorem dX6_comesAhead_31 : decode cX6_comesAhead 31 = .ok (.goto 4, 3) := by decide +kernel
theorem dX6_comesAhead_34 : decode cX6_comesAhead 34 = .ok (.iconst 0, 1) := by decide +kernel
theorem dX6_comesAhead_35 : decode cX6_comesAhead 35 = .ok (.ireturn, 1) := by decide +kernel
theorem dX6_comesAhead_36 : decode cX6_comesAhead 36 = .ok (.aload_n 0, 1) := by decide +kernel
theorem dX6_comesAhead_37 : decode cX6_comesAhead 37 = .ok (.getfield 22, 3) := by decide +kernel
theorem dX6_comesAhead_40 : decode cX6_comesAhead 40 = .ok (.iload_n 1, 1) := by decide +kernel
theorem dX6_comesAhead_41 : decode cX6_comesAhead 41 = .ok (.iaload, 1) := by decide +kernel
theorem dX6_comesAhead_42 : decode cX6_comesAhead 42 = .ok (.aload_n 0, 1) := by decide +kernel
theorem dX6_comesAhead_43 : decode cX6_comesAhead 43 = .ok (.getfield 22, 3) := by decide +kernel
theorem dX6_comesAhead_46 : decode cX6_comesAhead 46 = .ok (.iload_n 2, 1) := by decide +kernel
theorem dX6_comesAhead_47 : decode cX6_comesAhead 47 = .ok (.iaload, 1) := by decide +kernel
theorem dX6_comesAhead_48 : decode cX6_comesAhead 48 = .ok (.if_icmp .eq 26, 3) := by decide +kernel
theorem dX6_comesAhead_51 : decode cX6_comesAhead 51 = .ok (.aload_n 0, 1) := by decide +kernel
theorem dX6_comesAhead_52 : decode cX6_comesAhead 52 = .ok (.getfield 22, 3) := by decide +kernel
theorem dX6_comesAhead_55 : decode cX6_comesAhead 55 = .ok (.iload_n 1, 1) := by decide +kernel
theorem dX6_comesAhead_56 : decode cX6_comesAhead 56 = .ok (.iaload, 1) := by decide +kernel
theorem dX6_comesAhead_57 : decode cX6_comesAhead 57 = .ok (.aload_n 0, 1) := by decide +kernel
theorem dX6_comesAhead_58 : decode cX6_comesAhead 58 = .ok (.getfield 22, 3) := by decide +kernel
theorem dX6_comesAhead_61 : decode cX6_comesAhead 61 = .ok (.iload_n 2, 1) := by decide +kernel
theorem dX6_comesAhead_62 : decode cX6_comesAhead 62 = .ok (.iaload, 1) := by decide +kernel
theorem dX6_comesAhead_63 : decode cX6_comesAhead 63 = .ok (.if_icmp .ge 7, 3) := by decide +kernel
theorem dX6_comesAhead_66 : decode cX6_comesAhead 66 = .ok (.iconst 1, 1) := by decide +kernel
theorem dX6_comesAhead_67 : decode cX6_comesAhead 67 = .ok (.goto 17, 3) := by decide +kernel
theorem dX6_comesAhead_70 : decode cX6_comesAhead 70 = .ok (.iconst 0, 1) := by decide +kernel
theorem dX6_comesAhead_71 : decode cX6_comesAhead 71 = .ok (.goto 13, 3) := by decide +kernel
theorem dX6_comesAhead_74 : decode cX6_comesAhead 74 = .ok (.iload_n 1, 1) := by decide +kernel
theorem dX6_comesAhead_75 : decode cX6_comesAhead 75 = .ok (.iload_n 2, 1) := by decide +kernel
theorem dX6_comesAhead_76 : decode cX6_comesAhead 76 = .ok (.if_icmp .ge 7, 3) := by decide +kernel
theorem dX6_comesAhead_79 : decode cX6_comesAhead 79 = .ok (.iconst 1, 1) := by decide +kernel
theorem dX6_comesAhead_80 : decode cX6_comesAhead 80 = .ok (.goto 4, 3) := by decide +kernel
theorem dX6_comesAhead_83 : decode cX6_comesAhead 83 = .ok (.iconst 0, 1) := by decide +kernel
theorem dX6_comesAhead_84 : decode cX6_comesAhead 84 = .ok (.ireturn, 1) := by decide +kernel
theorem dX6_isGood_0 : decode cX6_isGood 0 = .ok (.aload_n 0, 1) := by decide +kernel
theorem dX6_isGood_1 : decode cX6_isGood 1 = .ok (.getfield 28, 3) := by decide +kernel
theorem dX6_isGood_4 : decode cX6_isGood 4 = .ok (.iload_n 1, 1) := by decide +kernel
theorem dX6_isGood_5 : decode cX6_isGood 5 = .ok (.baload, 1) := by decide +kernel
theorem dX6_isGood_6 : decode cX6_isGood 6 = .ok (.ifCond .eq 22, 3) := by decide +kernel
theorem dX6_isGood_9 : decode cX6_isGood 9 = .ok (.aload_n 0, 1) := by decide +kernel
theorem dX6_isGood_10 : decode cX6_isGood 10 = .ok (.getfield 22, 3) := by decide +kernel
theorem dX6_isGood_13 : decode cX6_isGood 13 = .ok (.iload_n 1, 1) := by decide +kernel
theorem dX6_isGood_14 : decode cX6_isGood 14 = .ok (.iaload, 1) := by decide +kernel
theorem dX6_isGood_15 : decode cX6_isGood 15 = .ok (.aload_n 0, 1) := by decide +kernel
theorem dX6_isGood_16 : decode cX6_isGood 16 = .ok (.getfield 7, 3) := by decide +kernel
theorem dX6_isGood_19 : decode cX6_isGood 19 = .ok (.iconst 1, 1) := by decide +kernel
theorem dX6_isGood_20 : decode cX6_isGood 20 = .ok (.iaload, 1) := by decide +kernel
theorem dX6_isGood_21 : decode cX6_isGood 21 = .ok (.if_icmp .gt 7, 3) := by decide +kernel
theorem dX6_isGood_24 : decode cX6_isGood 24 = .ok (.iconst 1, 1) := by decide +kernel
theorem dX6_isGood_25 : decode cX6_isGood 25 = .ok (.goto 4, 3) := by decide +kernel
theorem dX6_isGood_28 : decode cX6_isGood 28 = .ok (.iconst 0, 1) := by decide +kernel
theorem dX6_isGood_29 : decode cX6_isGood 29 = .ok (.ireturn, 1) := by decide +kernel
set_option maxRecDepth 20000 in
theorem ggX6_forced_X6_isChoice : GoodIn wsX6_forced wsX6_isChoice := goodIn_r _ [7, 8, 9, 10, 6, 11, 61, 62, 63, 64, 65, 66, 67, 68, 69, 70, 71, 72, 73, 74, 75, 76, 77, 78, 79, 80, 81] (by decide +kernel) (by decide +kernel)
set_option maxRecDepth 20000 in
theorem gX6_forced_X6_isChoice : GoodIn wsX6_forced (wsV RX6 148 RX6 yX6_isChoice wsX6_isChoice) := goodIn_app (goodIn_of _ (by decide +kernel)) ggX6_forced_X6_isChoice
set_option maxRecDepth 20000 in
theorem ggX6_forced_X6_in : GoodIn wsX6_forced wsX6_in := goodIn_r _ [11] (by decide +kernel) (by decide +kernel)
set_option maxRecDepth 20000 in
theorem gX6_forced_X6_in : GoodIn wsX6_forced (va_wsS RX6 53 yX6_in wsX6_in) := goodIn_app (goodIn_of _ (by decide +kernel)) ggX6_forced_X6_in
set_option maxRecDepth 20000 in
theorem ggX6_forced_X6_layOwnTables : GoodIn wsX6_forced wsX6_layOwnTables := goodIn_r _ [15, 8, 16, 17, 18, 6, 19, 20, 21, 1, 22, 23, 24, 25, 26, 27, 28, 29, 30, 31, 32, 33, 34, 35, 36, 37, 38, 39, 40, 41, 42, 43, 44, 45, 46, 47, 48, 49, 50, 51, 52, 61, 62, 63, 64, 65, 66, 67, 68, 69, 70, 71, 72, 73, 74, 75, 76, 77, 78, 79, 80, 81] (by decide +kernel) (by decide +kernel)
set_option maxRecDepth 20000 in
theorem gX6_forced_X6_layOwnTables : GoodIn wsX6_forced (wsV RX6 161 RX6 yX6_layOwnTables wsX6_layOwnTables) := goodIn_app (goodIn_of _ (by decide +kernel)) ggX6_forced_X6_layOwnTables
set_option maxRecDepth 20000 in
theorem ggX6_forced_X6_sets : GoodIn wsX6_forced wsX6_sets := goodIn_r _ [25, 8, 61, 62, 63, 64, 65, 66, 67, 68, 69, 70, 71, 72, 73, 74, 75, 76, 77, 78, 79, 80, 81] (by decide +kernel) (by decide +kernel)
set_option maxRecDepth 20000 in
theorem gX6_forced_X6_sets : GoodIn wsX6_forced (wsV RX6 132 RX6 yX6_sets wsX6_sets) := goodIn_app (goodIn_of _ (by decide +kernel)) ggX6_forced_X6_sets
set_option maxRecDepth 20000 in
theorem ggX6_forced_X6_isGood : GoodIn wsX6_forced wsX6_isGood := goodIn_r _ [56, 20, 21, 8, 61, 62, 63, 64, 65, 66, 67, 68, 69, 70, 71, 72, 73, 74, 75, 76, 77, 78, 79, 80, 81] (by decide +kernel) (by decide +kernel)
set_option maxRecDepth 20000 in
theorem gX6_forced_X6_isGood : GoodIn wsX6_forced (wsV RX6 173 RX6 yX6_isGood wsX6_isGood) := goodIn_app (goodIn_of _ (by decide +kernel)) ggX6_forced_X6_isGood
set_option maxRecDepth 20000 in
theorem ggX6_forced_X6_comesAhead : GoodIn wsX6_forced wsX6_comesAhead := goodIn_r _ [60, 1, 21, 61, 62, 63, 64, 65, 66, 67, 68, 69, 70, 71, 72, 73, 74, 75, 76, 77, 78, 79, 80, 81] (by decide +kernel) (by decide +kernel)
set_option maxRecDepth 20000 in
theorem gX6_forced_X6_comesAhead : GoodIn wsX6_forced (wsV RX6 176 RX6 yX6_comesAhead wsX6_comesAhead) := goodIn_app (goodIn_of _ (by decide +kernel)) ggX6_forced_X6_comesAhead
theorem dX6_forced_0 : decode cX6_forced 0 = .ok (.aload_n 0, 1) := by decide +kernel
theorem dX6_forced_1 : decode cX6_forced 1 = .ok (.iload_n 1, 1) := by decide +kernel
theorem dX6_forced_2 : decode cX6_forced 2 = .ok (.invokevirtual 148, 3) := by decide +kernel
theorem dX6_forced_5 : decode cX6_forced 5 = .ok (.ifCond .eq 11, 3) := by decide +kernel
theorem dX6_forced_8 : decode cX6_forced 8 = .ok (.aload_n 0, 1) := by decide +kernel
theorem dX6_forced_9 : decode cX6_forced 9 = .ok (.iload_n 2, 1) := by decide +kernel
theorem dX6_forced_10 : decode cX6_forced 10 = .ok (.invokevirtual 148, 3) := by decide +kernel
theorem dX6_forced_13 : decode cX6_forced 13 = .ok (.ifCond .ne 5, 3) := by decide +kernel
theorem dX6_forced_16 : decode cX6_forced 16 = .ok (.iconst (-1), 1) := by decide +kernel
theorem dX6_forced_17 : decode cX6_forced 17 = .ok (.ireturn, 1) := by decide +kernel
theorem dX6_forced_18 : decode cX6_forced 18 = .ok (.iload_n 3, 1) := by decide +kernel
theorem dX6_forced_19 : decode cX6_forced 19 = .ok (.iconst 0, 1) := by decide +kernel
theorem dX6_forced_20 : decode cX6_forced 20 = .ok (.iconst 1, 1) := by decide +kernel
theorem dX6_forced_21 : decode cX6_forced 21 = .ok (.invokestatic 53, 3) := by decide +kernel
theorem dX6_forced_24 : decode cX6_forced 24 = .ok (.ifCond .ne 6, 3) := by decide +kernel
theorem dX6_forced_27 : decode cX6_forced 27 = .ok (.bipush (-2), 2) := by decide +kernel
theorem dX6_forced_29 : decode cX6_forced 29 = .ok (.ireturn, 1) := by decide +kernel
theorem dX6_forced_30 : decode cX6_forced 30 = .ok (.iload_n 1, 1) := by decide +kernel
theorem dX6_forced_31 : decode cX6_forced 31 = .ok (.iload_n 2, 1) := by decide +kernel
theorem dX6_forced_32 : decode cX6_forced 32 = .ok (.iand, 1) := by decide +kernel
theorem dX6_forced_33 : decode cX6_forced 33 = .ok (.ifCond .eq 6, 3) := by decide +kernel
theorem dX6_forced_36 : decode cX6_forced 36 = .ok (.bipush (-5), 2) := by decide +kernel
theorem dX6_forced_38 : decode cX6_forced 38 = .ok (.ireturn, 1) := by decide +kernel
theorem dX6_forced_39 : decode cX6_forced 39 = .ok (.aload_n 0, 1) := by decide +kernel
theorem dX6_forced_40 : decode cX6_forced 40 = .ok (.invokevirtual 161, 3) := by decide +kernel
theorem dX6_forced_43 : decode cX6_forced 43 = .ok (.bipush (-6), 2) := by decide +kernel
theorem dX6_forced_45 : decode cX6_forced 45 = .ok (.istore 4, 2) := by decide +kernel
theorem dX6_forced_47 : decode cX6_forced 47 = .ok (.iconst 0, 1) := by decide +kernel
theorem dX6_forced_48 : decode cX6_forced 48 = .ok (.istore 5, 2) := by decide +kernel
theorem dX6_forced_50 : decode cX6_forced 50 = .ok (.iload 5, 2) := by decide +kernel
theorem dX6_forced_52 : decode cX6_forced 52 = .ok (.aload_n 0, 1) := by decide +kernel
theorem dX6_forced_53 : decode cX6_forced 53 = .ok (.invokevirtual 132, 3) := by decide +kernel
theorem dX6_forced_56 : decode cX6_forced 56 = .ok (.if_icmp .ge 54, 3) := by decide +kernel
theorem dX6_forced_59 : decode cX6_forced 59 = .ok (.iload_n 1, 1) := by decide +kernel
theorem dX6_forced_60 : decode cX6_forced 60 = .ok (.iload 5, 2) := by decide +kernel
theorem dX6_forced_62 : decode cX6_forced 62 = .ok (.iconst (-1), 1) := by decide +kernel
theorem dX6_forced_63 : decode cX6_forced 63 = .ok (.ixor, 1) := by decide +kernel
theorem dX6_forced_64 : decode cX6_forced 64 = .ok (.iand, 1) := by decide +kernel
theorem dX6_forced_65 : decode cX6_forced 65 = .ok (.ifCond .ne 39, 3) := by decide +kernel
theorem dX6_forced_68 : decode cX6_forced 68 = .ok (.iload_n 2, 1) := by decide +kernel
theorem dX6_forced_69 : decode cX6_forced 69 = .ok (.iload 5, 2) := by decide +kernel
theorem dX6_forced_71 : decode cX6_forced 71 = .ok (.iand, 1) := by decide +kernel
theorem dX6_forced_72 : decode cX6_forced 72 = .ok (.ifCond .ne 32, 3) := by decide +kernel
theorem dX6_forced_75 : decode cX6_forced 75 = .ok (.aload_n 0, 1) := by decide +kernel
theorem dX6_forced_76 : decode cX6_forced 76 = .ok (.iload 5, 2) := by decide +kernel
theorem dX6_forced_78 : decode cX6_forced 78 = .ok (.invokevirtual 173, 3) := by decide +kernel
theorem dX6_forced_81 : decode cX6_forced 81 = .ok (.ifCond .eq 23, 3) := by decide +kernel
theorem dX6_forced_84 : decode cX6_forced 84 = .ok (.iload 4, 2) := by decide +kernel
theorem dX6_forced_86 : decode cX6_forced 86 = .ok (.ifCond .lt 14, 3) := by decide +kernel
theorem dX6_forced_89 : decode cX6_forced 89 = .ok (.aload_n 0, 1) := by decide +kernel
theorem dX6_forced_90 : decode cX6_forced 90 = .ok (.iload 5, 2) := by decide +kernel
theorem dX6_forced_92 : decode cX6_forced 92 = .ok (.iload 4, 2) := by decide +kernel
theorem dX6_forced_94 : decode cX6_forced 94 = .ok (.invokevirtual 176, 3) := by decide +kernel
theorem dX6_forced_97 : decode cX6_forced 97 = .ok (.ifCond .eq 7, 3) := by decide +kernel
theorem dX6_forced_100 : decode cX6_forced 100 = .ok (.iload 5, 2) := by decide +kernel
theorem dX6_forced_102 : decode cX6_forced 102 = .ok (.istore 4, 2) := by decide +kernel
theorem dX6_forced_104 : decode cX6_forced 104 = .ok (.iinc 5 1, 3) := by decide +kernel
theorem dX6_forced_107 : decode cX6_forced 107 = .ok (.goto (-57), 3) := by decide +kernel
theorem dX6_forced_110 : decode cX6_forced 110 = .ok (.iload 4, 2) := by decide +kernel
theorem dX6_forced_112 : decode cX6_forced 112 = .ok (.ifCond .lt 7, 3) := by decide +kernel
theorem dX6_forced_115 : decode cX6_forced 115 = .ok (.iload_n 3, 1) := by decide +kernel
theorem dX6_forced_116 : decode cX6_forced 116 = .ok (.ifCond .ne 8, 3) := by decide +kernel
theorem dX6_forced_119 : decode cX6_forced 119 = .ok (.iload 4, 2) := by decide +kernel
theorem dX6_forced_121 : decode cX6_forced 121 = .ok (.goto 13, 3) := by decide +kernel
theorem dX6_forced_124 : decode cX6_forced 124 = .ok (.aload_n 0, 1) := by decide +kernel
theorem dX6_forced_125 : decode cX6_forced 125 = .ok (.getfield 25, 3) := by decide +kernel
theorem dX6_forced_128 : decode cX6_forced 128 = .ok (.iload 4, 2) := by decide +kernel
theorem dX6_forced_130 : decode cX6_forced 130 = .ok (.iaload, 1) := by decide +kernel
theorem dX6_forced_131 : decode cX6_forced 131 = .ok (.ldc 151, 2) := by decide +kernel
theorem dX6_forced_133 : decode cX6_forced 133 = .ok (.iadd, 1) := by decide +kernel
theorem dX6_forced_134 : decode cX6_forced 134 = .ok (.ireturn, 1) := by decide +kernel
set_option maxRecDepth 20000 in
theorem ggX6_nextStep_X6_sets : GoodIn wsX6_nextStep wsX6_sets := goodIn_r _ [8, 9, 10, 11, 12, 13, 14, 15, 16, 17, 18, 19, 20, 21, 22, 23, 24, 25, 26, 27, 28, 29, 30] (by decide +kernel) (by decide +kernel)
set_option maxRecDepth 20000 in
theorem gX6_nextStep_X6_sets : GoodIn wsX6_nextStep (wsV RX6 132 RX6 yX6_sets wsX6_sets) := goodIn_app (goodIn_of _ (by decide +kernel)) ggX6_nextStep_X6_sets
theorem dX6_nextStep_0 : decode cX6_nextStep 0 = .ok (.bipush (-6), 2) := by decide +kernel
theorem dX6_nextStep_2 : decode cX6_nextStep 2 = .ok (.istore_n 2, 1) := by decide +kernel
theorem dX6_nextStep_3 : decode cX6_nextStep 3 = .ok (.iconst 0, 1) := by decide +kernel
theorem dX6_nextStep_4 : decode cX6_nextStep 4 = .ok (.istore_n 3, 1) := by decide +kernel
theorem dX6_nextStep_5 : decode cX6_nextStep 5 = .ok (.iload_n 3, 1) := by decide +kernel
theorem dX6_nextStep_6 : decode cX6_nextStep 6 = .ok (.aload_n 0, 1) := by decide +kernel
theorem dX6_nextStep_7 : decode cX6_nextStep 7 = .ok (.invokevirtual 132, 3) := by decide +kernel
theorem dX6_nextStep_10 : decode cX6_nextStep 10 = .ok (.if_icmp .ge 61, 3) := by decide +kernel
theorem dX6_nextStep_13 : decode cX6_nextStep 13 = .ok (.aload_n 0, 1) := by decide +kernel
theorem dX6_nextStep_14 : decode cX6_nextStep 14 = .ok (.getfield 28, 3) := by decide +kernel
theorem dX6_nextStep_17 : decode cX6_nextStep 17 = .ok (.iload_n 3, 1) := by decide +kernel
theorem dX6_nextStep_18 : decode cX6_nextStep 18 = .ok (.baload, 1) := by decide +kernel
theorem dX6_nextStep_19 : decode cX6_nextStep 19 = .ok (.ifCond .eq 46, 3) := by decide +kernel
theorem dX6_nextStep_22 : decode cX6_nextStep 22 = .ok (.aload_n 0, 1) := by decide +kernel
theorem dX6_nextStep_23 : decode cX6_nextStep 23 = .ok (.getfield 25, 3) := by decide +kernel
theorem dX6_nextStep_26 : decode cX6_nextStep 26 = .ok (.iload_n 3, 1) := by decide +kernel
theorem dX6_nextStep_27 : decode cX6_nextStep 27 = .ok (.iaload, 1) := by decide +kernel
theorem dX6_nextStep_28 : decode cX6_nextStep 28 = .ok (.iload_n 1, 1) := by decide +kernel
theorem dX6_nextStep_29 : decode cX6_nextStep 29 = .ok (.if_icmp .le 36, 3) := by decide +kernel
theorem dX6_nextStep_32 : decode cX6_nextStep 32 = .ok (.aload_n 0, 1) := by decide +kernel
theorem dX6_nextStep_33 : decode cX6_nextStep 33 = .ok (.getfield 22, 3) := by decide +kernel
theorem dX6_nextStep_36 : decode cX6_nextStep 36 = .ok (.iload_n 3, 1) := by decide +kernel
theorem dX6_nextStep_37 : decode cX6_nextStep 37 = .ok (.iaload, 1) := by decide +kernel
theorem dX6_nextStep_38 : decode cX6_nextStep 38 = .ok (.sipush 9999, 3) := by decide +kernel
theorem dX6_nextStep_41 : decode cX6_nextStep 41 = .ok (.if_icmp .gt 24, 3) := by decide +kernel
theorem dX6_nextStep_44 : decode cX6_nextStep 44 = .ok (.iload_n 2, 1) := by decide +kernel
theorem dX6_nextStep_45 : decode cX6_nextStep 45 = .ok (.ifCond .lt 13, 3) := by decide +kernel
theorem dX6_nextStep_48 : decode cX6_nextStep 48 = .ok (.aload_n 0, 1) := by decide +kernel
theorem dX6_nextStep_49 : decode cX6_nextStep 49 = .ok (.getfield 22, 3) := by decide +kernel
theorem dX6_nextStep_52 : decode cX6_nextStep 52 = .ok (.iload_n 3, 1) := by decide +kernel
theorem dX6_nextStep_53 : decode cX6_nextStep 53 = .ok (.iaload, 1) := by decide +kernel
theorem dX6_nextStep_54 : decode cX6_nextStep 54 = .ok (.iload_n 2, 1) := by decide +kernel
theorem dX6_nextStep_55 : decode cX6_nextStep 55 = .ok (.if_icmp .ge 10, 3) := by decide +kernel
theorem dX6_nextStep_58 : decode cX6_nextStep 58 = .ok (.aload_n 0, 1) := by decide +kernel
theorem dX6_nextStep_59 : decode cX6_nextStep 59 = .ok (.getfield 22, 3) := by decide +kernel
theorem dX6_nextStep_62 : decode cX6_nextStep 62 = .ok (.iload_n 3, 1) := by decide +kernel
theorem dX6_nextStep_63 : decode cX6_nextStep 63 = .ok (.iaload, 1) := by decide +kernel
theorem dX6_nextStep_64 : decode cX6_nextStep 64 = .ok (.istore_n 2, 1) := by decide +kernel
theorem dX6_nextStep_65 : decode cX6_nextStep 65 = .ok (.iinc 3 1, 3) := by decide +kernel
theorem dX6_nextStep_68 : decode cX6_nextStep 68 = .ok (.goto (-63), 3) := by decide +kernel
theorem dX6_nextStep_71 : decode cX6_nextStep 71 = .ok (.iload_n 2, 1) := by decide +kernel
theorem dX6_nextStep_72 : decode cX6_nextStep 72 = .ok (.ireturn, 1) := by decide +kernel
set_option maxRecDepth 20000 in
theorem ggX6_frontier_X6_in : GoodIn wsX6_frontier wsX6_in := goodIn_r _ [6] (by decide +kernel) (by decide +kernel)
set_option maxRecDepth 20000 in
theorem gX6_frontier_X6_in : GoodIn wsX6_frontier (va_wsS RX6 53 yX6_in wsX6_in) := goodIn_app (goodIn_of _ (by decide +kernel)) ggX6_frontier_X6_in
set_option maxRecDepth 20000 in
theorem ggX6_frontier_X6_layOwnTables : GoodIn wsX6_frontier wsX6_layOwnTables := goodIn_r _ [10, 11, 12, 13, 14, 5, 15, 16, 17, 1, 18, 19, 20, 21, 22, 23, 24, 25, 26, 27, 28, 29, 30, 31, 32, 33, 34, 35, 36, 37, 38, 39, 40, 41, 42, 43, 44, 45, 46, 47, 48, 57, 58, 59, 60, 61, 62, 63, 64, 65, 66, 67, 68, 69, 70, 71, 72, 73, 74, 75, 76, 77] (by decide +kernel) (by decide +kernel)
set_option maxRecDepth 20000 in
theorem gX6_frontier_X6_layOwnTables : GoodIn wsX6_frontier (wsV RX6 161 RX6 yX6_layOwnTables wsX6_layOwnTables) := goodIn_app (goodIn_of _ (by decide +kernel)) ggX6_frontier_X6_layOwnTables
set_option maxRecDepth 20000 in
theorem ggX6_frontier_X6_bestBy : GoodIn wsX6_frontier wsX6_bestBy := goodIn_r _ [52, 16, 17, 1, 18, 19, 20, 5, 21, 11, 57, 58, 59, 60, 61, 62, 63, 64, 65, 66, 67, 68, 69, 70, 71, 72, 73, 74, 75, 76, 77] (by decide +kernel) (by decide +kernel)
set_option maxRecDepth 20000 in
theorem gX6_frontier_X6_bestBy : GoodIn wsX6_frontier (wsV RX6 158 RX6 yX6_bestBy wsX6_bestBy) := goodIn_app (goodIn_of _ (by decide +kernel)) ggX6_frontier_X6_bestBy
set_option maxRecDepth 20000 in
theorem ggX6_frontier_X6_nextStep : GoodIn wsX6_frontier wsX6_nextStep := goodIn_r _ [56, 16, 1, 17, 18, 19, 20, 5, 21, 11, 57, 58, 59, 60, 61, 62, 63, 64, 65, 66, 67, 68, 69, 70, 71, 72, 73, 74, 75, 76, 77] (by decide +kernel) (by decide +kernel)
set_option maxRecDepth 20000 in
theorem gX6_frontier_X6_nextStep : GoodIn wsX6_frontier (wsV RX6 179 RX6 yX6_nextStep wsX6_nextStep) := goodIn_app (goodIn_of _ (by decide +kernel)) ggX6_frontier_X6_nextStep
theorem dX6_frontier_0 : decode cX6_frontier 0 = .ok (.iload_n 2, 1) := by decide +kernel
theorem dX6_frontier_1 : decode cX6_frontier 1 = .ok (.iconst 0, 1) := by decide +kernel
theorem dX6_frontier_2 : decode cX6_frontier 2 = .ok (.iconst 2, 1) := by decide +kernel
theorem dX6_frontier_3 : decode cX6_frontier 3 = .ok (.invokestatic 53, 3) := by decide +kernel
theorem dX6_frontier_6 : decode cX6_frontier 6 = .ok (.ifCond .ne 6, 3) := by decide +kernel
theorem dX6_frontier_9 : decode cX6_frontier 9 = .ok (.bipush (-2), 2) := by decide +kernel
theorem dX6_frontier_11 : decode cX6_frontier 11 = .ok (.ireturn, 1) := by decide +kernel
theorem dX6_frontier_12 : decode cX6_frontier 12 = .ok (.aload_n 0, 1) := by decide +kernel
theorem dX6_frontier_13 : decode cX6_frontier 13 = .ok (.invokevirtual 161, 3) := by decide +kernel
theorem dX6_frontier_16 : decode cX6_frontier 16 = .ok (.iconst 0, 1) := by decide +kernel
theorem dX6_frontier_17 : decode cX6_frontier 17 = .ok (.istore_n 3, 1) := by decide +kernel
theorem dX6_frontier_18 : decode cX6_frontier 18 = .ok (.iconst 0, 1) := by decide +kernel
theorem dX6_frontier_19 : decode cX6_frontier 19 = .ok (.istore 4, 2) := by decide +kernel
theorem dX6_frontier_21 : decode cX6_frontier 21 = .ok (.iload 4, 2) := by decide +kernel
theorem dX6_frontier_23 : decode cX6_frontier 23 = .ok (.ifCond .lt 31, 3) := by decide +kernel
theorem dX6_frontier_26 : decode cX6_frontier 26 = .ok (.iload_n 3, 1) := by decide +kernel
theorem dX6_frontier_27 : decode cX6_frontier 27 = .ok (.iload_n 1, 1) := by decide +kernel
theorem dX6_frontier_28 : decode cX6_frontier 28 = .ok (.if_icmp .eq 26, 3) := by decide +kernel
theorem dX6_frontier_31 : decode cX6_frontier 31 = .ok (.aload_n 0, 1) := by decide +kernel
theorem dX6_frontier_32 : decode cX6_frontier 32 = .ok (.aload_n 0, 1) := by decide +kernel
theorem dX6_frontier_33 : decode cX6_frontier 33 = .ok (.getfield 25, 3) := by decide +kernel
theorem dX6_frontier_36 : decode cX6_frontier 36 = .ok (.aload_n 0, 1) := by decide +kernel
theorem dX6_frontier_37 : decode cX6_frontier 37 = .ok (.iload 4, 2) := by decide +kernel
theorem dX6_frontier_39 : decode cX6_frontier 39 = .ok (.invokevirtual 158, 3) := by decide +kernel
theorem dX6_frontier_42 : decode cX6_frontier 42 = .ok (.iaload, 1) := by decide +kernel
theorem dX6_frontier_43 : decode cX6_frontier 43 = .ok (.invokevirtual 179, 3) := by decide +kernel
theorem dX6_frontier_46 : decode cX6_frontier 46 = .ok (.istore 4, 2) := by decide +kernel
theorem dX6_frontier_48 : decode cX6_frontier 48 = .ok (.iinc 3 1, 3) := by decide +kernel
theorem dX6_frontier_51 : decode cX6_frontier 51 = .ok (.goto (-30), 3) := by decide +kernel
theorem dX6_frontier_54 : decode cX6_frontier 54 = .ok (.iload 4, 2) := by decide +kernel
theorem dX6_frontier_56 : decode cX6_frontier 56 = .ok (.ifCond .ge 15, 3) := by decide +kernel
theorem dX6_frontier_59 : decode cX6_frontier 59 = .ok (.iload_n 1, 1) := by decide +kernel
theorem dX6_frontier_60 : decode cX6_frontier 60 = .ok (.iconst (-1), 1) := by decide +kernel
theorem dX6_frontier_61 : decode cX6_frontier 61 = .ok (.if_icmp .ne 7, 3) := by decide +kernel
theorem dX6_frontier_64 : decode cX6_frontier 64 = .ok (.iload_n 3, 1) := by decide +kernel
theorem dX6_frontier_65 : decode cX6_frontier 65 = .ok (.goto 5, 3) := by decide +kernel
theorem dX6_frontier_68 : decode cX6_frontier 68 = .ok (.bipush (-6), 2) := by decide +kernel
theorem dX6_frontier_70 : decode cX6_frontier 70 = .ok (.ireturn, 1) := by decide +kernel
theorem dX6_frontier_71 : decode cX6_frontier 71 = .ok (.iload_n 2, 1) := by decide +kernel
theorem dX6_frontier_72 : decode cX6_frontier 72 = .ok (.ifCond .ne 8, 3) := by decide +kernel
theorem dX6_frontier_75 : decode cX6_frontier 75 = .ok (.iload 4, 2) := by decide +kernel
theorem dX6_frontier_77 : decode cX6_frontier 77 = .ok (.goto 31, 3) := by decide +kernel
theorem dX6_frontier_80 : decode cX6_frontier 80 = .ok (.iload_n 2, 1) := by decide +kernel
theorem dX6_frontier_81 : decode cX6_frontier 81 = .ok (.iconst 1, 1) := by decide +kernel
theorem dX6_frontier_82 : decode cX6_frontier 82 = .ok (.if_icmp .ne 20, 3) := by decide +kernel
theorem dX6_frontier_85 : decode cX6_frontier 85 = .ok (.aload_n 0, 1) := by decide +kernel
theorem dX6_frontier_86 : decode cX6_frontier 86 = .ok (.getfield 25, 3) := by decide +kernel
theorem dX6_frontier_89 : decode cX6_frontier 89 = .ok (.aload_n 0, 1) := by decide +kernel
theorem dX6_frontier_90 : decode cX6_frontier 90 = .ok (.iload 4, 2) := by decide +kernel
theorem dX6_frontier_92 : decode cX6_frontier 92 = .ok (.invokevirtual 158, 3) := by decide +kernel
theorem dX6_frontier_95 : decode cX6_frontier 95 = .ok (.iaload, 1) := by decide +kernel
theorem dX6_frontier_96 : decode cX6_frontier 96 = .ok (.ldc 151, 2) := by decide +kernel
theorem dX6_frontier_98 : decode cX6_frontier 98 = .ok (.iadd, 1) := by decide +kernel
theorem dX6_frontier_99 : decode cX6_frontier 99 = .ok (.goto 9, 3) := by decide +kernel
theorem dX6_frontier_102 : decode cX6_frontier 102 = .ok (.aload_n 0, 1) := by decide +kernel
theorem dX6_frontier_103 : decode cX6_frontier 103 = .ok (.iload 4, 2) := by decide +kernel
theorem dX6_frontier_105 : decode cX6_frontier 105 = .ok (.invokevirtual 158, 3) := by decide +kernel
theorem dX6_frontier_108 : decode cX6_frontier 108 = .ok (.ireturn, 1) := by decide +kernel
set_option maxRecDepth 20000 in
theorem ggX6_firstNear_X6_has : GoodIn wsX6_firstNear wsX6_has := goodIn_r _ [5] (by decide +kernel) (by decide +kernel)
set_option maxRecDepth 20000 in
theorem gX6_firstNear_X6_has : GoodIn wsX6_firstNear (va_wsS RX6 83 yX6_has wsX6_has) := goodIn_app (goodIn_of _ (by decide +kernel)) ggX6_firstNear_X6_has
set_option maxRecDepth 20000 in
theorem ggX6_firstNear_X6_isGood : GoodIn wsX6_firstNear wsX6_isGood := goodIn_r _ [9, 10, 11, 1, 17, 18, 19, 20, 21, 22, 23, 24, 25, 26, 27, 28, 29, 30, 31, 32, 33, 34, 35, 36, 37] (by decide +kernel) (by decide +kernel)
set_option maxRecDepth 20000 in
theorem gX6_firstNear_X6_isGood : GoodIn wsX6_firstNear (wsV RX6 173 RX6 yX6_isGood wsX6_isGood) := goodIn_app (goodIn_of _ (by decide +kernel)) ggX6_firstNear_X6_isGood
set_option maxRecDepth 20000 in
theorem ggX6_firstNear_X6_comesAhead : GoodIn wsX6_firstNear wsX6_comesAhead := goodIn_r _ [15, 16, 11, 17, 18, 19, 20, 21, 22, 23, 24, 25, 26, 27, 28, 29, 30, 31, 32, 33, 34, 35, 36, 37] (by decide +kernel) (by decide +kernel)
set_option maxRecDepth 20000 in
theorem gX6_firstNear_X6_comesAhead : GoodIn wsX6_firstNear (wsV RX6 176 RX6 yX6_comesAhead wsX6_comesAhead) := goodIn_app (goodIn_of _ (by decide +kernel)) ggX6_firstNear_X6_comesAhead
theorem dX6_firstNear_0 : decode cX6_firstNear 0 = .ok (.iload_n 1, 1) := by decide +kernel
theorem dX6_firstNear_1 : decode cX6_firstNear 1 = .ok (.istore_n 2, 1) := by decide +kernel
theorem dX6_firstNear_2 : decode cX6_firstNear 2 = .ok (.iconst 0, 1) := by decide +kernel
theorem dX6_firstNear_3 : decode cX6_firstNear 3 = .ok (.istore_n 3, 1) := by decide +kernel
theorem dX6_firstNear_4 : decode cX6_firstNear 4 = .ok (.iload_n 3, 1) := by decide +kernel
theorem dX6_firstNear_5 : decode cX6_firstNear 5 = .ok (.aload_n 0, 1) := by decide +kernel
theorem dX6_firstNear_6 : decode cX6_firstNear 6 = .ok (.getfield 7, 3) := by decide +kernel
theorem dX6_firstNear_9 : decode cX6_firstNear 9 = .ok (.iconst 0, 1) := by decide +kernel
theorem dX6_firstNear_10 : decode cX6_firstNear 10 = .ok (.iaload, 1) := by decide +kernel
theorem dX6_firstNear_11 : decode cX6_firstNear 11 = .ok (.if_icmp .ge 109, 3) := by decide +kernel
theorem dX6_firstNear_14 : decode cX6_firstNear 14 = .ok (.iload_n 3, 1) := by decide +kernel
theorem dX6_firstNear_15 : decode cX6_firstNear 15 = .ok (.istore 4, 2) := by decide +kernel
theorem dX6_firstNear_17 : decode cX6_firstNear 17 = .ok (.iload 4, 2) := by decide +kernel
theorem dX6_firstNear_19 : decode cX6_firstNear 19 = .ok (.aload_n 0, 1) := by decide +kernel
theorem dX6_firstNear_20 : decode cX6_firstNear 20 = .ok (.getfield 7, 3) := by decide +kernel
theorem dX6_firstNear_23 : decode cX6_firstNear 23 = .ok (.iconst 0, 1) := by decide +kernel
theorem dX6_firstNear_24 : decode cX6_firstNear 24 = .ok (.iaload, 1) := by decide +kernel
theorem dX6_firstNear_25 : decode cX6_firstNear 25 = .ok (.if_icmp .ge 89, 3) := by decide +kernel
theorem dX6_firstNear_28 : decode cX6_firstNear 28 = .ok (.iload_n 1, 1) := by decide +kernel
theorem dX6_firstNear_29 : decode cX6_firstNear 29 = .ok (.iconst 1, 1) := by decide +kernel
theorem dX6_firstNear_30 : decode cX6_firstNear 30 = .ok (.iload_n 3, 1) := by decide +kernel
theorem dX6_firstNear_31 : decode cX6_firstNear 31 = .ok (.ishl, 1) := by decide +kernel
theorem dX6_firstNear_32 : decode cX6_firstNear 32 = .ok (.ixor, 1) := by decide +kernel
theorem dX6_firstNear_33 : decode cX6_firstNear 33 = .ok (.iload 4, 2) := by decide +kernel
theorem dX6_firstNear_35 : decode cX6_firstNear 35 = .ok (.iload_n 3, 1) := by decide +kernel
theorem dX6_firstNear_36 : decode cX6_firstNear 36 = .ok (.if_icmp .ne 7, 3) := by decide +kernel
theorem dX6_firstNear_39 : decode cX6_firstNear 39 = .ok (.iconst 0, 1) := by decide +kernel
theorem dX6_firstNear_40 : decode cX6_firstNear 40 = .ok (.goto 7, 3) := by decide +kernel
theorem dX6_firstNear_43 : decode cX6_firstNear 43 = .ok (.iconst 1, 1) := by decide +kernel
theorem dX6_firstNear_44 : decode cX6_firstNear 44 = .ok (.iload 4, 2) := by decide +kernel
theorem dX6_firstNear_46 : decode cX6_firstNear 46 = .ok (.ishl, 1) := by decide +kernel
theorem dX6_firstNear_47 : decode cX6_firstNear 47 = .ok (.ixor, 1) := by decide +kernel
theorem dX6_firstNear_48 : decode cX6_firstNear 48 = .ok (.istore 5, 2) := by decide +kernel
theorem dX6_firstNear_50 : decode cX6_firstNear 50 = .ok (.iload 4, 2) := by decide +kernel
theorem dX6_firstNear_52 : decode cX6_firstNear 52 = .ok (.iload_n 3, 1) := by decide +kernel
theorem dX6_firstNear_53 : decode cX6_firstNear 53 = .ok (.if_icmp .eq 17, 3) := by decide +kernel
theorem dX6_firstNear_56 : decode cX6_firstNear 56 = .ok (.iload_n 1, 1) := by decide +kernel
theorem dX6_firstNear_57 : decode cX6_firstNear 57 = .ok (.iload_n 3, 1) := by decide +kernel
theorem dX6_firstNear_58 : decode cX6_firstNear 58 = .ok (.invokestatic 83, 3) := by decide +kernel
theorem dX6_firstNear_61 : decode cX6_firstNear 61 = .ok (.iload_n 1, 1) := by decide +kernel
theorem dX6_firstNear_62 : decode cX6_firstNear 62 = .ok (.iload 4, 2) := by decide +kernel
theorem dX6_firstNear_64 : decode cX6_firstNear 64 = .ok (.invokestatic 83, 3) := by decide +kernel
theorem dX6_firstNear_67 : decode cX6_firstNear 67 = .ok (.if_icmp .eq 7, 3) := by decide +kernel
theorem dX6_firstNear_70 : decode cX6_firstNear 70 = .ok (.iconst 1, 1) := by decide +kernel
theorem dX6_firstNear_71 : decode cX6_firstNear 71 = .ok (.goto 4, 3) := by decide +kernel
theorem dX6_firstNear_74 : decode cX6_firstNear 74 = .ok (.iconst 0, 1) := by decide +kernel
theorem dX6_firstNear_75 : decode cX6_firstNear 75 = .ok (.istore 6, 2) := by decide +kernel
theorem dX6_firstNear_77 : decode cX6_firstNear 77 = .ok (.iload 6, 2) := by decide +kernel
theorem dX6_firstNear_79 : decode cX6_firstNear 79 = .ok (.ifCond .eq 27, 3) := by decide +kernel
theorem dX6_firstNear_82 : decode cX6_firstNear 82 = .ok (.aload_n 0, 1) := by decide +kernel
theorem dX6_firstNear_83 : decode cX6_firstNear 83 = .ok (.iload 5, 2) := by decide +kernel
theorem dX6_firstNear_85 : decode cX6_firstNear 85 = .ok (.invokevirtual 173, 3) := by decide +kernel
theorem dX6_firstNear_88 : decode cX6_firstNear 88 = .ok (.ifCond .eq 18, 3) := by decide +kernel
theorem dX6_firstNear_91 : decode cX6_firstNear 91 = .ok (.aload_n 0, 1) := by decide +kernel
theorem dX6_firstNear_92 : decode cX6_firstNear 92 = .ok (.iload 5, 2) := by decide +kernel
theorem dX6_firstNear_94 : decode cX6_firstNear 94 = .ok (.iload_n 2, 1) := by decide +kernel
theorem dX6_firstNear_95 : decode cX6_firstNear 95 = .ok (.invokevirtual 176, 3) := by decide +kernel
theorem dX6_firstNear_98 : decode cX6_firstNear 98 = .ok (.ifCond .eq 8, 3) := by decide +kernel
theorem dX6_firstNear_101 : decode cX6_firstNear 101 = .ok (.iload 5, 2) := by decide +kernel
theorem dX6_firstNear_103 : decode cX6_firstNear 103 = .ok (.goto 4, 3) := by decide +kernel
theorem dX6_firstNear_106 : decode cX6_firstNear 106 = .ok (.iload_n 2, 1) := by decide +kernel
theorem dX6_firstNear_107 : decode cX6_firstNear 107 = .ok (.istore_n 2, 1) := by decide +kernel
theorem dX6_firstNear_108 : decode cX6_firstNear 108 = .ok (.iinc 4 1, 3) := by decide +kernel
theorem dX6_firstNear_111 : decode cX6_firstNear 111 = .ok (.goto (-94), 3) := by decide +kernel
theorem dX6_firstNear_114 : decode cX6_firstNear 114 = .ok (.iinc 3 1, 3) := by decide +kernel
theorem dX6_firstNear_117 : decode cX6_firstNear 117 = .ok (.goto (-113), 3) := by decide +kernel
theorem dX6_firstNear_120 : decode cX6_firstNear 120 = .ok (.iload_n 2, 1) := by decide +kernel
theorem dX6_firstNear_121 : decode cX6_firstNear 121 = .ok (.ireturn, 1) := by decide +kernel
set_option maxRecDepth 20000 in
theorem ggX6_improve_X6_isChoice : GoodIn wsX6_improve wsX6_isChoice := goodIn_r _ [5, 6, 7, 8, 4, 9, 64, 65, 66, 67, 68, 69, 70, 71, 72, 73, 74, 75, 76, 77, 78, 79, 80, 81, 82, 83, 84] (by decide +kernel) (by decide +kernel)
set_option maxRecDepth 20000 in
theorem gX6_improve_X6_isChoice : GoodIn wsX6_improve (wsV RX6 148 RX6 yX6_isChoice wsX6_isChoice) := goodIn_app (goodIn_of _ (by decide +kernel)) ggX6_improve_X6_isChoice
set_option maxRecDepth 20000 in
theorem ggX6_improve_X6_in : GoodIn wsX6_improve wsX6_in := goodIn_r _ [9] (by decide +kernel) (by decide +kernel)
set_option maxRecDepth 20000 in
theorem gX6_improve_X6_in : GoodIn wsX6_improve (va_wsS RX6 53 yX6_in wsX6_in) := goodIn_app (goodIn_of _ (by decide +kernel)) ggX6_improve_X6_in
set_option maxRecDepth 20000 in
theorem ggX6_improve_X6_layOwnTables : GoodIn wsX6_improve wsX6_layOwnTables := goodIn_r _ [13, 6, 14, 15, 16, 4, 17, 18, 19, 20, 21, 22, 23, 24, 25, 26, 27, 28, 29, 30, 31, 32, 33, 34, 35, 36, 37, 38, 39, 40, 41, 42, 43, 44, 45, 46, 47, 48, 49, 50, 51, 64, 65, 66, 67, 68, 69, 70, 71, 72, 73, 74, 75, 76, 77, 78, 79, 80, 81, 82, 83, 84] (by decide +kernel) (by decide +kernel)
set_option maxRecDepth 20000 in
theorem gX6_improve_X6_layOwnTables : GoodIn wsX6_improve (wsV RX6 161 RX6 yX6_layOwnTables wsX6_layOwnTables) := goodIn_app (goodIn_of _ (by decide +kernel)) ggX6_improve_X6_layOwnTables
set_option maxRecDepth 20000 in
theorem ggX6_improve_X6_isGood : GoodIn wsX6_improve wsX6_isGood := goodIn_r _ [55, 18, 19, 6, 64, 65, 66, 67, 68, 69, 70, 71, 72, 73, 74, 75, 76, 77, 78, 79, 80, 81, 82, 83, 84] (by decide +kernel) (by decide +kernel)
set_option maxRecDepth 20000 in
theorem gX6_improve_X6_isGood : GoodIn wsX6_improve (wsV RX6 173 RX6 yX6_isGood wsX6_isGood) := goodIn_app (goodIn_of _ (by decide +kernel)) ggX6_improve_X6_isGood
set_option maxRecDepth 20000 in
theorem ggX6_improve_X6_firstNear : GoodIn wsX6_improve wsX6_firstNear := goodIn_r _ [59, 6, 29, 30, 4, 31, 52, 53, 54, 55, 18, 19, 60, 61, 62, 63, 20, 64, 65, 66, 67, 68, 69, 70, 71, 72, 73, 74, 75, 76, 77, 78, 79, 80, 81, 82, 83, 84] (by decide +kernel) (by decide +kernel)
set_option maxRecDepth 20000 in
theorem gX6_improve_X6_firstNear : GoodIn wsX6_improve (wsV RX6 182 RX6 yX6_firstNear wsX6_firstNear) := goodIn_app (goodIn_of _ (by decide +kernel)) ggX6_improve_X6_firstNear
theorem dX6_improve_0 : decode cX6_improve 0 = .ok (.aload_n 0, 1) := by decide +kernel
theorem dX6_improve_1 : decode cX6_improve 1 = .ok (.iload_n 1, 1) := by decide +kernel
theorem dX6_improve_2 : decode cX6_improve 2 = .ok (.invokevirtual 148, 3) := by decide +kernel
theorem dX6_improve_5 : decode cX6_improve 5 = .ok (.ifCond .ne 5, 3) := by decide +kernel
theorem dX6_improve_8 : decode cX6_improve 8 = .ok (.iconst (-1), 1) := by decide +kernel
theorem dX6_improve_9 : decode cX6_improve 9 = .ok (.ireturn, 1) := by decide +kernel
theorem dX6_improve_10 : decode cX6_improve 10 = .ok (.iload_n 2, 1) := by decide +kernel
theorem dX6_improve_11 : decode cX6_improve 11 = .ok (.iconst 0, 1) := by decide +kernel
theorem dX6_improve_12 : decode cX6_improve 12 = .ok (.iconst 1, 1) := by decide +kernel
theorem dX6_improve_13 : decode cX6_improve 13 = .ok (.invokestatic 53, 3) := by decide +kernel
theorem dX6_improve_16 : decode cX6_improve 16 = .ok (.ifCond .ne 6, 3) := by decide +kernel
theorem dX6_improve_19 : decode cX6_improve 19 = .ok (.bipush (-2), 2) := by decide +kernel
theorem dX6_improve_21 : decode cX6_improve 21 = .ok (.ireturn, 1) := by decide +kernel
theorem dX6_improve_22 : decode cX6_improve 22 = .ok (.aload_n 0, 1) := by decide +kernel
theorem dX6_improve_23 : decode cX6_improve 23 = .ok (.invokevirtual 161, 3) := by decide +kernel
theorem dX6_improve_26 : decode cX6_improve 26 = .ok (.aload_n 0, 1) := by decide +kernel
theorem dX6_improve_27 : decode cX6_improve 27 = .ok (.iload_n 1, 1) := by decide +kernel
theorem dX6_improve_28 : decode cX6_improve 28 = .ok (.invokevirtual 173, 3) := by decide +kernel
theorem dX6_improve_31 : decode cX6_improve 31 = .ok (.ifCond .ne 6, 3) := by decide +kernel
theorem dX6_improve_34 : decode cX6_improve 34 = .ok (.bipush (-5), 2) := by decide +kernel
theorem dX6_improve_36 : decode cX6_improve 36 = .ok (.ireturn, 1) := by decide +kernel
theorem dX6_improve_37 : decode cX6_improve 37 = .ok (.iconst 0, 1) := by decide +kernel
theorem dX6_improve_38 : decode cX6_improve 38 = .ok (.istore_n 3, 1) := by decide +kernel
theorem dX6_improve_39 : decode cX6_improve 39 = .ok (.iload_n 1, 1) := by decide +kernel
theorem dX6_improve_40 : decode cX6_improve 40 = .ok (.istore 4, 2) := by decide +kernel
theorem dX6_improve_42 : decode cX6_improve 42 = .ok (.aload_n 0, 1) := by decide +kernel
theorem dX6_improve_43 : decode cX6_improve 43 = .ok (.iload 4, 2) := by decide +kernel
theorem dX6_improve_45 : decode cX6_improve 45 = .ok (.invokevirtual 182, 3) := by decide +kernel
theorem dX6_improve_48 : decode cX6_improve 48 = .ok (.istore 5, 2) := by decide +kernel
theorem dX6_improve_50 : decode cX6_improve 50 = .ok (.iload 5, 2) := by decide +kernel
theorem dX6_improve_52 : decode cX6_improve 52 = .ok (.iload 4, 2) := by decide +kernel
theorem dX6_improve_54 : decode cX6_improve 54 = .ok (.if_icmp .eq 21, 3) := by decide +kernel
theorem dX6_improve_57 : decode cX6_improve 57 = .ok (.iload 5, 2) := by decide +kernel
theorem dX6_improve_59 : decode cX6_improve 59 = .ok (.istore 4, 2) := by decide +kernel
theorem dX6_improve_61 : decode cX6_improve 61 = .ok (.iinc 3 1, 3) := by decide +kernel
theorem dX6_improve_64 : decode cX6_improve 64 = .ok (.aload_n 0, 1) := by decide +kernel
theorem dX6_improve_65 : decode cX6_improve 65 = .ok (.iload 4, 2) := by decide +kernel
theorem dX6_improve_67 : decode cX6_improve 67 = .ok (.invokevirtual 182, 3) := by decide +kernel
theorem dX6_improve_70 : decode cX6_improve 70 = .ok (.istore 5, 2) := by decide +kernel
theorem dX6_improve_72 : decode cX6_improve 72 = .ok (.goto (-22), 3) := by decide +kernel
theorem dX6_improve_75 : decode cX6_improve 75 = .ok (.iload_n 2, 1) := by decide +kernel
theorem dX6_improve_76 : decode cX6_improve 76 = .ok (.ifCond .ne 8, 3) := by decide +kernel
theorem dX6_improve_79 : decode cX6_improve 79 = .ok (.iload 4, 2) := by decide +kernel
theorem dX6_improve_81 : decode cX6_improve 81 = .ok (.goto 4, 3) := by decide +kernel
theorem dX6_improve_84 : decode cX6_improve 84 = .ok (.iload_n 3, 1) := by decide +kernel
theorem dX6_improve_85 : decode cX6_improve 85 = .ok (.ireturn, 1) := by decide +kernel
set_option maxRecDepth 20000 in
theorem ggX6_layList_X6_sum : GoodIn wsX6_layList wsX6_sum := goodIn_r _ [10, 3, 11, 12, 9, 13, 14, 15, 16, 17, 26, 27, 28, 29, 30, 31, 32, 33, 34, 35, 36, 37, 38, 39, 40, 41, 42, 43, 44, 45, 46] (by decide +kernel) (by decide +kernel)
set_option maxRecDepth 20000 in
theorem gX6_layList_X6_sum : GoodIn wsX6_layList (wsV RX6 125 RX6 yX6_sum wsX6_sum) := goodIn_app (goodIn_of _ (by decide +kernel)) ggX6_layList_X6_sum
set_option maxRecDepth 20000 in
theorem ggX6_layList_X6_protectedWeight : GoodIn wsX6_layList wsX6_protectedWeight := goodIn_r _ [21, 6, 7, 8, 9, 10, 3, 11, 12, 13, 14, 15, 16, 17, 22, 23, 24, 25, 26, 27, 28, 29, 30, 31, 32, 33, 34, 35, 36, 37, 38, 39, 40, 41, 42, 43, 44, 45, 46] (by decide +kernel) (by decide +kernel)
set_option maxRecDepth 20000 in
theorem gX6_layList_X6_protectedWeight : GoodIn wsX6_layList (wsV RX6 138 RX6 yX6_protectedWeight wsX6_protectedWeight) := goodIn_app (goodIn_of _ (by decide +kernel)) ggX6_layList_X6_protectedWeight
theorem dX6_layList_0 : decode cX6_layList 0 = .ok (.iconst 1, 1) := by decide +kernel
theorem dX6_layList_1 : decode cX6_layList 1 = .ok (.iload_n 1, 1) := by decide +kernel
theorem dX6_layList_2 : decode cX6_layList 2 = .ok (.ishl, 1) := by decide +kernel
theorem dX6_layList_3 : decode cX6_layList 3 = .ok (.istore_n 2, 1) := by decide +kernel
theorem dX6_layList_4 : decode cX6_layList 4 = .ok (.iconst 0, 1) := by decide +kernel
theorem dX6_layList_5 : decode cX6_layList 5 = .ok (.istore_n 3, 1) := by decide +kernel
theorem dX6_layList_6 : decode cX6_layList 6 = .ok (.iload_n 3, 1) := by decide +kernel
theorem dX6_layList_7 : decode cX6_layList 7 = .ok (.iload_n 2, 1) := by decide +kernel
theorem dX6_layList_8 : decode cX6_layList 8 = .ok (.if_icmp .ge 38, 3) := by decide +kernel
theorem dX6_layList_11 : decode cX6_layList 11 = .ok (.aload_n 0, 1) := by decide +kernel
theorem dX6_layList_12 : decode cX6_layList 12 = .ok (.getfield 32, 3) := by decide +kernel
theorem dX6_layList_15 : decode cX6_layList 15 = .ok (.iload_n 3, 1) := by decide +kernel
theorem dX6_layList_16 : decode cX6_layList 16 = .ok (.aload_n 0, 1) := by decide +kernel
theorem dX6_layList_17 : decode cX6_layList 17 = .ok (.iload_n 3, 1) := by decide +kernel
theorem dX6_layList_18 : decode cX6_layList 18 = .ok (.iconst 0, 1) := by decide +kernel
theorem dX6_layList_19 : decode cX6_layList 19 = .ok (.invokevirtual 125, 3) := by decide +kernel
theorem dX6_layList_22 : decode cX6_layList 22 = .ok (.iastore, 1) := by decide +kernel
theorem dX6_layList_23 : decode cX6_layList 23 = .ok (.aload_n 0, 1) := by decide +kernel
theorem dX6_layList_24 : decode cX6_layList 24 = .ok (.getfield 22, 3) := by decide +kernel
theorem dX6_layList_27 : decode cX6_layList 27 = .ok (.iload_n 3, 1) := by decide +kernel
theorem dX6_layList_28 : decode cX6_layList 28 = .ok (.aload_n 0, 1) := by decide +kernel
theorem dX6_layList_29 : decode cX6_layList 29 = .ok (.iload_n 3, 1) := by decide +kernel
theorem dX6_layList_30 : decode cX6_layList 30 = .ok (.aload_n 0, 1) := by decide +kernel
theorem dX6_layList_31 : decode cX6_layList 31 = .ok (.getfield 7, 3) := by decide +kernel
theorem dX6_layList_34 : decode cX6_layList 34 = .ok (.iconst 2, 1) := by decide +kernel
theorem dX6_layList_35 : decode cX6_layList 35 = .ok (.iaload, 1) := by decide +kernel
theorem dX6_layList_36 : decode cX6_layList 36 = .ok (.invokevirtual 138, 3) := by decide +kernel
theorem dX6_layList_39 : decode cX6_layList 39 = .ok (.iastore, 1) := by decide +kernel
theorem dX6_layList_40 : decode cX6_layList 40 = .ok (.iinc 3 1, 3) := by decide +kernel
theorem dX6_layList_43 : decode cX6_layList 43 = .ok (.goto (-37), 3) := by decide +kernel
theorem dX6_layList_46 : decode cX6_layList 46 = .ok (.aload_n 0, 1) := by decide +kernel
theorem dX6_layList_47 : decode cX6_layList 47 = .ok (.iconst 0, 1) := by decide +kernel
theorem dX6_layList_48 : decode cX6_layList 48 = .ok (.putfield 185, 3) := by decide +kernel
theorem dX6_layList_51 : decode cX6_layList 51 = .ok (.iconst (-1), 1) := by decide +kernel
theorem dX6_layList_52 : decode cX6_layList 52 = .ok (.istore_n 3, 1) := by decide +kernel
theorem dX6_layList_53 : decode cX6_layList 53 = .ok (.iconst 0, 1) := by decide +kernel
theorem dX6_layList_54 : decode cX6_layList 54 = .ok (.istore 4, 2) := by decide +kernel
theorem dX6_layList_56 : decode cX6_layList 56 = .ok (.iload 4, 2) := by decide +kernel
theorem dX6_layList_58 : decode cX6_layList 58 = .ok (.ifCond .lt 163, 3) := by decide +kernel
theorem dX6_layList_61 : decode cX6_layList 61 = .ok (.bipush (-6), 2) := by decide +kernel
theorem dX6_layList_63 : decode cX6_layList 63 = .ok (.istore 4, 2) := by decide +kernel
theorem dX6_layList_65 : decode cX6_layList 65 = .ok (.iconst 0, 1) := by decide +kernel
theorem dX6_layList_66 : decode cX6_layList 66 = .ok (.istore 5, 2) := by decide +kernel
theorem dX6_layList_68 : decode cX6_layList 68 = .ok (.iload 5, 2) := by decide +kernel
theorem dX6_layList_70 : decode cX6_layList 70 = .ok (.iload_n 2, 1) := by decide +kernel
theorem dX6_layList_71 : decode cX6_layList 71 = .ok (.if_icmp .ge 113, 3) := by decide +kernel
theorem dX6_layList_74 : decode cX6_layList 74 = .ok (.aload_n 0, 1) := by decide +kernel
theorem dX6_layList_75 : decode cX6_layList 75 = .ok (.getfield 22, 3) := by decide +kernel
theorem dX6_layList_78 : decode cX6_layList 78 = .ok (.iload 5, 2) := by decide +kernel
theorem dX6_layList_80 : decode cX6_layList 80 = .ok (.iaload, 1) := by decide +kernel
theorem dX6_layList_81 : decode cX6_layList 81 = .ok (.aload_n 0, 1) := by decide +kernel
theorem dX6_layList_82 : decode cX6_layList 82 = .ok (.getfield 7, 3) := by decide +kernel
theorem dX6_layList_85 : decode cX6_layList 85 = .ok (.iconst 1, 1) := by decide +kernel
theorem dX6_layList_86 : decode cX6_layList 86 = .ok (.iaload, 1) := by decide +kernel
theorem dX6_layList_87 : decode cX6_layList 87 = .ok (.if_icmp .gt 91, 3) := by decide +kernel
theorem dX6_layList_90 : decode cX6_layList 90 = .ok (.aload_n 0, 1) := by decide +kernel
theorem dX6_layList_91 : decode cX6_layList 91 = .ok (.getfield 32, 3) := by decide +kernel
theorem dX6_layList_94 : decode cX6_layList 94 = .ok (.iload 5, 2) := by decide +kernel
theorem dX6_layList_96 : decode cX6_layList 96 = .ok (.iaload, 1) := by decide +kernel
theorem dX6_layList_97 : decode cX6_layList 97 = .ok (.iload_n 3, 1) := by decide +kernel
theorem dX6_layList_98 : decode cX6_layList 98 = .ok (.if_icmp .le 80, 3) := by decide +kernel
theorem dX6_layList_101 : decode cX6_layList 101 = .ok (.iload 4, 2) := by decide +kernel
theorem dX6_layList_103 : decode cX6_layList 103 = .ok (.ifCond .lt 54, 3) := by decide +kernel
theorem dX6_layList_106 : decode cX6_layList 106 = .ok (.aload_n 0, 1) := by decide +kernel
theorem dX6_layList_107 : decode cX6_layList 107 = .ok (.getfield 22, 3) := by decide +kernel
theorem dX6_layList_110 : decode cX6_layList 110 = .ok (.iload 5, 2) := by decide +kernel
theorem dX6_layList_112 : decode cX6_layList 112 = .ok (.iaload, 1) := by decide +kernel
theorem dX6_layList_113 : decode cX6_layList 113 = .ok (.aload_n 0, 1) := by decide +kernel
theorem dX6_layList_114 : decode cX6_layList 114 = .ok (.getfield 22, 3) := by decide +kernel
theorem dX6_layList_117 : decode cX6_layList 117 = .ok (.iload 4, 2) := by decide +kernel
theorem dX6_layList_119 : decode cX6_layList 119 = .ok (.iaload, 1) := by decide +kernel
theorem dX6_layList_120 : decode cX6_layList 120 = .ok (.if_icmp .lt 37, 3) := by decide +kernel
theorem dX6_layList_123 : decode cX6_layList 123 = .ok (.aload_n 0, 1) := by decide +kernel
theorem dX6_layList_124 : decode cX6_layList 124 = .ok (.getfield 22, 3) := by decide +kernel
theorem dX6_layList_127 : decode cX6_layList 127 = .ok (.iload 5, 2) := by decide +kernel
theorem dX6_layList_129 : decode cX6_layList 129 = .ok (.iaload, 1) := by decide +kernel
theorem dX6_layList_130 : decode cX6_layList 130 = .ok (.aload_n 0, 1) := by decide +kernel
theorem dX6_layList_131 : decode cX6_layList 131 = .ok (.getfield 22, 3) := by decide +kernel
theorem dX6_layList_134 : decode cX6_layList 134 = .ok (.iload 4, 2) := by decide +kernel
theorem dX6_layList_136 : decode cX6_layList 136 = .ok (.iaload, 1) := by decide +kernel
theorem dX6_layList_137 : decode cX6_layList 137 = .ok (.if_icmp .ne 24, 3) := by decide +kernel
theorem dX6_layList_140 : decode cX6_layList 140 = .ok (.aload_n 0, 1) := by decide +kernel
theorem dX6_layList_141 : decode cX6_layList 141 = .ok (.getfield 32, 3) := by decide +kernel
theorem dX6_layList_144 : decode cX6_layList 144 = .ok (.iload 5, 2) := by decide +kernel
theorem dX6_layList_146 : decode cX6_layList 146 = .ok (.iaload, 1) := by decide +kernel
theorem dX6_layList_147 : decode cX6_layList 147 = .ok (.aload_n 0, 1) := by decide +kernel
theorem dX6_layList_148 : decode cX6_layList 148 = .ok (.getfield 32, 3) := by decide +kernel
theorem dX6_layList_151 : decode cX6_layList 151 = .ok (.iload 4, 2) := by decide +kernel
theorem dX6_layList_153 : decode cX6_layList 153 = .ok (.iaload, 1) := by decide +kernel
theorem dX6_layList_154 : decode cX6_layList 154 = .ok (.if_icmp .le 7, 3) := by decide +kernel
theorem dX6_layList_157 : decode cX6_layList 157 = .ok (.iconst 1, 1) := by decide +kernel
theorem dX6_layList_158 : decode cX6_layList 158 = .ok (.goto 4, 3) := by decide +kernel
theorem dX6_layList_161 : decode cX6_layList 161 = .ok (.iconst 0, 1) := by decide +kernel
theorem dX6_layList_162 : decode cX6_layList 162 = .ok (.istore 6, 2) := by decide +kernel
theorem dX6_layList_164 : decode cX6_layList 164 = .ok (.iload 6, 2) := by decide +kernel
theorem dX6_layList_166 : decode cX6_layList 166 = .ok (.ifCond .eq 8, 3) := by decide +kernel
theorem dX6_layList_169 : decode cX6_layList 169 = .ok (.iload 5, 2) := by decide +kernel
theorem dX6_layList_171 : decode cX6_layList 171 = .ok (.goto 5, 3) := by decide +kernel
theorem dX6_layList_174 : decode cX6_layList 174 = .ok (.iload 4, 2) := by decide +kernel
theorem dX6_layList_176 : decode cX6_layList 176 = .ok (.istore 4, 2) := by decide +kernel
theorem dX6_layList_178 : decode cX6_layList 178 = .ok (.iinc 5 1, 3) := by decide +kernel
theorem dX6_layList_181 : decode cX6_layList 181 = .ok (.goto (-113), 3) := by decide +kernel
theorem dX6_layList_184 : decode cX6_layList 184 = .ok (.iload 4, 2) := by decide +kernel
theorem dX6_layList_186 : decode cX6_layList 186 = .ok (.ifCond .lt (-130), 3) := by decide +kernel
theorem dX6_layList_189 : decode cX6_layList 189 = .ok (.aload_n 0, 1) := by decide +kernel
theorem dX6_layList_190 : decode cX6_layList 190 = .ok (.getfield 35, 3) := by decide +kernel
theorem dX6_layList_193 : decode cX6_layList 193 = .ok (.aload_n 0, 1) := by decide +kernel
theorem dX6_layList_194 : decode cX6_layList 194 = .ok (.getfield 185, 3) := by decide +kernel
theorem dX6_layList_197 : decode cX6_layList 197 = .ok (.iload 4, 2) := by decide +kernel
theorem dX6_layList_199 : decode cX6_layList 199 = .ok (.iastore, 1) := by decide +kernel
theorem dX6_layList_200 : decode cX6_layList 200 = .ok (.aload_n 0, 1) := by decide +kernel
theorem dX6_layList_201 : decode cX6_layList 201 = .ok (.dup, 1) := by decide +kernel
theorem dX6_layList_202 : decode cX6_layList 202 = .ok (.getfield 185, 3) := by decide +kernel
theorem dX6_layList_205 : decode cX6_layList 205 = .ok (.iconst 1, 1) := by decide +kernel
theorem dX6_layList_206 : decode cX6_layList 206 = .ok (.iadd, 1) := by decide +kernel
theorem dX6_layList_207 : decode cX6_layList 207 = .ok (.putfield 185, 3) := by decide +kernel
theorem dX6_layList_210 : decode cX6_layList 210 = .ok (.aload_n 0, 1) := by decide +kernel
theorem dX6_layList_211 : decode cX6_layList 211 = .ok (.getfield 32, 3) := by decide +kernel
theorem dX6_layList_214 : decode cX6_layList 214 = .ok (.iload 4, 2) := by decide +kernel
theorem dX6_layList_216 : decode cX6_layList 216 = .ok (.iaload, 1) := by decide +kernel
theorem dX6_layList_217 : decode cX6_layList 217 = .ok (.istore_n 3, 1) := by decide +kernel
theorem dX6_layList_218 : decode cX6_layList 218 = .ok (.goto (-162), 3) := by decide +kernel
theorem dX6_layList_221 : decode cX6_layList 221 = .ok (.return_, 1) := by decide +kernel
set_option maxRecDepth 20000 in
theorem ggX6_list_X6_in : GoodIn wsX6_list wsX6_in := goodIn_r _ [7] (by decide +kernel) (by decide +kernel)
set_option maxRecDepth 20000 in
theorem gX6_list_X6_in : GoodIn wsX6_list (va_wsS RX6 53 yX6_in wsX6_in) := goodIn_app (goodIn_of _ (by decide +kernel)) ggX6_list_X6_in
set_option maxRecDepth 20000 in
theorem ggX6_list_X6_layList : GoodIn wsX6_list wsX6_layList := goodIn_r _ [11, 12, 13, 1, 2, 3, 14, 15, 16, 6, 17, 18, 19, 20, 21, 22, 23, 24, 25, 26, 27, 28, 29, 30, 31, 32, 33, 34, 35, 36, 37, 38, 39, 40, 41, 42, 43, 44, 45, 46, 47, 48, 49, 50, 51, 52, 53] (by decide +kernel) (by decide +kernel)
set_option maxRecDepth 20000 in
theorem gX6_list_X6_layList : GoodIn wsX6_list (wsV RX6 188 RX6 yX6_layList wsX6_layList) := goodIn_app (goodIn_of _ (by decide +kernel)) ggX6_list_X6_layList
theorem dX6_list_0 : decode cX6_list 0 = .ok (.iload_n 1, 1) := by decide +kernel
theorem dX6_list_1 : decode cX6_list 1 = .ok (.iconst 0, 1) := by decide +kernel
theorem dX6_list_2 : decode cX6_list 2 = .ok (.aload_n 0, 1) := by decide +kernel
theorem dX6_list_3 : decode cX6_list 3 = .ok (.getfield 7, 3) := by decide +kernel
theorem dX6_list_6 : decode cX6_list 6 = .ok (.iconst 0, 1) := by decide +kernel
theorem dX6_list_7 : decode cX6_list 7 = .ok (.iaload, 1) := by decide +kernel
theorem dX6_list_8 : decode cX6_list 8 = .ok (.invokestatic 53, 3) := by decide +kernel
theorem dX6_list_11 : decode cX6_list 11 = .ok (.ifCond .ne 5, 3) := by decide +kernel
theorem dX6_list_14 : decode cX6_list 14 = .ok (.iconst (-1), 1) := by decide +kernel
theorem dX6_list_15 : decode cX6_list 15 = .ok (.ireturn, 1) := by decide +kernel
theorem dX6_list_16 : decode cX6_list 16 = .ok (.aload_n 0, 1) := by decide +kernel
theorem dX6_list_17 : decode cX6_list 17 = .ok (.iload_n 1, 1) := by decide +kernel
theorem dX6_list_18 : decode cX6_list 18 = .ok (.invokevirtual 188, 3) := by decide +kernel
theorem dX6_list_21 : decode cX6_list 21 = .ok (.iload_n 2, 1) := by decide +kernel
theorem dX6_list_22 : decode cX6_list 22 = .ok (.iconst (-1), 1) := by decide +kernel
theorem dX6_list_23 : decode cX6_list 23 = .ok (.if_icmp .ne 10, 3) := by decide +kernel
theorem dX6_list_26 : decode cX6_list 26 = .ok (.aload_n 0, 1) := by decide +kernel
theorem dX6_list_27 : decode cX6_list 27 = .ok (.getfield 185, 3) := by decide +kernel
theorem dX6_list_30 : decode cX6_list 30 = .ok (.goto 28, 3) := by decide +kernel
theorem dX6_list_33 : decode cX6_list 33 = .ok (.iload_n 2, 1) := by decide +kernel
theorem dX6_list_34 : decode cX6_list 34 = .ok (.iconst 0, 1) := by decide +kernel
theorem dX6_list_35 : decode cX6_list 35 = .ok (.aload_n 0, 1) := by decide +kernel
theorem dX6_list_36 : decode cX6_list 36 = .ok (.getfield 185, 3) := by decide +kernel
theorem dX6_list_39 : decode cX6_list 39 = .ok (.iconst 1, 1) := by decide +kernel
theorem dX6_list_40 : decode cX6_list 40 = .ok (.isub, 1) := by decide +kernel
theorem dX6_list_41 : decode cX6_list 41 = .ok (.invokestatic 53, 3) := by decide +kernel
theorem dX6_list_44 : decode cX6_list 44 = .ok (.ifCond .eq 12, 3) := by decide +kernel
theorem dX6_list_47 : decode cX6_list 47 = .ok (.aload_n 0, 1) := by decide +kernel
theorem dX6_list_48 : decode cX6_list 48 = .ok (.getfield 35, 3) := by decide +kernel
theorem dX6_list_51 : decode cX6_list 51 = .ok (.iload_n 2, 1) := by decide +kernel
theorem dX6_list_52 : decode cX6_list 52 = .ok (.iaload, 1) := by decide +kernel
theorem dX6_list_53 : decode cX6_list 53 = .ok (.goto 5, 3) := by decide +kernel
theorem dX6_list_56 : decode cX6_list 56 = .ok (.bipush (-6), 2) := by decide +kernel
theorem dX6_list_58 : decode cX6_list 58 = .ok (.ireturn, 1) := by decide +kernel
set_option maxRecDepth 20000 in
theorem ggX6_dominator_X6_in : GoodIn wsX6_dominator wsX6_in := goodIn_r _ [9] (by decide +kernel) (by decide +kernel)
set_option maxRecDepth 20000 in
theorem gX6_dominator_X6_in : GoodIn wsX6_dominator (va_wsS RX6 53 yX6_in wsX6_in) := goodIn_app (goodIn_of _ (by decide +kernel)) ggX6_dominator_X6_in
set_option maxRecDepth 20000 in
theorem ggX6_dominator_X6_layList : GoodIn wsX6_dominator wsX6_layList := goodIn_r _ [13, 5, 2, 1, 3, 4, 14, 15, 16, 8, 17, 18, 19, 20, 21, 22, 23, 24, 25, 26, 27, 28, 29, 30, 31, 32, 33, 34, 35, 36, 37, 38, 39, 40, 41, 42, 43, 44, 45, 46, 47, 48, 49, 50, 51, 52, 53] (by decide +kernel) (by decide +kernel)
set_option maxRecDepth 20000 in
theorem gX6_dominator_X6_layList : GoodIn wsX6_dominator (wsV RX6 188 RX6 yX6_layList wsX6_layList) := goodIn_app (goodIn_of _ (by decide +kernel)) ggX6_dominator_X6_layList
theorem dX6_dominator_0 : decode cX6_dominator 0 = .ok (.iload_n 1, 1) := by decide +kernel
theorem dX6_dominator_1 : decode cX6_dominator 1 = .ok (.iconst 0, 1) := by decide +kernel
theorem dX6_dominator_2 : decode cX6_dominator 2 = .ok (.aload_n 0, 1) := by decide +kernel
theorem dX6_dominator_3 : decode cX6_dominator 3 = .ok (.getfield 7, 3) := by decide +kernel
theorem dX6_dominator_6 : decode cX6_dominator 6 = .ok (.iconst 0, 1) := by decide +kernel
theorem dX6_dominator_7 : decode cX6_dominator 7 = .ok (.iaload, 1) := by decide +kernel
theorem dX6_dominator_8 : decode cX6_dominator 8 = .ok (.invokestatic 53, 3) := by decide +kernel
theorem dX6_dominator_11 : decode cX6_dominator 11 = .ok (.ifCond .eq 16, 3) := by decide +kernel
theorem dX6_dominator_14 : decode cX6_dominator 14 = .ok (.iload_n 2, 1) := by decide +kernel
theorem dX6_dominator_15 : decode cX6_dominator 15 = .ok (.iconst 0, 1) := by decide +kernel
theorem dX6_dominator_16 : decode cX6_dominator 16 = .ok (.iconst 1, 1) := by decide +kernel
theorem dX6_dominator_17 : decode cX6_dominator 17 = .ok (.iload_n 1, 1) := by decide +kernel
theorem dX6_dominator_18 : decode cX6_dominator 18 = .ok (.ishl, 1) := by decide +kernel
theorem dX6_dominator_19 : decode cX6_dominator 19 = .ok (.iconst 1, 1) := by decide +kernel
theorem dX6_dominator_20 : decode cX6_dominator 20 = .ok (.isub, 1) := by decide +kernel
theorem dX6_dominator_21 : decode cX6_dominator 21 = .ok (.invokestatic 53, 3) := by decide +kernel
theorem dX6_dominator_24 : decode cX6_dominator 24 = .ok (.ifCond .ne 5, 3) := by decide +kernel
theorem dX6_dominator_27 : decode cX6_dominator 27 = .ok (.iconst (-1), 1) := by decide +kernel
theorem dX6_dominator_28 : decode cX6_dominator 28 = .ok (.ireturn, 1) := by decide +kernel
theorem dX6_dominator_29 : decode cX6_dominator 29 = .ok (.aload_n 0, 1) := by decide +kernel
theorem dX6_dominator_30 : decode cX6_dominator 30 = .ok (.iload_n 1, 1) := by decide +kernel
theorem dX6_dominator_31 : decode cX6_dominator 31 = .ok (.invokevirtual 188, 3) := by decide +kernel
theorem dX6_dominator_34 : decode cX6_dominator 34 = .ok (.aload_n 0, 1) := by decide +kernel
theorem dX6_dominator_35 : decode cX6_dominator 35 = .ok (.getfield 22, 3) := by decide +kernel
theorem dX6_dominator_38 : decode cX6_dominator 38 = .ok (.iload_n 2, 1) := by decide +kernel
theorem dX6_dominator_39 : decode cX6_dominator 39 = .ok (.iaload, 1) := by decide +kernel
theorem dX6_dominator_40 : decode cX6_dominator 40 = .ok (.aload_n 0, 1) := by decide +kernel
theorem dX6_dominator_41 : decode cX6_dominator 41 = .ok (.getfield 7, 3) := by decide +kernel
theorem dX6_dominator_44 : decode cX6_dominator 44 = .ok (.iconst 1, 1) := by decide +kernel
theorem dX6_dominator_45 : decode cX6_dominator 45 = .ok (.iaload, 1) := by decide +kernel
theorem dX6_dominator_46 : decode cX6_dominator 46 = .ok (.if_icmp .le 6, 3) := by decide +kernel
theorem dX6_dominator_49 : decode cX6_dominator 49 = .ok (.bipush (-5), 2) := by decide +kernel
theorem dX6_dominator_51 : decode cX6_dominator 51 = .ok (.ireturn, 1) := by decide +kernel
theorem dX6_dominator_52 : decode cX6_dominator 52 = .ok (.iconst 0, 1) := by decide +kernel
theorem dX6_dominator_53 : decode cX6_dominator 53 = .ok (.istore_n 3, 1) := by decide +kernel
theorem dX6_dominator_54 : decode cX6_dominator 54 = .ok (.iload_n 3, 1) := by decide +kernel
theorem dX6_dominator_55 : decode cX6_dominator 55 = .ok (.aload_n 0, 1) := by decide +kernel
theorem dX6_dominator_56 : decode cX6_dominator 56 = .ok (.getfield 185, 3) := by decide +kernel
theorem dX6_dominator_59 : decode cX6_dominator 59 = .ok (.if_icmp .ge 22, 3) := by decide +kernel
theorem dX6_dominator_62 : decode cX6_dominator 62 = .ok (.aload_n 0, 1) := by decide +kernel
theorem dX6_dominator_63 : decode cX6_dominator 63 = .ok (.getfield 35, 3) := by decide +kernel
theorem dX6_dominator_66 : decode cX6_dominator 66 = .ok (.iload_n 3, 1) := by decide +kernel
theorem dX6_dominator_67 : decode cX6_dominator 67 = .ok (.iaload, 1) := by decide +kernel
theorem dX6_dominator_68 : decode cX6_dominator 68 = .ok (.iload_n 2, 1) := by decide +kernel
theorem dX6_dominator_69 : decode cX6_dominator 69 = .ok (.if_icmp .ne 6, 3) := by decide +kernel
theorem dX6_dominator_72 : decode cX6_dominator 72 = .ok (.bipush (-6), 2) := by decide +kernel
theorem dX6_dominator_74 : decode cX6_dominator 74 = .ok (.ireturn, 1) := by decide +kernel
theorem dX6_dominator_75 : decode cX6_dominator 75 = .ok (.iinc 3 1, 3) := by decide +kernel
theorem dX6_dominator_78 : decode cX6_dominator 78 = .ok (.goto (-24), 3) := by decide +kernel
theorem dX6_dominator_81 : decode cX6_dominator 81 = .ok (.iconst 0, 1) := by decide +kernel
theorem dX6_dominator_82 : decode cX6_dominator 82 = .ok (.istore_n 3, 1) := by decide +kernel
theorem dX6_dominator_83 : decode cX6_dominator 83 = .ok (.aload_n 0, 1) := by decide +kernel
theorem dX6_dominator_84 : decode cX6_dominator 84 = .ok (.getfield 32, 3) := by decide +kernel
theorem dX6_dominator_87 : decode cX6_dominator 87 = .ok (.aload_n 0, 1) := by decide +kernel
theorem dX6_dominator_88 : decode cX6_dominator 88 = .ok (.getfield 35, 3) := by decide +kernel
theorem dX6_dominator_91 : decode cX6_dominator 91 = .ok (.iload_n 3, 1) := by decide +kernel
theorem dX6_dominator_92 : decode cX6_dominator 92 = .ok (.iaload, 1) := by decide +kernel
theorem dX6_dominator_93 : decode cX6_dominator 93 = .ok (.iaload, 1) := by decide +kernel
theorem dX6_dominator_94 : decode cX6_dominator 94 = .ok (.aload_n 0, 1) := by decide +kernel
theorem dX6_dominator_95 : decode cX6_dominator 95 = .ok (.getfield 32, 3) := by decide +kernel
theorem dX6_dominator_98 : decode cX6_dominator 98 = .ok (.iload_n 2, 1) := by decide +kernel
theorem dX6_dominator_99 : decode cX6_dominator 99 = .ok (.iaload, 1) := by decide +kernel
theorem dX6_dominator_100 : decode cX6_dominator 100 = .ok (.if_icmp .lt 23, 3) := by decide +kernel
theorem dX6_dominator_103 : decode cX6_dominator 103 = .ok (.aload_n 0, 1) := by decide +kernel
theorem dX6_dominator_104 : decode cX6_dominator 104 = .ok (.getfield 22, 3) := by decide +kernel
theorem dX6_dominator_107 : decode cX6_dominator 107 = .ok (.aload_n 0, 1) := by decide +kernel
theorem dX6_dominator_108 : decode cX6_dominator 108 = .ok (.getfield 35, 3) := by decide +kernel
theorem dX6_dominator_111 : decode cX6_dominator 111 = .ok (.iload_n 3, 1) := by decide +kernel
theorem dX6_dominator_112 : decode cX6_dominator 112 = .ok (.iaload, 1) := by decide +kernel
theorem dX6_dominator_113 : decode cX6_dominator 113 = .ok (.iaload, 1) := by decide +kernel
theorem dX6_dominator_114 : decode cX6_dominator 114 = .ok (.aload_n 0, 1) := by decide +kernel
theorem dX6_dominator_115 : decode cX6_dominator 115 = .ok (.getfield 22, 3) := by decide +kernel
theorem dX6_dominator_118 : decode cX6_dominator 118 = .ok (.iload_n 2, 1) := by decide +kernel
theorem dX6_dominator_119 : decode cX6_dominator 119 = .ok (.iaload, 1) := by decide +kernel
theorem dX6_dominator_120 : decode cX6_dominator 120 = .ok (.if_icmp .le 9, 3) := by decide +kernel
theorem dX6_dominator_123 : decode cX6_dominator 123 = .ok (.iinc 3 1, 3) := by decide +kernel
theorem dX6_dominator_126 : decode cX6_dominator 126 = .ok (.goto (-43), 3) := by decide +kernel
theorem dX6_dominator_129 : decode cX6_dominator 129 = .ok (.aload_n 0, 1) := by decide +kernel
theorem dX6_dominator_130 : decode cX6_dominator 130 = .ok (.getfield 35, 3) := by decide +kernel
theorem dX6_dominator_133 : decode cX6_dominator 133 = .ok (.iload_n 3, 1) := by decide +kernel
theorem dX6_dominator_134 : decode cX6_dominator 134 = .ok (.iaload, 1) := by decide +kernel
theorem dX6_dominator_135 : decode cX6_dominator 135 = .ok (.ireturn, 1) := by decide +kernel
set_option maxRecDepth 20000 in
theorem ggX6_layThresholds_X6_of : GoodIn wsX6_layThresholds wsX6_of := goodIn_r _ [7, 1, 8, 9, 10, 11, 12, 13, 14, 15, 16, 17, 18, 19, 20, 21, 22, 23, 24, 25, 26, 27, 28] (by decide +kernel) (by decide +kernel)
set_option maxRecDepth 20000 in
theorem gX6_layThresholds_X6_of : GoodIn wsX6_layThresholds (wsV RX6 72 RX6 yX6_of wsX6_of) := goodIn_app (goodIn_of _ (by decide +kernel)) ggX6_layThresholds_X6_of
theorem dX6_layThresholds_0 : decode cX6_layThresholds 0 = .ok (.iconst 0, 1) := by decide +kernel
theorem dX6_layThresholds_1 : decode cX6_layThresholds 1 = .ok (.istore_n 1, 1) := by decide +kernel
theorem dX6_layThresholds_2 : decode cX6_layThresholds 2 = .ok (.sipush 1000, 3) := by decide +kernel
theorem dX6_layThresholds_5 : decode cX6_layThresholds 5 = .ok (.istore_n 2, 1) := by decide +kernel
theorem dX6_layThresholds_6 : decode cX6_layThresholds 6 = .ok (.iload_n 2, 1) := by decide +kernel
theorem dX6_layThresholds_7 : decode cX6_layThresholds 7 = .ok (.ifCond .le 68, 3) := by decide +kernel
theorem dX6_layThresholds_10 : decode cX6_layThresholds 10 = .ok (.iconst 0, 1) := by decide +kernel
theorem dX6_layThresholds_11 : decode cX6_layThresholds 11 = .ok (.istore_n 3, 1) := by decide +kernel
theorem dX6_layThresholds_12 : decode cX6_layThresholds 12 = .ok (.iconst 0, 1) := by decide +kernel
theorem dX6_layThresholds_13 : decode cX6_layThresholds 13 = .ok (.istore 4, 2) := by decide +kernel
theorem dX6_layThresholds_15 : decode cX6_layThresholds 15 = .ok (.iload 4, 2) := by decide +kernel
theorem dX6_layThresholds_17 : decode cX6_layThresholds 17 = .ok (.aload_n 0, 1) := by decide +kernel
theorem dX6_layThresholds_18 : decode cX6_layThresholds 18 = .ok (.getfield 7, 3) := by decide +kernel
theorem dX6_layThresholds_21 : decode cX6_layThresholds 21 = .ok (.iconst 0, 1) := by decide +kernel
theorem dX6_layThresholds_22 : decode cX6_layThresholds 22 = .ok (.iaload, 1) := by decide +kernel
theorem dX6_layThresholds_23 : decode cX6_layThresholds 23 = .ok (.if_icmp .ge 37, 3) := by decide +kernel
theorem dX6_layThresholds_26 : decode cX6_layThresholds 26 = .ok (.aload_n 0, 1) := by decide +kernel
theorem dX6_layThresholds_27 : decode cX6_layThresholds 27 = .ok (.iload 4, 2) := by decide +kernel
theorem dX6_layThresholds_29 : decode cX6_layThresholds 29 = .ok (.iconst 2, 1) := by decide +kernel
theorem dX6_layThresholds_30 : decode cX6_layThresholds 30 = .ok (.invokevirtual 72, 3) := by decide +kernel
theorem dX6_layThresholds_33 : decode cX6_layThresholds 33 = .ok (.istore 5, 2) := by decide +kernel
theorem dX6_layThresholds_35 : decode cX6_layThresholds 35 = .ok (.iload 5, 2) := by decide +kernel
theorem dX6_layThresholds_37 : decode cX6_layThresholds 37 = .ok (.iload_n 2, 1) := by decide +kernel
theorem dX6_layThresholds_38 : decode cX6_layThresholds 38 = .ok (.if_icmp .ge 14, 3) := by decide +kernel
theorem dX6_layThresholds_41 : decode cX6_layThresholds 41 = .ok (.iload 5, 2) := by decide +kernel
theorem dX6_layThresholds_43 : decode cX6_layThresholds 43 = .ok (.iload_n 3, 1) := by decide +kernel
theorem dX6_layThresholds_44 : decode cX6_layThresholds 44 = .ok (.if_icmp .le 8, 3) := by decide +kernel
theorem dX6_layThresholds_47 : decode cX6_layThresholds 47 = .ok (.iload 5, 2) := by decide +kernel
theorem dX6_layThresholds_49 : decode cX6_layThresholds 49 = .ok (.goto 4, 3) := by decide +kernel
theorem dX6_layThresholds_52 : decode cX6_layThresholds 52 = .ok (.iload_n 3, 1) := by decide +kernel
theorem dX6_layThresholds_53 : decode cX6_layThresholds 53 = .ok (.istore_n 3, 1) := by decide +kernel
theorem dX6_layThresholds_54 : decode cX6_layThresholds 54 = .ok (.iinc 4 1, 3) := by decide +kernel
theorem dX6_layThresholds_57 : decode cX6_layThresholds 57 = .ok (.goto (-42), 3) := by decide +kernel
theorem dX6_layThresholds_60 : decode cX6_layThresholds 60 = .ok (.aload_n 0, 1) := by decide +kernel
theorem dX6_layThresholds_61 : decode cX6_layThresholds 61 = .ok (.getfield 38, 3) := by decide +kernel
theorem dX6_layThresholds_64 : decode cX6_layThresholds 64 = .ok (.iload_n 1, 1) := by decide +kernel
theorem dX6_layThresholds_65 : decode cX6_layThresholds 65 = .ok (.iload_n 3, 1) := by decide +kernel
theorem dX6_layThresholds_66 : decode cX6_layThresholds 66 = .ok (.iastore, 1) := by decide +kernel
theorem dX6_layThresholds_67 : decode cX6_layThresholds 67 = .ok (.iinc 1 1, 3) := by decide +kernel
theorem dX6_layThresholds_70 : decode cX6_layThresholds 70 = .ok (.iload_n 3, 1) := by decide +kernel
theorem dX6_layThresholds_71 : decode cX6_layThresholds 71 = .ok (.istore_n 2, 1) := by decide +kernel
theorem dX6_layThresholds_72 : decode cX6_layThresholds 72 = .ok (.goto (-66), 3) := by decide +kernel
theorem dX6_layThresholds_75 : decode cX6_layThresholds 75 = .ok (.iload_n 1, 1) := by decide +kernel
theorem dX6_layThresholds_76 : decode cX6_layThresholds 76 = .ok (.ireturn, 1) := by decide +kernel
set_option maxRecDepth 20000 in
theorem ggX6_threshold_X6_layThresholds : GoodIn wsX6_threshold wsX6_layThresholds := goodIn_r _ [6, 7, 1, 8, 9, 10, 5, 11, 15, 16, 17, 18, 19, 20, 21, 22, 23, 24, 25, 26, 27, 28, 29, 30, 31, 32, 33, 34, 35] (by decide +kernel) (by decide +kernel)
set_option maxRecDepth 20000 in
theorem gX6_threshold_X6_layThresholds : GoodIn wsX6_threshold (wsV RX6 191 RX6 yX6_layThresholds wsX6_layThresholds) := goodIn_app (goodIn_of _ (by decide +kernel)) ggX6_threshold_X6_layThresholds
set_option maxRecDepth 20000 in
theorem ggX6_threshold_X6_in : GoodIn wsX6_threshold wsX6_in := goodIn_r _ [14] (by decide +kernel) (by decide +kernel)
set_option maxRecDepth 20000 in
theorem gX6_threshold_X6_in : GoodIn wsX6_threshold (va_wsS RX6 53 yX6_in wsX6_in) := goodIn_app (goodIn_of _ (by decide +kernel)) ggX6_threshold_X6_in
theorem dX6_threshold_0 : decode cX6_threshold 0 = .ok (.aload_n 0, 1) := by decide +kernel
theorem dX6_threshold_1 : decode cX6_threshold 1 = .ok (.invokevirtual 191, 3) := by decide +kernel
theorem dX6_threshold_4 : decode cX6_threshold 4 = .ok (.istore_n 2, 1) := by decide +kernel
theorem dX6_threshold_5 : decode cX6_threshold 5 = .ok (.iload_n 1, 1) := by decide +kernel
theorem dX6_threshold_6 : decode cX6_threshold 6 = .ok (.iconst (-1), 1) := by decide +kernel
theorem dX6_threshold_7 : decode cX6_threshold 7 = .ok (.if_icmp .ne 7, 3) := by decide +kernel
theorem dX6_threshold_10 : decode cX6_threshold 10 = .ok (.iload_n 2, 1) := by decide +kernel
theorem dX6_threshold_11 : decode cX6_threshold 11 = .ok (.goto 25, 3) := by decide +kernel
theorem dX6_threshold_14 : decode cX6_threshold 14 = .ok (.iload_n 1, 1) := by decide +kernel
theorem dX6_threshold_15 : decode cX6_threshold 15 = .ok (.iconst 0, 1) := by decide +kernel
theorem dX6_threshold_16 : decode cX6_threshold 16 = .ok (.iload_n 2, 1) := by decide +kernel
theorem dX6_threshold_17 : decode cX6_threshold 17 = .ok (.iconst 1, 1) := by decide +kernel
theorem dX6_threshold_18 : decode cX6_threshold 18 = .ok (.isub, 1) := by decide +kernel
theorem dX6_threshold_19 : decode cX6_threshold 19 = .ok (.invokestatic 53, 3) := by decide +kernel
theorem dX6_threshold_22 : decode cX6_threshold 22 = .ok (.ifCond .eq 12, 3) := by decide +kernel
theorem dX6_threshold_25 : decode cX6_threshold 25 = .ok (.aload_n 0, 1) := by decide +kernel
theorem dX6_threshold_26 : decode cX6_threshold 26 = .ok (.getfield 38, 3) := by decide +kernel
theorem dX6_threshold_29 : decode cX6_threshold 29 = .ok (.iload_n 1, 1) := by decide +kernel
theorem dX6_threshold_30 : decode cX6_threshold 30 = .ok (.iaload, 1) := by decide +kernel
theorem dX6_threshold_31 : decode cX6_threshold 31 = .ok (.goto 5, 3) := by decide +kernel
theorem dX6_threshold_34 : decode cX6_threshold 34 = .ok (.bipush (-6), 2) := by decide +kernel
theorem dX6_threshold_36 : decode cX6_threshold 36 = .ok (.ireturn, 1) := by decide +kernel
set_option maxRecDepth 20000 in
theorem ggX6_plain_X6_layThresholds : GoodIn wsX6_plain wsX6_layThresholds := goodIn_r _ [7, 2, 1, 8, 9, 10, 6, 11, 30, 31, 32, 33, 34, 35, 36, 37, 38, 39, 40, 41, 42, 43, 44, 45, 46, 47, 48, 49, 50] (by decide +kernel) (by decide +kernel)
set_option maxRecDepth 20000 in
theorem gX6_plain_X6_layThresholds : GoodIn wsX6_plain (wsV RX6 191 RX6 yX6_layThresholds wsX6_layThresholds) := goodIn_app (goodIn_of _ (by decide +kernel)) ggX6_plain_X6_layThresholds
set_option maxRecDepth 20000 in
theorem ggX6_plain_X6_in : GoodIn wsX6_plain wsX6_in := goodIn_r _ [14] (by decide +kernel) (by decide +kernel)
set_option maxRecDepth 20000 in
theorem gX6_plain_X6_in : GoodIn wsX6_plain (va_wsS RX6 53 yX6_in wsX6_in) := goodIn_app (goodIn_of _ (by decide +kernel)) ggX6_plain_X6_in
set_option maxRecDepth 20000 in
theorem ggX6_plain_X6_sets : GoodIn wsX6_plain wsX6_sets := goodIn_r _ [18, 2, 30, 31, 32, 33, 34, 35, 36, 37, 38, 39, 40, 41, 42, 43, 44, 45, 46, 47, 48, 49, 50] (by decide +kernel) (by decide +kernel)
set_option maxRecDepth 20000 in
theorem gX6_plain_X6_sets : GoodIn wsX6_plain (wsV RX6 132 RX6 yX6_sets wsX6_sets) := goodIn_app (goodIn_of _ (by decide +kernel)) ggX6_plain_X6_sets
set_option maxRecDepth 20000 in
theorem ggX6_plain_X6_of : GoodIn wsX6_plain wsX6_of := goodIn_r _ [11, 2, 30, 31, 32, 33, 34, 35, 36, 37, 38, 39, 40, 41, 42, 43, 44, 45, 46, 47, 48, 49, 50] (by decide +kernel) (by decide +kernel)
set_option maxRecDepth 20000 in
theorem gX6_plain_X6_of : GoodIn wsX6_plain (wsV RX6 72 RX6 yX6_of wsX6_of) := goodIn_app (goodIn_of _ (by decide +kernel)) ggX6_plain_X6_of
set_option maxRecDepth 20000 in
theorem ggX6_plain_X6_has : GoodIn wsX6_plain wsX6_has := goodIn_r _ [21] (by decide +kernel) (by decide +kernel)
set_option maxRecDepth 20000 in
theorem gX6_plain_X6_has : GoodIn wsX6_plain (va_wsS RX6 83 yX6_has wsX6_has) := goodIn_app (goodIn_of _ (by decide +kernel)) ggX6_plain_X6_has
set_option maxRecDepth 20000 in
theorem ggX6_plain_X6_sum : GoodIn wsX6_plain wsX6_sum := goodIn_r _ [25, 2, 19, 20, 6, 21, 8, 9, 10, 11, 30, 31, 32, 33, 34, 35, 36, 37, 38, 39, 40, 41, 42, 43, 44, 45, 46, 47, 48, 49, 50] (by decide +kernel) (by decide +kernel)
set_option maxRecDepth 20000 in
theorem gX6_plain_X6_sum : GoodIn wsX6_plain (wsV RX6 125 RX6 yX6_sum wsX6_sum) := goodIn_app (goodIn_of _ (by decide +kernel)) ggX6_plain_X6_sum
set_option maxRecDepth 20000 in
theorem ggX6_plain_X6_isAllowed : GoodIn wsX6_plain wsX6_isAllowed := goodIn_r _ [29, 2, 19, 20, 6, 21, 8, 9, 10, 11, 30, 31, 32, 33, 34, 35, 36, 37, 38, 39, 40, 41, 42, 43, 44, 45, 46, 47, 48, 49, 50] (by decide +kernel) (by decide +kernel)
set_option maxRecDepth 20000 in
theorem gX6_plain_X6_isAllowed : GoodIn wsX6_plain (wsV RX6 135 RX6 yX6_isAllowed wsX6_isAllowed) := goodIn_app (goodIn_of _ (by decide +kernel)) ggX6_plain_X6_isAllowed
theorem dX6_plain_0 : decode cX6_plain 0 = .ok (.iload_n 1, 1) := by decide +kernel
theorem dX6_plain_1 : decode cX6_plain 1 = .ok (.iconst 0, 1) := by decide +kernel
theorem dX6_plain_2 : decode cX6_plain 2 = .ok (.aload_n 0, 1) := by decide +kernel
theorem dX6_plain_3 : decode cX6_plain 3 = .ok (.invokevirtual 191, 3) := by decide +kernel
theorem dX6_plain_6 : decode cX6_plain 6 = .ok (.iconst 1, 1) := by decide +kernel
theorem dX6_plain_7 : decode cX6_plain 7 = .ok (.isub, 1) := by decide +kernel
theorem dX6_plain_8 : decode cX6_plain 8 = .ok (.invokestatic 53, 3) := by decide +kernel
theorem dX6_plain_11 : decode cX6_plain 11 = .ok (.ifCond .ne 5, 3) := by decide +kernel
theorem dX6_plain_14 : decode cX6_plain 14 = .ok (.iconst (-1), 1) := by decide +kernel
theorem dX6_plain_15 : decode cX6_plain 15 = .ok (.ireturn, 1) := by decide +kernel
theorem dX6_plain_16 : decode cX6_plain 16 = .ok (.aload_n 0, 1) := by decide +kernel
theorem dX6_plain_17 : decode cX6_plain 17 = .ok (.getfield 38, 3) := by decide +kernel
theorem dX6_plain_20 : decode cX6_plain 20 = .ok (.iload_n 1, 1) := by decide +kernel
theorem dX6_plain_21 : decode cX6_plain 21 = .ok (.iaload, 1) := by decide +kernel
theorem dX6_plain_22 : decode cX6_plain 22 = .ok (.istore_n 2, 1) := by decide +kernel
theorem dX6_plain_23 : decode cX6_plain 23 = .ok (.aload_n 0, 1) := by decide +kernel
theorem dX6_plain_24 : decode cX6_plain 24 = .ok (.getfield 7, 3) := by decide +kernel
theorem dX6_plain_27 : decode cX6_plain 27 = .ok (.iconst 1, 1) := by decide +kernel
theorem dX6_plain_28 : decode cX6_plain 28 = .ok (.iaload, 1) := by decide +kernel
theorem dX6_plain_29 : decode cX6_plain 29 = .ok (.aload_n 0, 1) := by decide +kernel
theorem dX6_plain_30 : decode cX6_plain 30 = .ok (.getfield 7, 3) := by decide +kernel
theorem dX6_plain_33 : decode cX6_plain 33 = .ok (.iconst 2, 1) := by decide +kernel
theorem dX6_plain_34 : decode cX6_plain 34 = .ok (.iaload, 1) := by decide +kernel
theorem dX6_plain_35 : decode cX6_plain 35 = .ok (.iload_n 2, 1) := by decide +kernel
theorem dX6_plain_36 : decode cX6_plain 36 = .ok (.imul, 1) := by decide +kernel
theorem dX6_plain_37 : decode cX6_plain 37 = .ok (.isub, 1) := by decide +kernel
theorem dX6_plain_38 : decode cX6_plain 38 = .ok (.istore_n 3, 1) := by decide +kernel
theorem dX6_plain_39 : decode cX6_plain 39 = .ok (.iload_n 3, 1) := by decide +kernel
theorem dX6_plain_40 : decode cX6_plain 40 = .ok (.ifCond .ge 6, 3) := by decide +kernel
theorem dX6_plain_43 : decode cX6_plain 43 = .ok (.bipush (-6), 2) := by decide +kernel
theorem dX6_plain_45 : decode cX6_plain 45 = .ok (.ireturn, 1) := by decide +kernel
theorem dX6_plain_46 : decode cX6_plain 46 = .ok (.iconst 0, 1) := by decide +kernel
theorem dX6_plain_47 : decode cX6_plain 47 = .ok (.istore 4, 2) := by decide +kernel
theorem dX6_plain_49 : decode cX6_plain 49 = .ok (.iconst 0, 1) := by decide +kernel
theorem dX6_plain_50 : decode cX6_plain 50 = .ok (.istore 5, 2) := by decide +kernel
theorem dX6_plain_52 : decode cX6_plain 52 = .ok (.iload 5, 2) := by decide +kernel
theorem dX6_plain_54 : decode cX6_plain 54 = .ok (.aload_n 0, 1) := by decide +kernel
theorem dX6_plain_55 : decode cX6_plain 55 = .ok (.invokevirtual 132, 3) := by decide +kernel
theorem dX6_plain_58 : decode cX6_plain 58 = .ok (.if_icmp .ge 121, 3) := by decide +kernel
theorem dX6_plain_61 : decode cX6_plain 61 = .ok (.iconst 0, 1) := by decide +kernel
theorem dX6_plain_62 : decode cX6_plain 62 = .ok (.istore 6, 2) := by decide +kernel
theorem dX6_plain_64 : decode cX6_plain 64 = .ok (.iconst 0, 1) := by decide +kernel
theorem dX6_plain_65 : decode cX6_plain 65 = .ok (.istore 7, 2) := by decide +kernel
theorem dX6_plain_67 : decode cX6_plain 67 = .ok (.iload 7, 2) := by decide +kernel
theorem dX6_plain_69 : decode cX6_plain 69 = .ok (.aload_n 0, 1) := by decide +kernel
theorem dX6_plain_70 : decode cX6_plain 70 = .ok (.getfield 7, 3) := by decide +kernel
theorem dX6_plain_73 : decode cX6_plain 73 = .ok (.iconst 0, 1) := by decide +kernel
theorem dX6_plain_74 : decode cX6_plain 74 = .ok (.iaload, 1) := by decide +kernel
theorem dX6_plain_75 : decode cX6_plain 75 = .ok (.if_icmp .ge 58, 3) := by decide +kernel
theorem dX6_plain_78 : decode cX6_plain 78 = .ok (.aload_n 0, 1) := by decide +kernel
theorem dX6_plain_79 : decode cX6_plain 79 = .ok (.iload 7, 2) := by decide +kernel
theorem dX6_plain_81 : decode cX6_plain 81 = .ok (.iconst 2, 1) := by decide +kernel
theorem dX6_plain_82 : decode cX6_plain 82 = .ok (.invokevirtual 72, 3) := by decide +kernel
theorem dX6_plain_85 : decode cX6_plain 85 = .ok (.iload_n 2, 1) := by decide +kernel
theorem dX6_plain_86 : decode cX6_plain 86 = .ok (.isub, 1) := by decide +kernel
theorem dX6_plain_87 : decode cX6_plain 87 = .ok (.istore 8, 2) := by decide +kernel
theorem dX6_plain_89 : decode cX6_plain 89 = .ok (.iload 6, 2) := by decide +kernel
theorem dX6_plain_91 : decode cX6_plain 91 = .ok (.iload 5, 2) := by decide +kernel
theorem dX6_plain_93 : decode cX6_plain 93 = .ok (.iload 7, 2) := by decide +kernel
theorem dX6_plain_95 : decode cX6_plain 95 = .ok (.invokestatic 83, 3) := by decide +kernel
theorem dX6_plain_98 : decode cX6_plain 98 = .ok (.ifCond .eq 25, 3) := by decide +kernel
theorem dX6_plain_101 : decode cX6_plain 101 = .ok (.aload_n 0, 1) := by decide +kernel
theorem dX6_plain_102 : decode cX6_plain 102 = .ok (.iload 7, 2) := by decide +kernel
theorem dX6_plain_104 : decode cX6_plain 104 = .ok (.iconst 1, 1) := by decide +kernel
theorem dX6_plain_105 : decode cX6_plain 105 = .ok (.invokevirtual 72, 3) := by decide +kernel
theorem dX6_plain_108 : decode cX6_plain 108 = .ok (.iload 8, 2) := by decide +kernel
theorem dX6_plain_110 : decode cX6_plain 110 = .ok (.ifCond .le 8, 3) := by decide +kernel
theorem dX6_plain_113 : decode cX6_plain 113 = .ok (.iload 8, 2) := by decide +kernel
theorem dX6_plain_115 : decode cX6_plain 115 = .ok (.goto 4, 3) := by decide +kernel
theorem dX6_plain_118 : decode cX6_plain 118 = .ok (.iconst 0, 1) := by decide +kernel
theorem dX6_plain_119 : decode cX6_plain 119 = .ok (.iadd, 1) := by decide +kernel
theorem dX6_plain_120 : decode cX6_plain 120 = .ok (.goto 4, 3) := by decide +kernel
theorem dX6_plain_123 : decode cX6_plain 123 = .ok (.iconst 0, 1) := by decide +kernel
theorem dX6_plain_124 : decode cX6_plain 124 = .ok (.iadd, 1) := by decide +kernel
theorem dX6_plain_125 : decode cX6_plain 125 = .ok (.istore 6, 2) := by decide +kernel
theorem dX6_plain_127 : decode cX6_plain 127 = .ok (.iinc 7 1, 3) := by decide +kernel
theorem dX6_plain_130 : decode cX6_plain 130 = .ok (.goto (-63), 3) := by decide +kernel
theorem dX6_plain_133 : decode cX6_plain 133 = .ok (.aload_n 0, 1) := by decide +kernel
theorem dX6_plain_134 : decode cX6_plain 134 = .ok (.iload 5, 2) := by decide +kernel
theorem dX6_plain_136 : decode cX6_plain 136 = .ok (.iconst 0, 1) := by decide +kernel
theorem dX6_plain_137 : decode cX6_plain 137 = .ok (.invokevirtual 125, 3) := by decide +kernel
theorem dX6_plain_140 : decode cX6_plain 140 = .ok (.istore 7, 2) := by decide +kernel
theorem dX6_plain_142 : decode cX6_plain 142 = .ok (.iload 6, 2) := by decide +kernel
theorem dX6_plain_144 : decode cX6_plain 144 = .ok (.iload_n 3, 1) := by decide +kernel
theorem dX6_plain_145 : decode cX6_plain 145 = .ok (.if_icmp .gt 24, 3) := by decide +kernel
theorem dX6_plain_148 : decode cX6_plain 148 = .ok (.iload 7, 2) := by decide +kernel
theorem dX6_plain_150 : decode cX6_plain 150 = .ok (.iload 4, 2) := by decide +kernel
theorem dX6_plain_152 : decode cX6_plain 152 = .ok (.if_icmp .le 17, 3) := by decide +kernel
theorem dX6_plain_155 : decode cX6_plain 155 = .ok (.aload_n 0, 1) := by decide +kernel
theorem dX6_plain_156 : decode cX6_plain 156 = .ok (.iload 5, 2) := by decide +kernel
theorem dX6_plain_158 : decode cX6_plain 158 = .ok (.invokevirtual 135, 3) := by decide +kernel
theorem dX6_plain_161 : decode cX6_plain 161 = .ok (.ifCond .eq 8, 3) := by decide +kernel
theorem dX6_plain_164 : decode cX6_plain 164 = .ok (.iload 7, 2) := by decide +kernel
theorem dX6_plain_166 : decode cX6_plain 166 = .ok (.goto 5, 3) := by decide +kernel
theorem dX6_plain_169 : decode cX6_plain 169 = .ok (.iload 4, 2) := by decide +kernel
theorem dX6_plain_171 : decode cX6_plain 171 = .ok (.istore 4, 2) := by decide +kernel
theorem dX6_plain_173 : decode cX6_plain 173 = .ok (.iinc 5 1, 3) := by decide +kernel
theorem dX6_plain_176 : decode cX6_plain 176 = .ok (.goto (-124), 3) := by decide +kernel
theorem dX6_plain_179 : decode cX6_plain 179 = .ok (.iload 4, 2) := by decide +kernel
theorem dX6_plain_181 : decode cX6_plain 181 = .ok (.ireturn, 1) := by decide +kernel
set_option maxRecDepth 20000 in
theorem ggX6_layRests_X6_sets : GoodIn wsX6_layRests wsX6_sets := goodIn_r _ [10, 11, 30, 31, 32, 33, 34, 35, 36, 37, 38, 39, 40, 41, 42, 43, 44, 45, 46, 47, 48, 49, 50] (by decide +kernel) (by decide +kernel)
set_option maxRecDepth 20000 in
theorem gX6_layRests_X6_sets : GoodIn wsX6_layRests (wsV RX6 132 RX6 yX6_sets wsX6_sets) := goodIn_app (goodIn_of _ (by decide +kernel)) ggX6_layRests_X6_sets
set_option maxRecDepth 20000 in
theorem ggX6_layRests_X6_sum : GoodIn wsX6_layRests wsX6_sum := goodIn_r _ [15, 11, 16, 17, 9, 18, 19, 20, 21, 22, 30, 31, 32, 33, 34, 35, 36, 37, 38, 39, 40, 41, 42, 43, 44, 45, 46, 47, 48, 49, 50] (by decide +kernel) (by decide +kernel)
set_option maxRecDepth 20000 in
theorem gX6_layRests_X6_sum : GoodIn wsX6_layRests (wsV RX6 125 RX6 yX6_sum wsX6_sum) := goodIn_app (goodIn_of _ (by decide +kernel)) ggX6_layRests_X6_sum
set_option maxRecDepth 20000 in
theorem ggX6_layRests_X6_sizeOf : GoodIn wsX6_layRests wsX6_sizeOf := goodIn_r _ [25] (by decide +kernel) (by decide +kernel)
set_option maxRecDepth 20000 in
theorem gX6_layRests_X6_sizeOf : GoodIn wsX6_layRests (va_wsS RX6 155 yX6_sizeOf wsX6_sizeOf) := goodIn_app (goodIn_of _ (by decide +kernel)) ggX6_layRests_X6_sizeOf
set_option maxRecDepth 20000 in
theorem ggX6_layRests_X6_isAllowed : GoodIn wsX6_layRests wsX6_isAllowed := goodIn_r _ [29, 11, 16, 17, 9, 18, 19, 20, 21, 22, 30, 31, 32, 33, 34, 35, 36, 37, 38, 39, 40, 41, 42, 43, 44, 45, 46, 47, 48, 49, 50] (by decide +kernel) (by decide +kernel)
set_option maxRecDepth 20000 in
theorem gX6_layRests_X6_isAllowed : GoodIn wsX6_layRests (wsV RX6 135 RX6 yX6_isAllowed wsX6_isAllowed) := goodIn_app (goodIn_of _ (by decide +kernel)) ggX6_layRests_X6_isAllowed
theorem dX6_layRests_0 : decode cX6_layRests 0 = .ok (.aload_n 0, 1) := by decide +kernel
theorem dX6_layRests_1 : decode cX6_layRests 1 = .ok (.iconst 0, 1) := by decide +kernel
theorem dX6_layRests_2 : decode cX6_layRests 2 = .ok (.putfield 194, 3) := by decide +kernel
theorem dX6_layRests_5 : decode cX6_layRests 5 = .ok (.iconst 0, 1) := by decide +kernel
theorem dX6_layRests_6 : decode cX6_layRests 6 = .ok (.istore_n 3, 1) := by decide +kernel
theorem dX6_layRests_7 : decode cX6_layRests 7 = .ok (.iload_n 3, 1) := by decide +kernel
theorem dX6_layRests_8 : decode cX6_layRests 8 = .ok (.aload_n 0, 1) := by decide +kernel
theorem dX6_layRests_9 : decode cX6_layRests 9 = .ok (.invokevirtual 132, 3) := by decide +kernel
theorem dX6_layRests_12 : decode cX6_layRests 12 = .ok (.if_icmp .ge 97, 3) := by decide +kernel
theorem dX6_layRests_15 : decode cX6_layRests 15 = .ok (.aload_n 0, 1) := by decide +kernel
theorem dX6_layRests_16 : decode cX6_layRests 16 = .ok (.getfield 50, 3) := by decide +kernel
theorem dX6_layRests_19 : decode cX6_layRests 19 = .ok (.iload_n 3, 1) := by decide +kernel
theorem dX6_layRests_20 : decode cX6_layRests 20 = .ok (.aload_n 0, 1) := by decide +kernel
theorem dX6_layRests_21 : decode cX6_layRests 21 = .ok (.iload_n 3, 1) := by decide +kernel
theorem dX6_layRests_22 : decode cX6_layRests 22 = .ok (.iconst 2, 1) := by decide +kernel
theorem dX6_layRests_23 : decode cX6_layRests 23 = .ok (.invokevirtual 125, 3) := by decide +kernel
theorem dX6_layRests_26 : decode cX6_layRests 26 = .ok (.iastore, 1) := by decide +kernel
theorem dX6_layRests_27 : decode cX6_layRests 27 = .ok (.iload_n 3, 1) := by decide +kernel
theorem dX6_layRests_28 : decode cX6_layRests 28 = .ok (.iload_n 1, 1) := by decide +kernel
theorem dX6_layRests_29 : decode cX6_layRests 29 = .ok (.iconst (-1), 1) := by decide +kernel
theorem dX6_layRests_30 : decode cX6_layRests 30 = .ok (.ixor, 1) := by decide +kernel
theorem dX6_layRests_31 : decode cX6_layRests 31 = .ok (.iand, 1) := by decide +kernel
theorem dX6_layRests_32 : decode cX6_layRests 32 = .ok (.ifCond .ne 71, 3) := by decide +kernel
theorem dX6_layRests_35 : decode cX6_layRests 35 = .ok (.iload_n 1, 1) := by decide +kernel
theorem dX6_layRests_36 : decode cX6_layRests 36 = .ok (.iload_n 3, 1) := by decide +kernel
theorem dX6_layRests_37 : decode cX6_layRests 37 = .ok (.ixor, 1) := by decide +kernel
theorem dX6_layRests_38 : decode cX6_layRests 38 = .ok (.invokestatic 155, 3) := by decide +kernel
theorem dX6_layRests_41 : decode cX6_layRests 41 = .ok (.iload_n 2, 1) := by decide +kernel
theorem dX6_layRests_42 : decode cX6_layRests 42 = .ok (.if_icmp .gt 61, 3) := by decide +kernel
theorem dX6_layRests_45 : decode cX6_layRests 45 = .ok (.aload_n 0, 1) := by decide +kernel
theorem dX6_layRests_46 : decode cX6_layRests 46 = .ok (.iload_n 3, 1) := by decide +kernel
theorem dX6_layRests_47 : decode cX6_layRests 47 = .ok (.invokevirtual 135, 3) := by decide +kernel
theorem dX6_layRests_50 : decode cX6_layRests 50 = .ok (.ifCond .eq 53, 3) := by decide +kernel
theorem dX6_layRests_53 : decode cX6_layRests 53 = .ok (.aload_n 0, 1) := by decide +kernel
theorem dX6_layRests_54 : decode cX6_layRests 54 = .ok (.getfield 41, 3) := by decide +kernel
theorem dX6_layRests_57 : decode cX6_layRests 57 = .ok (.aload_n 0, 1) := by decide +kernel
theorem dX6_layRests_58 : decode cX6_layRests 58 = .ok (.getfield 194, 3) := by decide +kernel
theorem dX6_layRests_61 : decode cX6_layRests 61 = .ok (.iload_n 3, 1) := by decide +kernel
theorem dX6_layRests_62 : decode cX6_layRests 62 = .ok (.iastore, 1) := by decide +kernel
theorem dX6_layRests_63 : decode cX6_layRests 63 = .ok (.aload_n 0, 1) := by decide +kernel
theorem dX6_layRests_64 : decode cX6_layRests 64 = .ok (.getfield 44, 3) := by decide +kernel
theorem dX6_layRests_67 : decode cX6_layRests 67 = .ok (.aload_n 0, 1) := by decide +kernel
theorem dX6_layRests_68 : decode cX6_layRests 68 = .ok (.getfield 194, 3) := by decide +kernel
theorem dX6_layRests_71 : decode cX6_layRests 71 = .ok (.aload_n 0, 1) := by decide +kernel
theorem dX6_layRests_72 : decode cX6_layRests 72 = .ok (.iload_n 3, 1) := by decide +kernel
theorem dX6_layRests_73 : decode cX6_layRests 73 = .ok (.iconst 1, 1) := by decide +kernel
theorem dX6_layRests_74 : decode cX6_layRests 74 = .ok (.invokevirtual 125, 3) := by decide +kernel
theorem dX6_layRests_77 : decode cX6_layRests 77 = .ok (.iastore, 1) := by decide +kernel
theorem dX6_layRests_78 : decode cX6_layRests 78 = .ok (.aload_n 0, 1) := by decide +kernel
theorem dX6_layRests_79 : decode cX6_layRests 79 = .ok (.getfield 47, 3) := by decide +kernel
theorem dX6_layRests_82 : decode cX6_layRests 82 = .ok (.aload_n 0, 1) := by decide +kernel
theorem dX6_layRests_83 : decode cX6_layRests 83 = .ok (.getfield 194, 3) := by decide +kernel
theorem dX6_layRests_86 : decode cX6_layRests 86 = .ok (.aload_n 0, 1) := by decide +kernel
theorem dX6_layRests_87 : decode cX6_layRests 87 = .ok (.iload_n 3, 1) := by decide +kernel
theorem dX6_layRests_88 : decode cX6_layRests 88 = .ok (.iconst 0, 1) := by decide +kernel
theorem dX6_layRests_89 : decode cX6_layRests 89 = .ok (.invokevirtual 125, 3) := by decide +kernel
theorem dX6_layRests_92 : decode cX6_layRests 92 = .ok (.iastore, 1) := by decide +kernel
theorem dX6_layRests_93 : decode cX6_layRests 93 = .ok (.aload_n 0, 1) := by decide +kernel
theorem dX6_layRests_94 : decode cX6_layRests 94 = .ok (.dup, 1) := by decide +kernel
theorem dX6_layRests_95 : decode cX6_layRests 95 = .ok (.getfield 194, 3) := by decide +kernel
theorem dX6_layRests_98 : decode cX6_layRests 98 = .ok (.iconst 1, 1) := by decide +kernel
theorem dX6_layRests_99 : decode cX6_layRests 99 = .ok (.iadd, 1) := by decide +kernel
theorem dX6_layRests_100 : decode cX6_layRests 100 = .ok (.putfield 194, 3) := by decide +kernel
theorem dX6_layRests_103 : decode cX6_layRests 103 = .ok (.iinc 3 1, 3) := by decide +kernel
theorem dX6_layRests_106 : decode cX6_layRests 106 = .ok (.goto (-99), 3) := by decide +kernel
theorem dX6_layRests_109 : decode cX6_layRests 109 = .ok (.return_, 1) := by decide +kernel
theorem dX6_recoveredBy_0 : decode cX6_recoveredBy 0 = .ok (.bipush (-6), 2) := by decide +kernel
theorem dX6_recoveredBy_2 : decode cX6_recoveredBy 2 = .ok (.istore_n 2, 1) := by decide +kernel
theorem dX6_recoveredBy_3 : decode cX6_recoveredBy 3 = .ok (.iconst 0, 1) := by decide +kernel
theorem dX6_recoveredBy_4 : decode cX6_recoveredBy 4 = .ok (.istore_n 3, 1) := by decide +kernel
theorem dX6_recoveredBy_5 : decode cX6_recoveredBy 5 = .ok (.iload_n 3, 1) := by decide +kernel
theorem dX6_recoveredBy_6 : decode cX6_recoveredBy 6 = .ok (.aload_n 0, 1) := by decide +kernel
theorem dX6_recoveredBy_7 : decode cX6_recoveredBy 7 = .ok (.getfield 194, 3) := by decide +kernel
theorem dX6_recoveredBy_10 : decode cX6_recoveredBy 10 = .ok (.if_icmp .ge 55, 3) := by decide +kernel
theorem dX6_recoveredBy_13 : decode cX6_recoveredBy 13 = .ok (.aload_n 0, 1) := by decide +kernel
theorem dX6_recoveredBy_14 : decode cX6_recoveredBy 14 = .ok (.getfield 47, 3) := by decide +kernel
theorem dX6_recoveredBy_17 : decode cX6_recoveredBy 17 = .ok (.iload_n 3, 1) := by decide +kernel
theorem dX6_recoveredBy_18 : decode cX6_recoveredBy 18 = .ok (.iaload, 1) := by decide +kernel
theorem dX6_recoveredBy_19 : decode cX6_recoveredBy 19 = .ok (.iload_n 2, 1) := by decide +kernel
theorem dX6_recoveredBy_20 : decode cX6_recoveredBy 20 = .ok (.if_icmp .le 39, 3) := by decide +kernel
theorem dX6_recoveredBy_23 : decode cX6_recoveredBy 23 = .ok (.aload_n 0, 1) := by decide +kernel
theorem dX6_recoveredBy_24 : decode cX6_recoveredBy 24 = .ok (.getfield 44, 3) := by decide +kernel
theorem dX6_recoveredBy_27 : decode cX6_recoveredBy 27 = .ok (.iload_n 3, 1) := by decide +kernel
theorem dX6_recoveredBy_28 : decode cX6_recoveredBy 28 = .ok (.iaload, 1) := by decide +kernel
theorem dX6_recoveredBy_29 : decode cX6_recoveredBy 29 = .ok (.aload_n 0, 1) := by decide +kernel
theorem dX6_recoveredBy_30 : decode cX6_recoveredBy 30 = .ok (.getfield 50, 3) := by decide +kernel
theorem dX6_recoveredBy_33 : decode cX6_recoveredBy 33 = .ok (.iload_n 1, 1) := by decide +kernel
theorem dX6_recoveredBy_34 : decode cX6_recoveredBy 34 = .ok (.aload_n 0, 1) := by decide +kernel
theorem dX6_recoveredBy_35 : decode cX6_recoveredBy 35 = .ok (.getfield 41, 3) := by decide +kernel
theorem dX6_recoveredBy_38 : decode cX6_recoveredBy 38 = .ok (.iload_n 3, 1) := by decide +kernel
theorem dX6_recoveredBy_39 : decode cX6_recoveredBy 39 = .ok (.iaload, 1) := by decide +kernel
theorem dX6_recoveredBy_40 : decode cX6_recoveredBy 40 = .ok (.iand, 1) := by decide +kernel
theorem dX6_recoveredBy_41 : decode cX6_recoveredBy 41 = .ok (.iaload, 1) := by decide +kernel
theorem dX6_recoveredBy_42 : decode cX6_recoveredBy 42 = .ok (.iadd, 1) := by decide +kernel
theorem dX6_recoveredBy_43 : decode cX6_recoveredBy 43 = .ok (.aload_n 0, 1) := by decide +kernel
theorem dX6_recoveredBy_44 : decode cX6_recoveredBy 44 = .ok (.getfield 7, 3) := by decide +kernel
theorem dX6_recoveredBy_47 : decode cX6_recoveredBy 47 = .ok (.iconst 1, 1) := by decide +kernel
theorem dX6_recoveredBy_48 : decode cX6_recoveredBy 48 = .ok (.iaload, 1) := by decide +kernel
theorem dX6_recoveredBy_49 : decode cX6_recoveredBy 49 = .ok (.if_icmp .gt 10, 3) := by decide +kernel
theorem dX6_recoveredBy_52 : decode cX6_recoveredBy 52 = .ok (.aload_n 0, 1) := by decide +kernel
theorem dX6_recoveredBy_53 : decode cX6_recoveredBy 53 = .ok (.getfield 47, 3) := by decide +kernel
theorem dX6_recoveredBy_56 : decode cX6_recoveredBy 56 = .ok (.iload_n 3, 1) := by decide +kernel
theorem dX6_recoveredBy_57 : decode cX6_recoveredBy 57 = .ok (.iaload, 1) := by decide +kernel
theorem dX6_recoveredBy_58 : decode cX6_recoveredBy 58 = .ok (.istore_n 2, 1) := by decide +kernel
theorem dX6_recoveredBy_59 : decode cX6_recoveredBy 59 = .ok (.iinc 3 1, 3) := by decide +kernel
theorem dX6_recoveredBy_62 : decode cX6_recoveredBy 62 = .ok (.goto (-57), 3) := by decide +kernel
theorem dX6_recoveredBy_65 : decode cX6_recoveredBy 65 = .ok (.iload_n 2, 1) := by decide +kernel
theorem dX6_recoveredBy_66 : decode cX6_recoveredBy 66 = .ok (.ireturn, 1) := by decide +kernel
set_option maxRecDepth 20000 in
theorem ggX6_recovered_X6_isChoice : GoodIn wsX6_recovered wsX6_isChoice := goodIn_r _ [6, 1, 7, 8, 5, 9, 45, 46, 47, 48, 49, 50, 51, 52, 53, 54, 55, 56, 57, 58, 59, 60, 61, 62, 63, 64, 65] (by decide +kernel) (by decide +kernel)
set_option maxRecDepth 20000 in
theorem gX6_recovered_X6_isChoice : GoodIn wsX6_recovered (wsV RX6 148 RX6 yX6_isChoice wsX6_isChoice) := goodIn_app (goodIn_of _ (by decide +kernel)) ggX6_recovered_X6_isChoice
set_option maxRecDepth 20000 in
theorem ggX6_recovered_X6_in : GoodIn wsX6_recovered wsX6_in := goodIn_r _ [9] (by decide +kernel) (by decide +kernel)
set_option maxRecDepth 20000 in
theorem gX6_recovered_X6_in : GoodIn wsX6_recovered (va_wsS RX6 53 yX6_in wsX6_in) := goodIn_app (goodIn_of _ (by decide +kernel)) ggX6_recovered_X6_in
set_option maxRecDepth 20000 in
theorem ggX6_recovered_X6_sizeOf : GoodIn wsX6_recovered wsX6_sizeOf := goodIn_r _ [12] (by decide +kernel) (by decide +kernel)
set_option maxRecDepth 20000 in
theorem gX6_recovered_X6_sizeOf : GoodIn wsX6_recovered (va_wsS RX6 155 yX6_sizeOf wsX6_sizeOf) := goodIn_app (goodIn_of _ (by decide +kernel)) ggX6_recovered_X6_sizeOf
set_option maxRecDepth 20000 in
theorem ggX6_recovered_X6_layRests : GoodIn wsX6_recovered wsX6_layRests := goodIn_r _ [16, 17, 18, 19, 20, 21, 22, 23, 24, 5, 25, 1, 26, 27, 28, 29, 30, 31, 32, 33, 34, 35, 36, 10, 11, 12, 37, 38, 39, 40, 45, 46, 47, 48, 49, 50, 51, 52, 53, 54, 55, 56, 57, 58, 59, 60, 61, 62, 63, 64, 65] (by decide +kernel) (by decide +kernel)
set_option maxRecDepth 20000 in
theorem gX6_recovered_X6_layRests : GoodIn wsX6_recovered (wsV RX6 197 RX6 yX6_layRests wsX6_layRests) := goodIn_app (goodIn_of _ (by decide +kernel)) ggX6_recovered_X6_layRests
set_option maxRecDepth 20000 in
theorem ggX6_recovered_X6_recoveredBy : GoodIn wsX6_recovered wsX6_recoveredBy := goodIn_r _ [44, 17, 21, 20, 18, 19, 1, 45, 46, 47, 48, 49, 50, 51, 52, 53, 54, 55, 56, 57, 58, 59, 60, 61, 62, 63, 64, 65] (by decide +kernel) (by decide +kernel)
set_option maxRecDepth 20000 in
theorem gX6_recovered_X6_recoveredBy : GoodIn wsX6_recovered (wsV RX6 200 RX6 yX6_recoveredBy wsX6_recoveredBy) := goodIn_app (goodIn_of _ (by decide +kernel)) ggX6_recovered_X6_recoveredBy
theorem dX6_recovered_0 : decode cX6_recovered 0 = .ok (.aload_n 0, 1) := by decide +kernel
theorem dX6_recovered_1 : decode cX6_recovered 1 = .ok (.iload_n 1, 1) := by decide +kernel
theorem dX6_recovered_2 : decode cX6_recovered 2 = .ok (.invokevirtual 148, 3) := by decide +kernel
theorem dX6_recovered_5 : decode cX6_recovered 5 = .ok (.ifCond .eq 11, 3) := by decide +kernel
theorem dX6_recovered_8 : decode cX6_recovered 8 = .ok (.aload_n 0, 1) := by decide +kernel
theorem dX6_recovered_9 : decode cX6_recovered 9 = .ok (.iload_n 2, 1) := by decide +kernel
theorem dX6_recovered_10 : decode cX6_recovered 10 = .ok (.invokevirtual 148, 3) := by decide +kernel
theorem dX6_recovered_13 : decode cX6_recovered 13 = .ok (.ifCond .ne 5, 3) := by decide +kernel
theorem dX6_recovered_16 : decode cX6_recovered 16 = .ok (.iconst (-1), 1) := by decide +kernel
theorem dX6_recovered_17 : decode cX6_recovered 17 = .ok (.ireturn, 1) := by decide +kernel
theorem dX6_recovered_18 : decode cX6_recovered 18 = .ok (.iload_n 3, 1) := by decide +kernel
theorem dX6_recovered_19 : decode cX6_recovered 19 = .ok (.iconst 0, 1) := by decide +kernel
theorem dX6_recovered_20 : decode cX6_recovered 20 = .ok (.bipush 12, 2) := by decide +kernel
theorem dX6_recovered_22 : decode cX6_recovered 22 = .ok (.invokestatic 53, 3) := by decide +kernel
theorem dX6_recovered_25 : decode cX6_recovered 25 = .ok (.ifCond .ne 6, 3) := by decide +kernel
theorem dX6_recovered_28 : decode cX6_recovered 28 = .ok (.bipush (-2), 2) := by decide +kernel
theorem dX6_recovered_30 : decode cX6_recovered 30 = .ok (.ireturn, 1) := by decide +kernel
theorem dX6_recovered_31 : decode cX6_recovered 31 = .ok (.iload_n 2, 1) := by decide +kernel
theorem dX6_recovered_32 : decode cX6_recovered 32 = .ok (.invokestatic 155, 3) := by decide +kernel
theorem dX6_recovered_35 : decode cX6_recovered 35 = .ok (.aload_n 0, 1) := by decide +kernel
theorem dX6_recovered_36 : decode cX6_recovered 36 = .ok (.getfield 7, 3) := by decide +kernel
theorem dX6_recovered_39 : decode cX6_recovered 39 = .ok (.iconst 2, 1) := by decide +kernel
theorem dX6_recovered_40 : decode cX6_recovered 40 = .ok (.iaload, 1) := by decide +kernel
theorem dX6_recovered_41 : decode cX6_recovered 41 = .ok (.if_icmp .le 6, 3) := by decide +kernel
theorem dX6_recovered_44 : decode cX6_recovered 44 = .ok (.bipush (-5), 2) := by decide +kernel
theorem dX6_recovered_46 : decode cX6_recovered 46 = .ok (.ireturn, 1) := by decide +kernel
theorem dX6_recovered_47 : decode cX6_recovered 47 = .ok (.aload_n 0, 1) := by decide +kernel
theorem dX6_recovered_48 : decode cX6_recovered 48 = .ok (.iload_n 1, 1) := by decide +kernel
theorem dX6_recovered_49 : decode cX6_recovered 49 = .ok (.iload_n 3, 1) := by decide +kernel
theorem dX6_recovered_50 : decode cX6_recovered 50 = .ok (.invokevirtual 197, 3) := by decide +kernel
theorem dX6_recovered_53 : decode cX6_recovered 53 = .ok (.aload_n 0, 1) := by decide +kernel
theorem dX6_recovered_54 : decode cX6_recovered 54 = .ok (.iload_n 2, 1) := by decide +kernel
theorem dX6_recovered_55 : decode cX6_recovered 55 = .ok (.invokevirtual 200, 3) := by decide +kernel
theorem dX6_recovered_58 : decode cX6_recovered 58 = .ok (.ireturn, 1) := by decide +kernel
set_option maxRecDepth 20000 in
theorem ggX6_adversary_X6_isChoice : GoodIn wsX6_adversary wsX6_isChoice := goodIn_r _ [6, 1, 7, 8, 5, 9, 45, 46, 47, 48, 49, 50, 51, 52, 53, 54, 55, 56, 57, 58, 59, 60, 61, 62, 63, 64, 65] (by decide +kernel) (by decide +kernel)
set_option maxRecDepth 20000 in
theorem gX6_adversary_X6_isChoice : GoodIn wsX6_adversary (wsV RX6 148 RX6 yX6_isChoice wsX6_isChoice) := goodIn_app (goodIn_of _ (by decide +kernel)) ggX6_adversary_X6_isChoice
set_option maxRecDepth 20000 in
theorem ggX6_adversary_X6_in : GoodIn wsX6_adversary wsX6_in := goodIn_r _ [9] (by decide +kernel) (by decide +kernel)
set_option maxRecDepth 20000 in
theorem gX6_adversary_X6_in : GoodIn wsX6_adversary (va_wsS RX6 53 yX6_in wsX6_in) := goodIn_app (goodIn_of _ (by decide +kernel)) ggX6_adversary_X6_in
set_option maxRecDepth 20000 in
theorem ggX6_adversary_X6_layRests : GoodIn wsX6_adversary wsX6_layRests := goodIn_r _ [13, 14, 15, 16, 17, 18, 19, 20, 21, 5, 22, 1, 23, 24, 25, 26, 27, 28, 29, 30, 31, 32, 33, 34, 35, 36, 37, 38, 39, 40, 45, 46, 47, 48, 49, 50, 51, 52, 53, 54, 55, 56, 57, 58, 59, 60, 61, 62, 63, 64, 65] (by decide +kernel) (by decide +kernel)
set_option maxRecDepth 20000 in
theorem gX6_adversary_X6_layRests : GoodIn wsX6_adversary (wsV RX6 197 RX6 yX6_layRests wsX6_layRests) := goodIn_app (goodIn_of _ (by decide +kernel)) ggX6_adversary_X6_layRests
set_option maxRecDepth 20000 in
theorem ggX6_adversary_X6_recoveredBy : GoodIn wsX6_adversary wsX6_recoveredBy := goodIn_r _ [44, 14, 18, 17, 15, 16, 1, 45, 46, 47, 48, 49, 50, 51, 52, 53, 54, 55, 56, 57, 58, 59, 60, 61, 62, 63, 64, 65] (by decide +kernel) (by decide +kernel)
set_option maxRecDepth 20000 in
theorem gX6_adversary_X6_recoveredBy : GoodIn wsX6_adversary (wsV RX6 200 RX6 yX6_recoveredBy wsX6_recoveredBy) := goodIn_app (goodIn_of _ (by decide +kernel)) ggX6_adversary_X6_recoveredBy
set_option maxRecDepth 20000 in
theorem ggX6_adversary_X6_sets : GoodIn wsX6_adversary wsX6_sets := goodIn_r _ [22, 1, 45, 46, 47, 48, 49, 50, 51, 52, 53, 54, 55, 56, 57, 58, 59, 60, 61, 62, 63, 64, 65] (by decide +kernel) (by decide +kernel)
set_option maxRecDepth 20000 in
theorem gX6_adversary_X6_sets : GoodIn wsX6_adversary (wsV RX6 132 RX6 yX6_sets wsX6_sets) := goodIn_app (goodIn_of _ (by decide +kernel)) ggX6_adversary_X6_sets
set_option maxRecDepth 20000 in
theorem ggX6_adversary_X6_sizeOf : GoodIn wsX6_adversary wsX6_sizeOf := goodIn_r _ [36] (by decide +kernel) (by decide +kernel)
set_option maxRecDepth 20000 in
theorem gX6_adversary_X6_sizeOf : GoodIn wsX6_adversary (va_wsS RX6 155 yX6_sizeOf wsX6_sizeOf) := goodIn_app (goodIn_of _ (by decide +kernel)) ggX6_adversary_X6_sizeOf
theorem dX6_adversary_0 : decode cX6_adversary 0 = .ok (.aload_n 0, 1) := by decide +kernel
theorem dX6_adversary_1 : decode cX6_adversary 1 = .ok (.iload_n 1, 1) := by decide +kernel
theorem dX6_adversary_2 : decode cX6_adversary 2 = .ok (.invokevirtual 148, 3) := by decide +kernel
theorem dX6_adversary_5 : decode cX6_adversary 5 = .ok (.ifCond .ne 5, 3) := by decide +kernel
theorem dX6_adversary_8 : decode cX6_adversary 8 = .ok (.iconst (-1), 1) := by decide +kernel
theorem dX6_adversary_9 : decode cX6_adversary 9 = .ok (.ireturn, 1) := by decide +kernel
theorem dX6_adversary_10 : decode cX6_adversary 10 = .ok (.iload_n 2, 1) := by decide +kernel
theorem dX6_adversary_11 : decode cX6_adversary 11 = .ok (.iconst 0, 1) := by decide +kernel
theorem dX6_adversary_12 : decode cX6_adversary 12 = .ok (.bipush 12, 2) := by decide +kernel
theorem dX6_adversary_14 : decode cX6_adversary 14 = .ok (.invokestatic 53, 3) := by decide +kernel
theorem dX6_adversary_17 : decode cX6_adversary 17 = .ok (.ifCond .eq 12, 3) := by decide +kernel
theorem dX6_adversary_20 : decode cX6_adversary 20 = .ok (.iload_n 3, 1) := by decide +kernel
theorem dX6_adversary_21 : decode cX6_adversary 21 = .ok (.iconst 0, 1) := by decide +kernel
theorem dX6_adversary_22 : decode cX6_adversary 22 = .ok (.iconst 1, 1) := by decide +kernel
theorem dX6_adversary_23 : decode cX6_adversary 23 = .ok (.invokestatic 53, 3) := by decide +kernel
theorem dX6_adversary_26 : decode cX6_adversary 26 = .ok (.ifCond .ne 6, 3) := by decide +kernel
theorem dX6_adversary_29 : decode cX6_adversary 29 = .ok (.bipush (-2), 2) := by decide +kernel
theorem dX6_adversary_31 : decode cX6_adversary 31 = .ok (.ireturn, 1) := by decide +kernel
theorem dX6_adversary_32 : decode cX6_adversary 32 = .ok (.aload_n 0, 1) := by decide +kernel
theorem dX6_adversary_33 : decode cX6_adversary 33 = .ok (.iload_n 1, 1) := by decide +kernel
theorem dX6_adversary_34 : decode cX6_adversary 34 = .ok (.iload_n 2, 1) := by decide +kernel
theorem dX6_adversary_35 : decode cX6_adversary 35 = .ok (.invokevirtual 197, 3) := by decide +kernel
theorem dX6_adversary_38 : decode cX6_adversary 38 = .ok (.aload_n 0, 1) := by decide +kernel
theorem dX6_adversary_39 : decode cX6_adversary 39 = .ok (.iconst 0, 1) := by decide +kernel
theorem dX6_adversary_40 : decode cX6_adversary 40 = .ok (.invokevirtual 200, 3) := by decide +kernel
theorem dX6_adversary_43 : decode cX6_adversary 43 = .ok (.istore 4, 2) := by decide +kernel
theorem dX6_adversary_45 : decode cX6_adversary 45 = .ok (.iconst 0, 1) := by decide +kernel
theorem dX6_adversary_46 : decode cX6_adversary 46 = .ok (.istore 5, 2) := by decide +kernel
theorem dX6_adversary_48 : decode cX6_adversary 48 = .ok (.iconst 1, 1) := by decide +kernel
theorem dX6_adversary_49 : decode cX6_adversary 49 = .ok (.istore 6, 2) := by decide +kernel
theorem dX6_adversary_51 : decode cX6_adversary 51 = .ok (.iload 6, 2) := by decide +kernel
theorem dX6_adversary_53 : decode cX6_adversary 53 = .ok (.aload_n 0, 1) := by decide +kernel
theorem dX6_adversary_54 : decode cX6_adversary 54 = .ok (.invokevirtual 132, 3) := by decide +kernel
theorem dX6_adversary_57 : decode cX6_adversary 57 = .ok (.if_icmp .ge 60, 3) := by decide +kernel
theorem dX6_adversary_60 : decode cX6_adversary 60 = .ok (.iload 6, 2) := by decide +kernel
theorem dX6_adversary_62 : decode cX6_adversary 62 = .ok (.iload_n 1, 1) := by decide +kernel
theorem dX6_adversary_63 : decode cX6_adversary 63 = .ok (.iconst (-1), 1) := by decide +kernel
theorem dX6_adversary_64 : decode cX6_adversary 64 = .ok (.ixor, 1) := by decide +kernel
theorem dX6_adversary_65 : decode cX6_adversary 65 = .ok (.iand, 1) := by decide +kernel
theorem dX6_adversary_66 : decode cX6_adversary 66 = .ok (.ifCond .ne 45, 3) := by decide +kernel
theorem dX6_adversary_69 : decode cX6_adversary 69 = .ok (.iload 6, 2) := by decide +kernel
theorem dX6_adversary_71 : decode cX6_adversary 71 = .ok (.invokestatic 155, 3) := by decide +kernel
theorem dX6_adversary_74 : decode cX6_adversary 74 = .ok (.aload_n 0, 1) := by decide +kernel
theorem dX6_adversary_75 : decode cX6_adversary 75 = .ok (.getfield 7, 3) := by decide +kernel
theorem dX6_adversary_78 : decode cX6_adversary 78 = .ok (.iconst 2, 1) := by decide +kernel
theorem dX6_adversary_79 : decode cX6_adversary 79 = .ok (.iaload, 1) := by decide +kernel
theorem dX6_adversary_80 : decode cX6_adversary 80 = .ok (.if_icmp .gt 31, 3) := by decide +kernel
theorem dX6_adversary_83 : decode cX6_adversary 83 = .ok (.iload 4, 2) := by decide +kernel
theorem dX6_adversary_85 : decode cX6_adversary 85 = .ok (.ifCond .lt 26, 3) := by decide +kernel
theorem dX6_adversary_88 : decode cX6_adversary 88 = .ok (.aload_n 0, 1) := by decide +kernel
theorem dX6_adversary_89 : decode cX6_adversary 89 = .ok (.iload 6, 2) := by decide +kernel
theorem dX6_adversary_91 : decode cX6_adversary 91 = .ok (.invokevirtual 200, 3) := by decide +kernel
theorem dX6_adversary_94 : decode cX6_adversary 94 = .ok (.istore 7, 2) := by decide +kernel
theorem dX6_adversary_96 : decode cX6_adversary 96 = .ok (.iload 7, 2) := by decide +kernel
theorem dX6_adversary_98 : decode cX6_adversary 98 = .ok (.iload 4, 2) := by decide +kernel
theorem dX6_adversary_100 : decode cX6_adversary 100 = .ok (.if_icmp .ge 11, 3) := by decide +kernel
theorem dX6_adversary_103 : decode cX6_adversary 103 = .ok (.iload 7, 2) := by decide +kernel
theorem dX6_adversary_105 : decode cX6_adversary 105 = .ok (.istore 4, 2) := by decide +kernel
theorem dX6_adversary_107 : decode cX6_adversary 107 = .ok (.iload 6, 2) := by decide +kernel
theorem dX6_adversary_109 : decode cX6_adversary 109 = .ok (.istore 5, 2) := by decide +kernel
theorem dX6_adversary_111 : decode cX6_adversary 111 = .ok (.iinc 6 1, 3) := by decide +kernel
theorem dX6_adversary_114 : decode cX6_adversary 114 = .ok (.goto (-63), 3) := by decide +kernel
theorem dX6_adversary_117 : decode cX6_adversary 117 = .ok (.iload_n 3, 1) := by decide +kernel
theorem dX6_adversary_118 : decode cX6_adversary 118 = .ok (.ifCond .ne 8, 3) := by decide +kernel
theorem dX6_adversary_121 : decode cX6_adversary 121 = .ok (.iload 4, 2) := by decide +kernel
theorem dX6_adversary_123 : decode cX6_adversary 123 = .ok (.goto 5, 3) := by decide +kernel
theorem dX6_adversary_126 : decode cX6_adversary 126 = .ok (.iload 5, 2) := by decide +kernel
theorem dX6_adversary_128 : decode cX6_adversary 128 = .ok (.ireturn, 1) := by decide +kernel
theorem dX6_undo_0 : decode cX6_undo 0 = .ok (.aload_n 0, 1) := by decide +kernel
theorem dX6_undo_1 : decode cX6_undo 1 = .ok (.getfield 57, 3) := by decide +kernel
theorem dX6_undo_4 : decode cX6_undo 4 = .ok (.ifCond .ne 6, 3) := by decide +kernel
theorem dX6_undo_7 : decode cX6_undo 7 = .ok (.bipush (-5), 2) := by decide +kernel
theorem dX6_undo_9 : decode cX6_undo 9 = .ok (.ireturn, 1) := by decide +kernel
theorem dX6_undo_10 : decode cX6_undo 10 = .ok (.aload_n 0, 1) := by decide +kernel
theorem dX6_undo_11 : decode cX6_undo 11 = .ok (.dup, 1) := by decide +kernel
theorem dX6_undo_12 : decode cX6_undo 12 = .ok (.getfield 57, 3) := by decide +kernel
theorem dX6_undo_15 : decode cX6_undo 15 = .ok (.iconst 1, 1) := by decide +kernel
theorem dX6_undo_16 : decode cX6_undo 16 = .ok (.isub, 1) := by decide +kernel
theorem dX6_undo_17 : decode cX6_undo 17 = .ok (.putfield 57, 3) := by decide +kernel
theorem dX6_undo_20 : decode cX6_undo 20 = .ok (.iconst 0, 1) := by decide +kernel
theorem dX6_undo_21 : decode cX6_undo 21 = .ok (.istore_n 1, 1) := by decide +kernel
theorem dX6_undo_22 : decode cX6_undo 22 = .ok (.iload_n 1, 1) := by decide +kernel
theorem dX6_undo_23 : decode cX6_undo 23 = .ok (.bipush 88, 2) := by decide +kernel
theorem dX6_undo_25 : decode cX6_undo 25 = .ok (.if_icmp .ge 29, 3) := by decide +kernel
theorem dX6_undo_28 : decode cX6_undo 28 = .ok (.aload_n 0, 1) := by decide +kernel
theorem dX6_undo_29 : decode cX6_undo 29 = .ok (.getfield 7, 3) := by decide +kernel
theorem dX6_undo_32 : decode cX6_undo 32 = .ok (.iload_n 1, 1) := by decide +kernel
theorem dX6_undo_33 : decode cX6_undo 33 = .ok (.aload_n 0, 1) := by decide +kernel
theorem dX6_undo_34 : decode cX6_undo 34 = .ok (.getfield 13, 3) := by decide +kernel
theorem dX6_undo_37 : decode cX6_undo 37 = .ok (.bipush 88, 2) := by decide +kernel
theorem dX6_undo_39 : decode cX6_undo 39 = .ok (.aload_n 0, 1) := by decide +kernel
theorem dX6_undo_40 : decode cX6_undo 40 = .ok (.getfield 57, 3) := by decide +kernel
theorem dX6_undo_43 : decode cX6_undo 43 = .ok (.imul, 1) := by decide +kernel
theorem dX6_undo_44 : decode cX6_undo 44 = .ok (.iload_n 1, 1) := by decide +kernel
theorem dX6_undo_45 : decode cX6_undo 45 = .ok (.iadd, 1) := by decide +kernel
theorem dX6_undo_46 : decode cX6_undo 46 = .ok (.iaload, 1) := by decide +kernel
theorem dX6_undo_47 : decode cX6_undo 47 = .ok (.iastore, 1) := by decide +kernel
theorem dX6_undo_48 : decode cX6_undo 48 = .ok (.iinc 1 1, 3) := by decide +kernel
theorem dX6_undo_51 : decode cX6_undo 51 = .ok (.goto (-29), 3) := by decide +kernel
theorem dX6_undo_54 : decode cX6_undo 54 = .ok (.aload_n 0, 1) := by decide +kernel
theorem dX6_undo_55 : decode cX6_undo 55 = .ok (.getfield 57, 3) := by decide +kernel
theorem dX6_undo_58 : decode cX6_undo 58 = .ok (.ireturn, 1) := by decide +kernel
set_option maxRecDepth 20000 in
theorem ggX6_pairs_X6_sizeOf : GoodIn wsX6_pairs wsX6_sizeOf := goodIn_r _ [5] (by decide +kernel) (by decide +kernel)
set_option maxRecDepth 20000 in
theorem gX6_pairs_X6_sizeOf : GoodIn wsX6_pairs (va_wsS RX6 155 yX6_sizeOf wsX6_sizeOf) := goodIn_app (goodIn_of _ (by decide +kernel)) ggX6_pairs_X6_sizeOf
theorem dX6_pairs_0 : decode cX6_pairs 0 = .ok (.iconst 0, 1) := by decide +kernel
theorem dX6_pairs_1 : decode cX6_pairs 1 = .ok (.istore_n 2, 1) := by decide +kernel
theorem dX6_pairs_2 : decode cX6_pairs 2 = .ok (.iconst 0, 1) := by decide +kernel
theorem dX6_pairs_3 : decode cX6_pairs 3 = .ok (.istore_n 3, 1) := by decide +kernel
theorem dX6_pairs_4 : decode cX6_pairs 4 = .ok (.iload_n 3, 1) := by decide +kernel
theorem dX6_pairs_5 : decode cX6_pairs 5 = .ok (.aload_n 0, 1) := by decide +kernel
theorem dX6_pairs_6 : decode cX6_pairs 6 = .ok (.getfield 7, 3) := by decide +kernel
theorem dX6_pairs_9 : decode cX6_pairs 9 = .ok (.iconst 0, 1) := by decide +kernel
theorem dX6_pairs_10 : decode cX6_pairs 10 = .ok (.iaload, 1) := by decide +kernel
theorem dX6_pairs_11 : decode cX6_pairs 11 = .ok (.if_icmp .ge 23, 3) := by decide +kernel
theorem dX6_pairs_14 : decode cX6_pairs 14 = .ok (.iload_n 2, 1) := by decide +kernel
theorem dX6_pairs_15 : decode cX6_pairs 15 = .ok (.aload_n 0, 1) := by decide +kernel
theorem dX6_pairs_16 : decode cX6_pairs 16 = .ok (.getfield 7, 3) := by decide +kernel
theorem dX6_pairs_19 : decode cX6_pairs 19 = .ok (.iload_n 1, 1) := by decide +kernel
theorem dX6_pairs_20 : decode cX6_pairs 20 = .ok (.iload_n 3, 1) := by decide +kernel
theorem dX6_pairs_21 : decode cX6_pairs 21 = .ok (.iadd, 1) := by decide +kernel
theorem dX6_pairs_22 : decode cX6_pairs 22 = .ok (.iaload, 1) := by decide +kernel
theorem dX6_pairs_23 : decode cX6_pairs 23 = .ok (.invokestatic 155, 3) := by decide +kernel
theorem dX6_pairs_26 : decode cX6_pairs 26 = .ok (.iadd, 1) := by decide +kernel
theorem dX6_pairs_27 : decode cX6_pairs 27 = .ok (.istore_n 2, 1) := by decide +kernel
theorem dX6_pairs_28 : decode cX6_pairs 28 = .ok (.iinc 3 1, 3) := by decide +kernel
theorem dX6_pairs_31 : decode cX6_pairs 31 = .ok (.goto (-27), 3) := by decide +kernel
theorem dX6_pairs_34 : decode cX6_pairs 34 = .ok (.iload_n 2, 1) := by decide +kernel
theorem dX6_pairs_35 : decode cX6_pairs 35 = .ok (.ireturn, 1) := by decide +kernel
set_option maxRecDepth 20000 in
theorem ggX6_count_X6_pairs : GoodIn wsX6_count wsX6_pairs := goodIn_r _ [8, 1, 9, 10, 7, 11, 12, 13, 14, 15, 16, 17, 18, 19, 20, 21, 22, 23, 24, 25, 26, 27, 28, 29, 30, 31, 32] (by decide +kernel) (by decide +kernel)
set_option maxRecDepth 20000 in
theorem gX6_count_X6_pairs : GoodIn wsX6_count (wsV RX6 203 RX6 yX6_pairs wsX6_pairs) := goodIn_app (goodIn_of _ (by decide +kernel)) ggX6_count_X6_pairs
theorem dX6_count_0 : decode cX6_count 0 = .ok (.iload_n 1, 1) := by decide +kernel
theorem dX6_count_1 : decode cX6_count 1 = .ok (.tableswitch 80 0 7 #[47, 47, 47, 47, 54, 63, 70, 75], 47) := by decide +kernel
theorem dX6_count_48 : decode cX6_count 48 = .ok (.aload_n 0, 1) := by decide +kernel
theorem dX6_count_49 : decode cX6_count 49 = .ok (.getfield 7, 3) := by decide +kernel
theorem dX6_count_52 : decode cX6_count 52 = .ok (.iload_n 1, 1) := by decide +kernel
theorem dX6_count_53 : decode cX6_count 53 = .ok (.iaload, 1) := by decide +kernel
theorem dX6_count_54 : decode cX6_count 54 = .ok (.ireturn, 1) := by decide +kernel
theorem dX6_count_55 : decode cX6_count 55 = .ok (.aload_n 0, 1) := by decide +kernel
theorem dX6_count_56 : decode cX6_count 56 = .ok (.bipush 64, 2) := by decide +kernel
theorem dX6_count_58 : decode cX6_count 58 = .ok (.invokevirtual 203, 3) := by decide +kernel
theorem dX6_count_61 : decode cX6_count 61 = .ok (.iconst 2, 1) := by decide +kernel
theorem dX6_count_62 : decode cX6_count 62 = .ok (.idiv, 1) := by decide +kernel
theorem dX6_count_63 : decode cX6_count 63 = .ok (.ireturn, 1) := by decide +kernel
theorem dX6_count_64 : decode cX6_count 64 = .ok (.aload_n 0, 1) := by decide +kernel
theorem dX6_count_65 : decode cX6_count 65 = .ok (.bipush 76, 2) := by decide +kernel
theorem dX6_count_67 : decode cX6_count 67 = .ok (.invokevirtual 203, 3) := by decide +kernel
theorem dX6_count_70 : decode cX6_count 70 = .ok (.ireturn, 1) := by decide +kernel
theorem dX6_count_71 : decode cX6_count 71 = .ok (.aload_n 0, 1) := by decide +kernel
theorem dX6_count_72 : decode cX6_count 72 = .ok (.getfield 92, 3) := by decide +kernel
theorem dX6_count_75 : decode cX6_count 75 = .ok (.ireturn, 1) := by decide +kernel
theorem dX6_count_76 : decode cX6_count 76 = .ok (.aload_n 0, 1) := by decide +kernel
theorem dX6_count_77 : decode cX6_count 77 = .ok (.getfield 57, 3) := by decide +kernel
theorem dX6_count_80 : decode cX6_count 80 = .ok (.ireturn, 1) := by decide +kernel
theorem dX6_count_81 : decode cX6_count 81 = .ok (.bipush (-2), 2) := by decide +kernel
theorem dX6_count_83 : decode cX6_count 83 = .ok (.ireturn, 1) := by decide +kernel
